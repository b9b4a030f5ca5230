section PC1
variable {l : Launch} {D : va_G} {Z : (Nat → Nat) × (Nat → Nat)} {K : Nat → ClassId}
theorem dX6_work_0 : decode cX6_work 0 = .ok (.iconst 0, 1) := by decide +kernel
theorem dX6_work_1 : decode cX6_work 1 = .ok (.istore_n 3, 1) := by decide +kernel
theorem dX6_work_2 : decode cX6_work 2 = .ok (.iload_n 1, 1) := by decide +kernel
theorem dX6_work_3 : decode cX6_work 3 = .ok (.istore 4, 2) := by decide +kernel
theorem dX6_work_5 : decode cX6_work 5 = .ok (.iload 4, 2) := by decide +kernel
theorem dX6_work_7 : decode cX6_work 7 = .ok (.iload_n 2, 1) := by decide +kernel
theorem dX6_work_8 : decode cX6_work 8 = .ok (.if_icmp .ge 294, 3) := by decide +kernel
theorem dX6_work_11 : decode cX6_work 11 = .ok (.iload 4, 2) := by decide +kernel
theorem dX6_work_13 : decode cX6_work 13 = .ok (.aload_n 0, 1) := by decide +kernel
theorem dX6_work_14 : decode cX6_work 14 = .ok (.getfield 15, 3) := by decide +kernel
theorem dX6_work_17 : decode cX6_work 17 = .ok (.if_icmp .ge 285, 3) := by decide +kernel
theorem dX6_work_20 : decode cX6_work 20 = .ok (.aload_n 0, 1) := by decide +kernel
theorem dX6_work_21 : decode cX6_work 21 = .ok (.getfield 9, 3) := by decide +kernel
theorem dX6_work_24 : decode cX6_work 24 = .ok (.iload 4, 2) := by decide +kernel
theorem dX6_work_26 : decode cX6_work 26 = .ok (.iaload, 1) := by decide +kernel
theorem dX6_work_27 : decode cX6_work 27 = .ok (.bipush 15, 2) := by decide +kernel
theorem dX6_work_29 : decode cX6_work 29 = .ok (.iand, 1) := by decide +kernel
theorem dX6_work_30 : decode cX6_work 30 = .ok (.istore 5, 2) := by decide +kernel
theorem dX6_work_32 : decode cX6_work 32 = .ok (.aload_n 0, 1) := by decide +kernel
theorem dX6_work_33 : decode cX6_work 33 = .ok (.getfield 9, 3) := by decide +kernel
theorem dX6_work_36 : decode cX6_work 36 = .ok (.iload 4, 2) := by decide +kernel
theorem dX6_work_38 : decode cX6_work 38 = .ok (.iaload, 1) := by decide +kernel
theorem dX6_work_39 : decode cX6_work 39 = .ok (.iconst 4, 1) := by decide +kernel
theorem dX6_work_40 : decode cX6_work 40 = .ok (.ishr, 1) := by decide +kernel
theorem dX6_work_41 : decode cX6_work 41 = .ok (.istore 6, 2) := by decide +kernel
theorem dX6_work_43 : decode cX6_work 43 = .ok (.iload 5, 2) := by decide +kernel
theorem dX6_work_45 : decode cX6_work 45 = .ok (.ifCond .eq 9, 3) := by decide +kernel
theorem dX6_work_48 : decode cX6_work 48 = .ok (.iload 5, 2) := by decide +kernel
theorem dX6_work_50 : decode cX6_work 50 = .ok (.iconst 1, 1) := by decide +kernel
theorem dX6_work_51 : decode cX6_work 51 = .ok (.if_icmp .ne 33, 3) := by decide +kernel
theorem dX6_work_54 : decode cX6_work 54 = .ok (.aload_n 0, 1) := by decide +kernel
theorem dX6_work_55 : decode cX6_work 55 = .ok (.getfield 44, 3) := by decide +kernel
theorem dX6_work_58 : decode cX6_work 58 = .ok (.iload_n 3, 1) := by decide +kernel
theorem dX6_work_59 : decode cX6_work 59 = .ok (.iload 5, 2) := by decide +kernel
theorem dX6_work_61 : decode cX6_work 61 = .ok (.ifCond .ne 9, 3) := by decide +kernel
theorem dX6_work_64 : decode cX6_work 64 = .ok (.iload 6, 2) := by decide +kernel
theorem dX6_work_66 : decode cX6_work 66 = .ok (.i2l, 1) := by decide +kernel
theorem dX6_work_67 : decode cX6_work 67 = .ok (.goto 10, 3) := by decide +kernel
theorem dX6_work_70 : decode cX6_work 70 = .ok (.aload_n 0, 1) := by decide +kernel
theorem dX6_work_71 : decode cX6_work 71 = .ok (.getfield 40, 3) := by decide +kernel
theorem dX6_work_74 : decode cX6_work 74 = .ok (.iload 6, 2) := by decide +kernel
theorem dX6_work_76 : decode cX6_work 76 = .ok (.laload, 1) := by decide +kernel
theorem dX6_work_77 : decode cX6_work 77 = .ok (.lastore, 1) := by decide +kernel
theorem dX6_work_78 : decode cX6_work 78 = .ok (.iinc 3 1, 3) := by decide +kernel
theorem dX6_work_81 : decode cX6_work 81 = .ok (.goto 215, 3) := by decide +kernel
theorem dX6_work_84 : decode cX6_work 84 = .ok (.iload 5, 2) := by decide +kernel
theorem dX6_work_86 : decode cX6_work 86 = .ok (.iconst 2, 1) := by decide +kernel
theorem dX6_work_87 : decode cX6_work 87 = .ok (.if_icmp .eq 6, 3) := by decide +kernel
theorem dX6_work_90 : decode cX6_work 90 = .ok (.iinc 3 (-1), 3) := by decide +kernel
theorem dX6_work_93 : decode cX6_work 93 = .ok (.iload_n 3, 1) := by decide +kernel
theorem dX6_work_94 : decode cX6_work 94 = .ok (.iconst 1, 1) := by decide +kernel
theorem dX6_work_95 : decode cX6_work 95 = .ok (.if_icmp .ge 5, 3) := by decide +kernel
theorem dX6_work_98 : decode cX6_work 98 = .ok (.lconst 0, 1) := by decide +kernel
theorem dX6_work_99 : decode cX6_work 99 = .ok (.lreturn, 1) := by decide +kernel
theorem dX6_work_100 : decode cX6_work 100 = .ok (.aload_n 0, 1) := by decide +kernel
theorem dX6_work_101 : decode cX6_work 101 = .ok (.getfield 44, 3) := by decide +kernel
theorem dX6_work_104 : decode cX6_work 104 = .ok (.iload_n 3, 1) := by decide +kernel
theorem dX6_work_105 : decode cX6_work 105 = .ok (.iconst 1, 1) := by decide +kernel
theorem dX6_work_106 : decode cX6_work 106 = .ok (.isub, 1) := by decide +kernel
theorem dX6_work_107 : decode cX6_work 107 = .ok (.laload, 1) := by decide +kernel
theorem dX6_work_108 : decode cX6_work 108 = .ok (.lstore 7, 2) := by decide +kernel
theorem dX6_work_110 : decode cX6_work 110 = .ok (.aload_n 0, 1) := by decide +kernel
theorem dX6_work_111 : decode cX6_work 111 = .ok (.getfield 44, 3) := by decide +kernel
theorem dX6_work_114 : decode cX6_work 114 = .ok (.iload_n 3, 1) := by decide +kernel
theorem dX6_work_115 : decode cX6_work 115 = .ok (.laload, 1) := by decide +kernel
theorem dX6_work_116 : decode cX6_work 116 = .ok (.lstore 9, 2) := by decide +kernel
theorem dX6_work_118 : decode cX6_work 118 = .ok (.iload 5, 2) := by decide +kernel
theorem dX6_work_120 : decode cX6_work 120 = .ok (.tableswitch 149 2 9 #[48, 57, 67, 77, 87, 97, 107, 128], 48) := by decide +kernel
theorem dX6_work_168 : decode cX6_work 168 = .ok (.lconst 1, 1) := by decide +kernel
theorem dX6_work_169 : decode cX6_work 169 = .ok (.lload 7, 2) := by decide +kernel
theorem dX6_work_171 : decode cX6_work 171 = .ok (.lsub, 1) := by decide +kernel
theorem dX6_work_172 : decode cX6_work 172 = .ok (.lstore 7, 2) := by decide +kernel
theorem dX6_work_174 : decode cX6_work 174 = .ok (.goto 112, 3) := by decide +kernel
theorem dX6_work_177 : decode cX6_work 177 = .ok (.lload 7, 2) := by decide +kernel
theorem dX6_work_179 : decode cX6_work 179 = .ok (.lload 9, 2) := by decide +kernel
theorem dX6_work_181 : decode cX6_work 181 = .ok (.land, 1) := by decide +kernel
theorem dX6_work_182 : decode cX6_work 182 = .ok (.lstore 7, 2) := by decide +kernel
theorem dX6_work_184 : decode cX6_work 184 = .ok (.goto 102, 3) := by decide +kernel
theorem dX6_work_187 : decode cX6_work 187 = .ok (.lload 7, 2) := by decide +kernel
theorem dX6_work_189 : decode cX6_work 189 = .ok (.lload 9, 2) := by decide +kernel
theorem dX6_work_191 : decode cX6_work 191 = .ok (.lor, 1) := by decide +kernel
theorem dX6_work_192 : decode cX6_work 192 = .ok (.lstore 7, 2) := by decide +kernel
theorem dX6_work_194 : decode cX6_work 194 = .ok (.goto 92, 3) := by decide +kernel
theorem dX6_work_197 : decode cX6_work 197 = .ok (.lload 7, 2) := by decide +kernel
theorem dX6_work_199 : decode cX6_work 199 = .ok (.lload 9, 2) := by decide +kernel
theorem dX6_work_201 : decode cX6_work 201 = .ok (.ladd, 1) := by decide +kernel
theorem dX6_work_202 : decode cX6_work 202 = .ok (.lstore 7, 2) := by decide +kernel
theorem dX6_work_204 : decode cX6_work 204 = .ok (.goto 82, 3) := by decide +kernel
theorem dX6_work_207 : decode cX6_work 207 = .ok (.lload 7, 2) := by decide +kernel
theorem dX6_work_209 : decode cX6_work 209 = .ok (.lload 9, 2) := by decide +kernel
theorem dX6_work_211 : decode cX6_work 211 = .ok (.lsub, 1) := by decide +kernel
theorem dX6_work_212 : decode cX6_work 212 = .ok (.lstore 7, 2) := by decide +kernel
theorem dX6_work_214 : decode cX6_work 214 = .ok (.goto 72, 3) := by decide +kernel
theorem dX6_work_217 : decode cX6_work 217 = .ok (.lload 7, 2) := by decide +kernel
theorem dX6_work_219 : decode cX6_work 219 = .ok (.lload 9, 2) := by decide +kernel
theorem dX6_work_221 : decode cX6_work 221 = .ok (.lmul, 1) := by decide +kernel
theorem dX6_work_222 : decode cX6_work 222 = .ok (.lstore 7, 2) := by decide +kernel
theorem dX6_work_224 : decode cX6_work 224 = .ok (.goto 62, 3) := by decide +kernel
theorem dX6_work_227 : decode cX6_work 227 = .ok (.lload 9, 2) := by decide +kernel
theorem dX6_work_229 : decode cX6_work 229 = .ok (.lconst 0, 1) := by decide +kernel
theorem dX6_work_230 : decode cX6_work 230 = .ok (.lcmp, 1) := by decide +kernel
theorem dX6_work_231 : decode cX6_work 231 = .ok (.ifCond .ne 7, 3) := by decide +kernel
theorem dX6_work_234 : decode cX6_work 234 = .ok (.lconst 0, 1) := by decide +kernel
theorem dX6_work_235 : decode cX6_work 235 = .ok (.goto 8, 3) := by decide +kernel
theorem dX6_work_238 : decode cX6_work 238 = .ok (.lload 7, 2) := by decide +kernel
theorem dX6_work_240 : decode cX6_work 240 = .ok (.lload 9, 2) := by decide +kernel
theorem dX6_work_242 : decode cX6_work 242 = .ok (.ldiv, 1) := by decide +kernel
theorem dX6_work_243 : decode cX6_work 243 = .ok (.lstore 7, 2) := by decide +kernel
theorem dX6_work_245 : decode cX6_work 245 = .ok (.goto 41, 3) := by decide +kernel
theorem dX6_work_248 : decode cX6_work 248 = .ok (.lload 9, 2) := by decide +kernel
theorem dX6_work_250 : decode cX6_work 250 = .ok (.lconst 0, 1) := by decide +kernel
theorem dX6_work_251 : decode cX6_work 251 = .ok (.lcmp, 1) := by decide +kernel
theorem dX6_work_252 : decode cX6_work 252 = .ok (.ifCond .ne 7, 3) := by decide +kernel
theorem dX6_work_255 : decode cX6_work 255 = .ok (.lconst 0, 1) := by decide +kernel
theorem dX6_work_256 : decode cX6_work 256 = .ok (.goto 8, 3) := by decide +kernel
theorem dX6_work_259 : decode cX6_work 259 = .ok (.lload 7, 2) := by decide +kernel
theorem dX6_work_261 : decode cX6_work 261 = .ok (.lload 9, 2) := by decide +kernel
theorem dX6_work_263 : decode cX6_work 263 = .ok (.lrem, 1) := by decide +kernel
theorem dX6_work_264 : decode cX6_work 264 = .ok (.lstore 7, 2) := by decide +kernel
theorem dX6_work_266 : decode cX6_work 266 = .ok (.goto 20, 3) := by decide +kernel
theorem dX6_work_269 : decode cX6_work 269 = .ok (.iload 6, 2) := by decide +kernel
theorem dX6_work_271 : decode cX6_work 271 = .ok (.iconst 1, 1) := by decide +kernel
theorem dX6_work_272 : decode cX6_work 272 = .ok (.lload 7, 2) := by decide +kernel
theorem dX6_work_274 : decode cX6_work 274 = .ok (.lload 9, 2) := by decide +kernel
theorem dX6_work_276 : decode cX6_work 276 = .ok (.invokestatic 93, 3) := by decide +kernel
theorem dX6_work_279 : decode cX6_work 279 = .ok (.iadd, 1) := by decide +kernel
theorem dX6_work_280 : decode cX6_work 280 = .ok (.ishr, 1) := by decide +kernel
theorem dX6_work_281 : decode cX6_work 281 = .ok (.iconst 1, 1) := by decide +kernel
theorem dX6_work_282 : decode cX6_work 282 = .ok (.iand, 1) := by decide +kernel
theorem dX6_work_283 : decode cX6_work 283 = .ok (.i2l, 1) := by decide +kernel
theorem dX6_work_284 : decode cX6_work 284 = .ok (.lstore 7, 2) := by decide +kernel
theorem dX6_work_286 : decode cX6_work 286 = .ok (.aload_n 0, 1) := by decide +kernel
theorem dX6_work_287 : decode cX6_work 287 = .ok (.getfield 44, 3) := by decide +kernel
theorem dX6_work_290 : decode cX6_work 290 = .ok (.iload_n 3, 1) := by decide +kernel
theorem dX6_work_291 : decode cX6_work 291 = .ok (.iconst 1, 1) := by decide +kernel
theorem dX6_work_292 : decode cX6_work 292 = .ok (.isub, 1) := by decide +kernel
theorem dX6_work_293 : decode cX6_work 293 = .ok (.lload 7, 2) := by decide +kernel
theorem dX6_work_295 : decode cX6_work 295 = .ok (.lastore, 1) := by decide +kernel
theorem dX6_work_296 : decode cX6_work 296 = .ok (.iinc 4 1, 3) := by decide +kernel
theorem dX6_work_299 : decode cX6_work 299 = .ok (.goto (-294), 3) := by decide +kernel
theorem dX6_work_302 : decode cX6_work 302 = .ok (.iload_n 3, 1) := by decide +kernel
theorem dX6_work_303 : decode cX6_work 303 = .ok (.ifCond .le 14, 3) := by decide +kernel
theorem dX6_work_306 : decode cX6_work 306 = .ok (.aload_n 0, 1) := by decide +kernel
theorem dX6_work_307 : decode cX6_work 307 = .ok (.getfield 44, 3) := by decide +kernel
theorem dX6_work_310 : decode cX6_work 310 = .ok (.iload_n 3, 1) := by decide +kernel
theorem dX6_work_311 : decode cX6_work 311 = .ok (.iconst 1, 1) := by decide +kernel
theorem dX6_work_312 : decode cX6_work 312 = .ok (.isub, 1) := by decide +kernel
theorem dX6_work_313 : decode cX6_work 313 = .ok (.laload, 1) := by decide +kernel
theorem dX6_work_314 : decode cX6_work 314 = .ok (.goto 4, 3) := by decide +kernel
theorem dX6_work_317 : decode cX6_work 317 = .ok (.lconst 0, 1) := by decide +kernel
theorem dX6_work_318 : decode cX6_work 318 = .ok (.lreturn, 1) := by decide +kernel
abbrev MRule_work : rx_M := (RX6, yX6_work, cX6_work, 11, (some .long), 3)
theorem kRule_work : rKv MRule_work 2 := ⟨tb_in (i := 5) (j := 9) rfl rfl, tb_in (i := 5) (j := 10) rfl rfl, tb_in (i := 5) (j := 7) rfl rfl, tb_in (i := 4) (j := 25) rfl rfl, ⟨by decide, by decide, by decide +kernel⟩, by decide⟩
section
variable {a0 : Nat → Nat} {z0_steps : Nat → Int32} {z0_size : Int32} {z0_sumFrom : Nat → Int32} {z0_testFrom : Nat → Int32} {z0_testTo : Nat → Int32} {z0_clauses : Int32} {z0_parts : Int32} {z0_readsTime : Int32} {z0_words : Nat → Int64} {z0_stack : Nat → Int64}
def mRule_work_j54 (k5 : Int32 → Int32 → (Nat → Int64) → Option (Int64 × (Nat → Int64))) (x2 : Int32) (x3 : Int32) (x4 : Int32) (x5 : Int32) (x6 : Int32) (z0_steps : Nat → Int32) (z0_size : Int32) (z0_words : Nat → Int64) (z0_stack : Nat → Int64) : Option (Int64 × (Nat → Int64)) := (if x5 = 0 then rq (inb x3 61) (lt (vp_updL z0_stack x3.toNatClampNeg (x6.toInt64)) (fun u15 => k5 (x3 + (1 : Int32)) (x4 + (1 : Int32)) u15)) else rq (inb x6 12) (rq (inb x3 61) (lt (vp_updL z0_stack x3.toNatClampNeg (z0_words x6.toNatClampNeg)) (fun u14 => k5 (x3 + (1 : Int32)) (x4 + (1 : Int32)) u14))))
set_option maxHeartbeats 4000000 in
set_option maxRecDepth 20000 in
theorem cRule_work_j54 {q : Int64 × (Nat → Int64)} {x2 : Int32} {x3 : Int32} {x4 : Int32} {x5 : Int32} {x6 : Int32} {k5 : Int32 → Int32 → (Nat → Int64) → Option (Int64 × (Nat → Int64))} (hk5 : ∀ (x3 : Int32) (x4 : Int32) (z0_stack : Nat → Int64), k5 x3 x4 z0_stack = some q → rW l D Z (ty7 K) MRule_work 5 [(0, .ref (a0 0)), (2, .int x2), (3, .int x3), (4, .int x4)] [] (List.flatten [bRule K a0 z0_steps z0_size z0_sumFrom z0_testFrom z0_testTo z0_clauses z0_parts z0_readsTime z0_words z0_stack]) (List.flatten [bRule K a0 z0_steps z0_size z0_sumFrom z0_testFrom z0_testTo z0_clauses z0_parts z0_readsTime z0_words q.2]) (some (.long q.1))) (h : mRule_work_j54 k5 x2 x3 x4 x5 x6 z0_steps z0_size z0_words z0_stack = some q) : rW l D Z (ty7 K) MRule_work 54 [(0, .ref (a0 0)), (2, .int x2), (3, .int x3), (4, .int x4), (5, .int x5), (6, .int x6)] [] (List.flatten [bRule K a0 z0_steps z0_size z0_sumFrom z0_testFrom z0_testTo z0_clauses z0_parts z0_readsTime z0_words z0_stack]) (List.flatten [bRule K a0 z0_steps z0_size z0_sumFrom z0_testFrom z0_testTo z0_clauses z0_parts z0_readsTime z0_words q.2]) (some (.long q.1)) := by
  unfold mRule_work_j54 at h
  refine r_aload_n 0 dX6_work_54 rfl ?_
  refine gRule_stack 0 rfl (tb_in (i := 4) (j := 28) rfl rfl) dX6_work_55 ?_
  refine r_iload_n 2 dX6_work_58 rfl ?_
  refine r_iload 4 dX6_work_59 rfl ?_
  refine r_if_ne 70 dX6_work_61 (by decide) (fun c12 => ?_) (fun c12 => ?_)
  · replace h := it_neg c12 h
    refine r_aload_n 0 dX6_work_70 rfl ?_
    refine gRule_words 0 rfl (tb_in (i := 4) (j := 23) rfl rfl) dX6_work_71 ?_
    refine r_iload 5 dX6_work_74 rfl ?_
    obtain ⟨h13, h⟩ := rq_some h
    refine lRule_words 0 rfl (inb_in h13) dX6_work_76 ?_
    obtain ⟨h14, h⟩ := rq_some h
    obtain ⟨u14, e14, h⟩ := lt_some h
    refine sRule_stack (bs1 := [bRule K a0 z0_steps z0_size z0_sumFrom z0_testFrom z0_testTo z0_clauses z0_parts z0_readsTime z0_words u14]) 0 e14 rfl (inb_in h14) rfl dX6_work_77 ?_
    refine r_iinc (y := (x3 + (1 : Int32))) (lv' := [(3, .int (x3 + (1 : Int32))), (0, .ref (a0 0)), (2, .int x2), (4, .int x4), (5, .int x5), (6, .int x6)]) 2 dX6_work_78 rfl rfl (Nat.le_of_ble_eq_true rfl) rfl ?_
    refine r_goto 296 dX6_work_81 (by decide) ?_
    refine r_iinc (y := (x4 + (1 : Int32))) (lv' := [(4, .int (x4 + (1 : Int32))), (3, .int (x3 + (1 : Int32))), (0, .ref (a0 0)), (2, .int x2), (5, .int x5), (6, .int x6)]) 3 dX6_work_296 rfl rfl (Nat.le_of_ble_eq_true rfl) rfl ?_
    refine r_goto 5 dX6_work_299 (by decide) ?_
    refine r_sub (lv' := [(0, .ref (a0 0)), (2, .int x2), (3, .int (x3 + (1 : Int32))), (4, .int (x4 + (1 : Int32)))]) [2, 3, 1, 0] rfl ?_
    exact hk5 (x3 + (1 : Int32)) (x4 + (1 : Int32)) u14 h
  · replace h := it_pos c12 h
    refine r_iload 5 dX6_work_64 rfl ?_
    refine r_i2l dX6_work_66 ?_
    refine r_goto 77 dX6_work_67 (by decide) ?_
    obtain ⟨h15, h⟩ := rq_some h
    obtain ⟨u15, e15, h⟩ := lt_some h
    refine sRule_stack (bs1 := [bRule K a0 z0_steps z0_size z0_sumFrom z0_testFrom z0_testTo z0_clauses z0_parts z0_readsTime z0_words u15]) 0 e15 rfl (inb_in h15) rfl dX6_work_77 ?_
    refine r_iinc (y := (x3 + (1 : Int32))) (lv' := [(3, .int (x3 + (1 : Int32))), (0, .ref (a0 0)), (2, .int x2), (4, .int x4), (5, .int x5), (6, .int x6)]) 2 dX6_work_78 rfl rfl (Nat.le_of_ble_eq_true rfl) rfl ?_
    refine r_goto 296 dX6_work_81 (by decide) ?_
    refine r_iinc (y := (x4 + (1 : Int32))) (lv' := [(4, .int (x4 + (1 : Int32))), (3, .int (x3 + (1 : Int32))), (0, .ref (a0 0)), (2, .int x2), (5, .int x5), (6, .int x6)]) 3 dX6_work_296 rfl rfl (Nat.le_of_ble_eq_true rfl) rfl ?_
    refine r_goto 5 dX6_work_299 (by decide) ?_
    refine r_sub (lv' := [(0, .ref (a0 0)), (2, .int x2), (3, .int (x3 + (1 : Int32))), (4, .int (x4 + (1 : Int32)))]) [2, 3, 1, 0] rfl ?_
    exact hk5 (x3 + (1 : Int32)) (x4 + (1 : Int32)) u15 h
def mRule_work_j93 (k5 : Int32 → Int32 → (Nat → Int64) → Option (Int64 × (Nat → Int64))) (x2 : Int32) (x3 : Int32) (x4 : Int32) (x5 : Int32) (x6 : Int32) (z0_steps : Nat → Int32) (z0_size : Int32) (z0_words : Nat → Int64) (z0_stack : Nat → Int64) : Option (Int64 × (Nat → Int64)) := (if (1 : Int32) ≤ x3 then rq (inb (x3 - (1 : Int32)) 61) (lt (z0_stack (x3 - (1 : Int32)).toNatClampNeg) (fun y20 => rq (inb x3 61) (lt (z0_stack x3.toNatClampNeg) (fun y22 => (if x5 = (2 : Int32) then lt ((1 : Int64) - y20) (fun y24 => rq (inb (x3 - (1 : Int32)) 61) (lt (vp_updL z0_stack (x3 - (1 : Int32)).toNatClampNeg y24) (fun u25 => k5 x3 (x4 + (1 : Int32)) u25))) else if x5 = (3 : Int32) then lt (y20 &&& y22) (fun y27 => rq (inb (x3 - (1 : Int32)) 61) (lt (vp_updL z0_stack (x3 - (1 : Int32)).toNatClampNeg y27) (fun u28 => k5 x3 (x4 + (1 : Int32)) u28))) else if x5 = (4 : Int32) then lt (y20 ||| y22) (fun y30 => rq (inb (x3 - (1 : Int32)) 61) (lt (vp_updL z0_stack (x3 - (1 : Int32)).toNatClampNeg y30) (fun u31 => k5 x3 (x4 + (1 : Int32)) u31))) else if x5 = (5 : Int32) then lt (y20 + y22) (fun y33 => rq (inb (x3 - (1 : Int32)) 61) (lt (vp_updL z0_stack (x3 - (1 : Int32)).toNatClampNeg y33) (fun u34 => k5 x3 (x4 + (1 : Int32)) u34))) else if x5 = (6 : Int32) then lt (y20 - y22) (fun y36 => rq (inb (x3 - (1 : Int32)) 61) (lt (vp_updL z0_stack (x3 - (1 : Int32)).toNatClampNeg y36) (fun u37 => k5 x3 (x4 + (1 : Int32)) u37))) else if x5 = (7 : Int32) then lt (y20 * y22) (fun y39 => rq (inb (x3 - (1 : Int32)) 61) (lt (vp_updL z0_stack (x3 - (1 : Int32)).toNatClampNeg y39) (fun u40 => k5 x3 (x4 + (1 : Int32)) u40))) else if x5 = (8 : Int32) then (if (lg_cmp y22 (0 : Int64)) = 0 then rq (inb (x3 - (1 : Int32)) 61) (lt (vp_updL z0_stack (x3 - (1 : Int32)).toNatClampNeg (0 : Int64)) (fun u46 => k5 x3 (x4 + (1 : Int32)) u46)) else rq (decide (¬ y22 = 0)) (lt (y20 / y22) (fun y44 => rq (inb (x3 - (1 : Int32)) 61) (lt (vp_updL z0_stack (x3 - (1 : Int32)).toNatClampNeg y44) (fun u45 => k5 x3 (x4 + (1 : Int32)) u45))))) else if x5 = (9 : Int32) then (if (lg_cmp y22 (0 : Int64)) = 0 then rq (inb (x3 - (1 : Int32)) 61) (lt (vp_updL z0_stack (x3 - (1 : Int32)).toNatClampNeg (0 : Int64)) (fun u52 => k5 x3 (x4 + (1 : Int32)) u52)) else rq (decide (¬ y22 = 0)) (lt (y20 - y20 / y22 * y22) (fun y50 => rq (inb (x3 - (1 : Int32)) 61) (lt (vp_updL z0_stack (x3 - (1 : Int32)).toNatClampNeg y50) (fun u51 => k5 x3 (x4 + (1 : Int32)) u51))))) else lt (((x6 >>> (((1 : Int32) + (lg_cmp y20 y22)) &&& 31)) &&& (1 : Int32)).toInt64) (fun y53 => rq (inb (x3 - (1 : Int32)) 61) (lt (vp_updL z0_stack (x3 - (1 : Int32)).toNatClampNeg y53) (fun u54 => k5 x3 (x4 + (1 : Int32)) u54)))))))) else some ((0 : Int64), z0_stack))
set_option maxHeartbeats 4000000 in
set_option maxRecDepth 20000 in
theorem cRule_work_j93 {q : Int64 × (Nat → Int64)} {x2 : Int32} {x3 : Int32} {x4 : Int32} {x5 : Int32} {x6 : Int32} {k5 : Int32 → Int32 → (Nat → Int64) → Option (Int64 × (Nat → Int64))} (hk5 : ∀ (x3 : Int32) (x4 : Int32) (z0_stack : Nat → Int64), k5 x3 x4 z0_stack = some q → rW l D Z (ty7 K) MRule_work 5 [(0, .ref (a0 0)), (2, .int x2), (3, .int x3), (4, .int x4)] [] (List.flatten [bRule K a0 z0_steps z0_size z0_sumFrom z0_testFrom z0_testTo z0_clauses z0_parts z0_readsTime z0_words z0_stack]) (List.flatten [bRule K a0 z0_steps z0_size z0_sumFrom z0_testFrom z0_testTo z0_clauses z0_parts z0_readsTime z0_words q.2]) (some (.long q.1))) (h : mRule_work_j93 k5 x2 x3 x4 x5 x6 z0_steps z0_size z0_words z0_stack = some q) : rW l D Z (ty7 K) MRule_work 93 [(0, .ref (a0 0)), (2, .int x2), (3, .int x3), (4, .int x4), (5, .int x5), (6, .int x6)] [] (List.flatten [bRule K a0 z0_steps z0_size z0_sumFrom z0_testFrom z0_testTo z0_clauses z0_parts z0_readsTime z0_words z0_stack]) (List.flatten [bRule K a0 z0_steps z0_size z0_sumFrom z0_testFrom z0_testTo z0_clauses z0_parts z0_readsTime z0_words q.2]) (some (.long q.1)) := by
  unfold mRule_work_j93 at h
  refine r_iload_n 2 dX6_work_93 rfl ?_
  refine r_iconst (x := (1 : Int32)) dX6_work_94 (by decide) ?_
  refine r_icmp_ge 100 dX6_work_95 (by decide) (fun c18 => ?_) (fun c18 => ?_)
  · replace h := it_pos c18 h
    refine r_aload_n 0 dX6_work_100 rfl ?_
    refine gRule_stack 0 rfl (tb_in (i := 4) (j := 28) rfl rfl) dX6_work_101 ?_
    refine r_iload_n 2 dX6_work_104 rfl ?_
    refine r_iconst (x := (1 : Int32)) dX6_work_105 (by decide) ?_
    refine r_isub dX6_work_106 ?_
    obtain ⟨h19, h⟩ := rq_some h
    refine lRule_stack 0 rfl (inb_in h19) dX6_work_107 ?_
    obtain ⟨y20, e20, h⟩ := lt_some h
    refine r_topl e20 ?_
    refine r_lstore (lv' := [(7, .long y20), (0, .ref (a0 0)), (2, .int x2), (3, .int x3), (4, .int x4), (5, .int x5), (6, .int x6)]) dX6_work_108 (Nat.le_of_ble_eq_true rfl) rfl ?_
    refine r_aload_n 1 dX6_work_110 rfl ?_
    refine gRule_stack 0 rfl (tb_in (i := 4) (j := 28) rfl rfl) dX6_work_111 ?_
    refine r_iload_n 3 dX6_work_114 rfl ?_
    obtain ⟨h21, h⟩ := rq_some h
    refine lRule_stack 0 rfl (inb_in h21) dX6_work_115 ?_
    obtain ⟨y22, e22, h⟩ := lt_some h
    refine r_topl e22 ?_
    refine r_lstore (lv' := [(9, .long y22), (7, .long y20), (0, .ref (a0 0)), (2, .int x2), (3, .int x3), (4, .int x4), (5, .int x5), (6, .int x6)]) dX6_work_116 (Nat.le_of_ble_eq_true rfl) rfl ?_
    refine r_iload 6 dX6_work_118 rfl ?_
    by_cases c23 : x5 = (2 : Int32)
    · replace h := it_pos c23 h
      refine r_tableIn 168 dX6_work_120 (by rw [c23]; decide) (by rw [c23]; decide) (by rw [c23]; rfl) (by decide) ?_
      refine r_lconst (x := (1 : Int64)) dX6_work_168 (by decide) ?_
      refine r_lload 1 dX6_work_169 rfl ?_
      refine r_lsub dX6_work_171 ?_
      obtain ⟨y24, e24, h⟩ := lt_some h
      refine r_topl e24 ?_
      refine r_lstore (lv' := [(7, .long y24), (9, .long y22), (0, .ref (a0 0)), (2, .int x2), (3, .int x3), (4, .int x4), (5, .int x5), (6, .int x6)]) dX6_work_172 (Nat.le_of_ble_eq_true rfl) rfl ?_
      refine r_goto 286 dX6_work_174 (by decide) ?_
      refine r_aload_n 2 dX6_work_286 rfl ?_
      refine gRule_stack 0 rfl (tb_in (i := 4) (j := 28) rfl rfl) dX6_work_287 ?_
      refine r_iload_n 4 dX6_work_290 rfl ?_
      refine r_iconst (x := (1 : Int32)) dX6_work_291 (by decide) ?_
      refine r_isub dX6_work_292 ?_
      refine r_lload 0 dX6_work_293 rfl ?_
      obtain ⟨h25, h⟩ := rq_some h
      obtain ⟨u25, e25, h⟩ := lt_some h
      refine sRule_stack (bs1 := [bRule K a0 z0_steps z0_size z0_sumFrom z0_testFrom z0_testTo z0_clauses z0_parts z0_readsTime z0_words u25]) 0 e25 rfl (inb_in h25) rfl dX6_work_295 ?_
      refine r_iinc (y := (x4 + (1 : Int32))) (lv' := [(4, .int (x4 + (1 : Int32))), (7, .long y24), (9, .long y22), (0, .ref (a0 0)), (2, .int x2), (3, .int x3), (5, .int x5), (6, .int x6)]) 5 dX6_work_296 rfl rfl (Nat.le_of_ble_eq_true rfl) rfl ?_
      refine r_goto 5 dX6_work_299 (by decide) ?_
      refine r_sub (lv' := [(0, .ref (a0 0)), (2, .int x2), (3, .int x3), (4, .int (x4 + (1 : Int32)))]) [3, 4, 5, 0] rfl ?_
      exact hk5 x3 (x4 + (1 : Int32)) u25 h
    replace h := it_neg c23 h
    by_cases c26 : x5 = (3 : Int32)
    · replace h := it_pos c26 h
      refine r_tableIn 177 dX6_work_120 (by rw [c26]; decide) (by rw [c26]; decide) (by rw [c26]; rfl) (by decide) ?_
      refine r_lload 1 dX6_work_177 rfl ?_
      refine r_lload 0 dX6_work_179 rfl ?_
      refine r_land dX6_work_181 ?_
      obtain ⟨y27, e27, h⟩ := lt_some h
      refine r_topl e27 ?_
      refine r_lstore (lv' := [(7, .long y27), (9, .long y22), (0, .ref (a0 0)), (2, .int x2), (3, .int x3), (4, .int x4), (5, .int x5), (6, .int x6)]) dX6_work_182 (Nat.le_of_ble_eq_true rfl) rfl ?_
      refine r_goto 286 dX6_work_184 (by decide) ?_
      refine r_aload_n 2 dX6_work_286 rfl ?_
      refine gRule_stack 0 rfl (tb_in (i := 4) (j := 28) rfl rfl) dX6_work_287 ?_
      refine r_iload_n 4 dX6_work_290 rfl ?_
      refine r_iconst (x := (1 : Int32)) dX6_work_291 (by decide) ?_
      refine r_isub dX6_work_292 ?_
      refine r_lload 0 dX6_work_293 rfl ?_
      obtain ⟨h28, h⟩ := rq_some h
      obtain ⟨u28, e28, h⟩ := lt_some h
      refine sRule_stack (bs1 := [bRule K a0 z0_steps z0_size z0_sumFrom z0_testFrom z0_testTo z0_clauses z0_parts z0_readsTime z0_words u28]) 0 e28 rfl (inb_in h28) rfl dX6_work_295 ?_
      refine r_iinc (y := (x4 + (1 : Int32))) (lv' := [(4, .int (x4 + (1 : Int32))), (7, .long y27), (9, .long y22), (0, .ref (a0 0)), (2, .int x2), (3, .int x3), (5, .int x5), (6, .int x6)]) 5 dX6_work_296 rfl rfl (Nat.le_of_ble_eq_true rfl) rfl ?_
      refine r_goto 5 dX6_work_299 (by decide) ?_
      refine r_sub (lv' := [(0, .ref (a0 0)), (2, .int x2), (3, .int x3), (4, .int (x4 + (1 : Int32)))]) [3, 4, 5, 0] rfl ?_
      exact hk5 x3 (x4 + (1 : Int32)) u28 h
    replace h := it_neg c26 h
    by_cases c29 : x5 = (4 : Int32)
    · replace h := it_pos c29 h
      refine r_tableIn 187 dX6_work_120 (by rw [c29]; decide) (by rw [c29]; decide) (by rw [c29]; rfl) (by decide) ?_
      refine r_lload 1 dX6_work_187 rfl ?_
      refine r_lload 0 dX6_work_189 rfl ?_
      refine r_lor dX6_work_191 ?_
      obtain ⟨y30, e30, h⟩ := lt_some h
      refine r_topl e30 ?_
      refine r_lstore (lv' := [(7, .long y30), (9, .long y22), (0, .ref (a0 0)), (2, .int x2), (3, .int x3), (4, .int x4), (5, .int x5), (6, .int x6)]) dX6_work_192 (Nat.le_of_ble_eq_true rfl) rfl ?_
      refine r_goto 286 dX6_work_194 (by decide) ?_
      refine r_aload_n 2 dX6_work_286 rfl ?_
      refine gRule_stack 0 rfl (tb_in (i := 4) (j := 28) rfl rfl) dX6_work_287 ?_
      refine r_iload_n 4 dX6_work_290 rfl ?_
      refine r_iconst (x := (1 : Int32)) dX6_work_291 (by decide) ?_
      refine r_isub dX6_work_292 ?_
      refine r_lload 0 dX6_work_293 rfl ?_
      obtain ⟨h31, h⟩ := rq_some h
      obtain ⟨u31, e31, h⟩ := lt_some h
      refine sRule_stack (bs1 := [bRule K a0 z0_steps z0_size z0_sumFrom z0_testFrom z0_testTo z0_clauses z0_parts z0_readsTime z0_words u31]) 0 e31 rfl (inb_in h31) rfl dX6_work_295 ?_
      refine r_iinc (y := (x4 + (1 : Int32))) (lv' := [(4, .int (x4 + (1 : Int32))), (7, .long y30), (9, .long y22), (0, .ref (a0 0)), (2, .int x2), (3, .int x3), (5, .int x5), (6, .int x6)]) 5 dX6_work_296 rfl rfl (Nat.le_of_ble_eq_true rfl) rfl ?_
      refine r_goto 5 dX6_work_299 (by decide) ?_
      refine r_sub (lv' := [(0, .ref (a0 0)), (2, .int x2), (3, .int x3), (4, .int (x4 + (1 : Int32)))]) [3, 4, 5, 0] rfl ?_
      exact hk5 x3 (x4 + (1 : Int32)) u31 h
    replace h := it_neg c29 h
    by_cases c32 : x5 = (5 : Int32)
    · replace h := it_pos c32 h
      refine r_tableIn 197 dX6_work_120 (by rw [c32]; decide) (by rw [c32]; decide) (by rw [c32]; rfl) (by decide) ?_
      refine r_lload 1 dX6_work_197 rfl ?_
      refine r_lload 0 dX6_work_199 rfl ?_
      refine r_ladd dX6_work_201 ?_
      obtain ⟨y33, e33, h⟩ := lt_some h
      refine r_topl e33 ?_
      refine r_lstore (lv' := [(7, .long y33), (9, .long y22), (0, .ref (a0 0)), (2, .int x2), (3, .int x3), (4, .int x4), (5, .int x5), (6, .int x6)]) dX6_work_202 (Nat.le_of_ble_eq_true rfl) rfl ?_
      refine r_goto 286 dX6_work_204 (by decide) ?_
      refine r_aload_n 2 dX6_work_286 rfl ?_
      refine gRule_stack 0 rfl (tb_in (i := 4) (j := 28) rfl rfl) dX6_work_287 ?_
      refine r_iload_n 4 dX6_work_290 rfl ?_
      refine r_iconst (x := (1 : Int32)) dX6_work_291 (by decide) ?_
      refine r_isub dX6_work_292 ?_
      refine r_lload 0 dX6_work_293 rfl ?_
      obtain ⟨h34, h⟩ := rq_some h
      obtain ⟨u34, e34, h⟩ := lt_some h
      refine sRule_stack (bs1 := [bRule K a0 z0_steps z0_size z0_sumFrom z0_testFrom z0_testTo z0_clauses z0_parts z0_readsTime z0_words u34]) 0 e34 rfl (inb_in h34) rfl dX6_work_295 ?_
      refine r_iinc (y := (x4 + (1 : Int32))) (lv' := [(4, .int (x4 + (1 : Int32))), (7, .long y33), (9, .long y22), (0, .ref (a0 0)), (2, .int x2), (3, .int x3), (5, .int x5), (6, .int x6)]) 5 dX6_work_296 rfl rfl (Nat.le_of_ble_eq_true rfl) rfl ?_
      refine r_goto 5 dX6_work_299 (by decide) ?_
      refine r_sub (lv' := [(0, .ref (a0 0)), (2, .int x2), (3, .int x3), (4, .int (x4 + (1 : Int32)))]) [3, 4, 5, 0] rfl ?_
      exact hk5 x3 (x4 + (1 : Int32)) u34 h
    replace h := it_neg c32 h
    by_cases c35 : x5 = (6 : Int32)
    · replace h := it_pos c35 h
      refine r_tableIn 207 dX6_work_120 (by rw [c35]; decide) (by rw [c35]; decide) (by rw [c35]; rfl) (by decide) ?_
      refine r_lload 1 dX6_work_207 rfl ?_
      refine r_lload 0 dX6_work_209 rfl ?_
      refine r_lsub dX6_work_211 ?_
      obtain ⟨y36, e36, h⟩ := lt_some h
      refine r_topl e36 ?_
      refine r_lstore (lv' := [(7, .long y36), (9, .long y22), (0, .ref (a0 0)), (2, .int x2), (3, .int x3), (4, .int x4), (5, .int x5), (6, .int x6)]) dX6_work_212 (Nat.le_of_ble_eq_true rfl) rfl ?_
      refine r_goto 286 dX6_work_214 (by decide) ?_
      refine r_aload_n 2 dX6_work_286 rfl ?_
      refine gRule_stack 0 rfl (tb_in (i := 4) (j := 28) rfl rfl) dX6_work_287 ?_
      refine r_iload_n 4 dX6_work_290 rfl ?_
      refine r_iconst (x := (1 : Int32)) dX6_work_291 (by decide) ?_
      refine r_isub dX6_work_292 ?_
      refine r_lload 0 dX6_work_293 rfl ?_
      obtain ⟨h37, h⟩ := rq_some h
      obtain ⟨u37, e37, h⟩ := lt_some h
      refine sRule_stack (bs1 := [bRule K a0 z0_steps z0_size z0_sumFrom z0_testFrom z0_testTo z0_clauses z0_parts z0_readsTime z0_words u37]) 0 e37 rfl (inb_in h37) rfl dX6_work_295 ?_
      refine r_iinc (y := (x4 + (1 : Int32))) (lv' := [(4, .int (x4 + (1 : Int32))), (7, .long y36), (9, .long y22), (0, .ref (a0 0)), (2, .int x2), (3, .int x3), (5, .int x5), (6, .int x6)]) 5 dX6_work_296 rfl rfl (Nat.le_of_ble_eq_true rfl) rfl ?_
      refine r_goto 5 dX6_work_299 (by decide) ?_
      refine r_sub (lv' := [(0, .ref (a0 0)), (2, .int x2), (3, .int x3), (4, .int (x4 + (1 : Int32)))]) [3, 4, 5, 0] rfl ?_
      exact hk5 x3 (x4 + (1 : Int32)) u37 h
    replace h := it_neg c35 h
    by_cases c38 : x5 = (7 : Int32)
    · replace h := it_pos c38 h
      refine r_tableIn 217 dX6_work_120 (by rw [c38]; decide) (by rw [c38]; decide) (by rw [c38]; rfl) (by decide) ?_
      refine r_lload 1 dX6_work_217 rfl ?_
      refine r_lload 0 dX6_work_219 rfl ?_
      refine r_lmul dX6_work_221 ?_
      obtain ⟨y39, e39, h⟩ := lt_some h
      refine r_topl e39 ?_
      refine r_lstore (lv' := [(7, .long y39), (9, .long y22), (0, .ref (a0 0)), (2, .int x2), (3, .int x3), (4, .int x4), (5, .int x5), (6, .int x6)]) dX6_work_222 (Nat.le_of_ble_eq_true rfl) rfl ?_
      refine r_goto 286 dX6_work_224 (by decide) ?_
      refine r_aload_n 2 dX6_work_286 rfl ?_
      refine gRule_stack 0 rfl (tb_in (i := 4) (j := 28) rfl rfl) dX6_work_287 ?_
      refine r_iload_n 4 dX6_work_290 rfl ?_
      refine r_iconst (x := (1 : Int32)) dX6_work_291 (by decide) ?_
      refine r_isub dX6_work_292 ?_
      refine r_lload 0 dX6_work_293 rfl ?_
      obtain ⟨h40, h⟩ := rq_some h
      obtain ⟨u40, e40, h⟩ := lt_some h
      refine sRule_stack (bs1 := [bRule K a0 z0_steps z0_size z0_sumFrom z0_testFrom z0_testTo z0_clauses z0_parts z0_readsTime z0_words u40]) 0 e40 rfl (inb_in h40) rfl dX6_work_295 ?_
      refine r_iinc (y := (x4 + (1 : Int32))) (lv' := [(4, .int (x4 + (1 : Int32))), (7, .long y39), (9, .long y22), (0, .ref (a0 0)), (2, .int x2), (3, .int x3), (5, .int x5), (6, .int x6)]) 5 dX6_work_296 rfl rfl (Nat.le_of_ble_eq_true rfl) rfl ?_
      refine r_goto 5 dX6_work_299 (by decide) ?_
      refine r_sub (lv' := [(0, .ref (a0 0)), (2, .int x2), (3, .int x3), (4, .int (x4 + (1 : Int32)))]) [3, 4, 5, 0] rfl ?_
      exact hk5 x3 (x4 + (1 : Int32)) u40 h
    replace h := it_neg c38 h
    by_cases c41 : x5 = (8 : Int32)
    · replace h := it_pos c41 h
      refine r_tableIn 227 dX6_work_120 (by rw [c41]; decide) (by rw [c41]; decide) (by rw [c41]; rfl) (by decide) ?_
      refine r_lload 0 dX6_work_227 rfl ?_
      refine r_lconst (x := (0 : Int64)) dX6_work_229 (by decide) ?_
      refine r_lcmp dX6_work_230 ?_
      refine r_if_ne 238 dX6_work_231 (by decide) (fun c42 => ?_) (fun c42 => ?_)
      · replace h := it_neg c42 h
        refine r_lload 1 dX6_work_238 rfl ?_
        refine r_lload 0 dX6_work_240 rfl ?_
        obtain ⟨h43, h⟩ := rq_some h
        refine r_ldiv dX6_work_242 (of_decide_eq_true h43) ?_
        obtain ⟨y44, e44, h⟩ := lt_some h
        refine r_topl e44 ?_
        refine r_lstore (lv' := [(7, .long y44), (9, .long y22), (0, .ref (a0 0)), (2, .int x2), (3, .int x3), (4, .int x4), (5, .int x5), (6, .int x6)]) dX6_work_243 (Nat.le_of_ble_eq_true rfl) rfl ?_
        refine r_goto 286 dX6_work_245 (by decide) ?_
        refine r_aload_n 2 dX6_work_286 rfl ?_
        refine gRule_stack 0 rfl (tb_in (i := 4) (j := 28) rfl rfl) dX6_work_287 ?_
        refine r_iload_n 4 dX6_work_290 rfl ?_
        refine r_iconst (x := (1 : Int32)) dX6_work_291 (by decide) ?_
        refine r_isub dX6_work_292 ?_
        refine r_lload 0 dX6_work_293 rfl ?_
        obtain ⟨h45, h⟩ := rq_some h
        obtain ⟨u45, e45, h⟩ := lt_some h
        refine sRule_stack (bs1 := [bRule K a0 z0_steps z0_size z0_sumFrom z0_testFrom z0_testTo z0_clauses z0_parts z0_readsTime z0_words u45]) 0 e45 rfl (inb_in h45) rfl dX6_work_295 ?_
        refine r_iinc (y := (x4 + (1 : Int32))) (lv' := [(4, .int (x4 + (1 : Int32))), (7, .long y44), (9, .long y22), (0, .ref (a0 0)), (2, .int x2), (3, .int x3), (5, .int x5), (6, .int x6)]) 5 dX6_work_296 rfl rfl (Nat.le_of_ble_eq_true rfl) rfl ?_
        refine r_goto 5 dX6_work_299 (by decide) ?_
        refine r_sub (lv' := [(0, .ref (a0 0)), (2, .int x2), (3, .int x3), (4, .int (x4 + (1 : Int32)))]) [3, 4, 5, 0] rfl ?_
        exact hk5 x3 (x4 + (1 : Int32)) u45 h
      · replace h := it_pos c42 h
        refine r_lconst (x := (0 : Int64)) dX6_work_234 (by decide) ?_
        refine r_goto 243 dX6_work_235 (by decide) ?_
        refine r_lstore (lv' := [(7, .long (0 : Int64)), (9, .long y22), (0, .ref (a0 0)), (2, .int x2), (3, .int x3), (4, .int x4), (5, .int x5), (6, .int x6)]) dX6_work_243 (Nat.le_of_ble_eq_true rfl) rfl ?_
        refine r_goto 286 dX6_work_245 (by decide) ?_
        refine r_aload_n 2 dX6_work_286 rfl ?_
        refine gRule_stack 0 rfl (tb_in (i := 4) (j := 28) rfl rfl) dX6_work_287 ?_
        refine r_iload_n 4 dX6_work_290 rfl ?_
        refine r_iconst (x := (1 : Int32)) dX6_work_291 (by decide) ?_
        refine r_isub dX6_work_292 ?_
        refine r_lload 0 dX6_work_293 rfl ?_
        obtain ⟨h46, h⟩ := rq_some h
        obtain ⟨u46, e46, h⟩ := lt_some h
        refine sRule_stack (bs1 := [bRule K a0 z0_steps z0_size z0_sumFrom z0_testFrom z0_testTo z0_clauses z0_parts z0_readsTime z0_words u46]) 0 e46 rfl (inb_in h46) rfl dX6_work_295 ?_
        refine r_iinc (y := (x4 + (1 : Int32))) (lv' := [(4, .int (x4 + (1 : Int32))), (7, .long (0 : Int64)), (9, .long y22), (0, .ref (a0 0)), (2, .int x2), (3, .int x3), (5, .int x5), (6, .int x6)]) 5 dX6_work_296 rfl rfl (Nat.le_of_ble_eq_true rfl) rfl ?_
        refine r_goto 5 dX6_work_299 (by decide) ?_
        refine r_sub (lv' := [(0, .ref (a0 0)), (2, .int x2), (3, .int x3), (4, .int (x4 + (1 : Int32)))]) [3, 4, 5, 0] rfl ?_
        exact hk5 x3 (x4 + (1 : Int32)) u46 h
    replace h := it_neg c41 h
    by_cases c47 : x5 = (9 : Int32)
    · replace h := it_pos c47 h
      refine r_tableIn 248 dX6_work_120 (by rw [c47]; decide) (by rw [c47]; decide) (by rw [c47]; rfl) (by decide) ?_
      refine r_lload 0 dX6_work_248 rfl ?_
      refine r_lconst (x := (0 : Int64)) dX6_work_250 (by decide) ?_
      refine r_lcmp dX6_work_251 ?_
      refine r_if_ne 259 dX6_work_252 (by decide) (fun c48 => ?_) (fun c48 => ?_)
      · replace h := it_neg c48 h
        refine r_lload 1 dX6_work_259 rfl ?_
        refine r_lload 0 dX6_work_261 rfl ?_
        obtain ⟨h49, h⟩ := rq_some h
        refine r_lrem dX6_work_263 (of_decide_eq_true h49) ?_
        obtain ⟨y50, e50, h⟩ := lt_some h
        refine r_topl e50 ?_
        refine r_lstore (lv' := [(7, .long y50), (9, .long y22), (0, .ref (a0 0)), (2, .int x2), (3, .int x3), (4, .int x4), (5, .int x5), (6, .int x6)]) dX6_work_264 (Nat.le_of_ble_eq_true rfl) rfl ?_
        refine r_goto 286 dX6_work_266 (by decide) ?_
        refine r_aload_n 2 dX6_work_286 rfl ?_
        refine gRule_stack 0 rfl (tb_in (i := 4) (j := 28) rfl rfl) dX6_work_287 ?_
        refine r_iload_n 4 dX6_work_290 rfl ?_
        refine r_iconst (x := (1 : Int32)) dX6_work_291 (by decide) ?_
        refine r_isub dX6_work_292 ?_
        refine r_lload 0 dX6_work_293 rfl ?_
        obtain ⟨h51, h⟩ := rq_some h
        obtain ⟨u51, e51, h⟩ := lt_some h
        refine sRule_stack (bs1 := [bRule K a0 z0_steps z0_size z0_sumFrom z0_testFrom z0_testTo z0_clauses z0_parts z0_readsTime z0_words u51]) 0 e51 rfl (inb_in h51) rfl dX6_work_295 ?_
        refine r_iinc (y := (x4 + (1 : Int32))) (lv' := [(4, .int (x4 + (1 : Int32))), (7, .long y50), (9, .long y22), (0, .ref (a0 0)), (2, .int x2), (3, .int x3), (5, .int x5), (6, .int x6)]) 5 dX6_work_296 rfl rfl (Nat.le_of_ble_eq_true rfl) rfl ?_
        refine r_goto 5 dX6_work_299 (by decide) ?_
        refine r_sub (lv' := [(0, .ref (a0 0)), (2, .int x2), (3, .int x3), (4, .int (x4 + (1 : Int32)))]) [3, 4, 5, 0] rfl ?_
        exact hk5 x3 (x4 + (1 : Int32)) u51 h
      · replace h := it_pos c48 h
        refine r_lconst (x := (0 : Int64)) dX6_work_255 (by decide) ?_
        refine r_goto 264 dX6_work_256 (by decide) ?_
        refine r_lstore (lv' := [(7, .long (0 : Int64)), (9, .long y22), (0, .ref (a0 0)), (2, .int x2), (3, .int x3), (4, .int x4), (5, .int x5), (6, .int x6)]) dX6_work_264 (Nat.le_of_ble_eq_true rfl) rfl ?_
        refine r_goto 286 dX6_work_266 (by decide) ?_
        refine r_aload_n 2 dX6_work_286 rfl ?_
        refine gRule_stack 0 rfl (tb_in (i := 4) (j := 28) rfl rfl) dX6_work_287 ?_
        refine r_iload_n 4 dX6_work_290 rfl ?_
        refine r_iconst (x := (1 : Int32)) dX6_work_291 (by decide) ?_
        refine r_isub dX6_work_292 ?_
        refine r_lload 0 dX6_work_293 rfl ?_
        obtain ⟨h52, h⟩ := rq_some h
        obtain ⟨u52, e52, h⟩ := lt_some h
        refine sRule_stack (bs1 := [bRule K a0 z0_steps z0_size z0_sumFrom z0_testFrom z0_testTo z0_clauses z0_parts z0_readsTime z0_words u52]) 0 e52 rfl (inb_in h52) rfl dX6_work_295 ?_
        refine r_iinc (y := (x4 + (1 : Int32))) (lv' := [(4, .int (x4 + (1 : Int32))), (7, .long (0 : Int64)), (9, .long y22), (0, .ref (a0 0)), (2, .int x2), (3, .int x3), (5, .int x5), (6, .int x6)]) 5 dX6_work_296 rfl rfl (Nat.le_of_ble_eq_true rfl) rfl ?_
        refine r_goto 5 dX6_work_299 (by decide) ?_
        refine r_sub (lv' := [(0, .ref (a0 0)), (2, .int x2), (3, .int x3), (4, .int (x4 + (1 : Int32)))]) [3, 4, 5, 0] rfl ?_
        exact hk5 x3 (x4 + (1 : Int32)) u52 h
    replace h := it_neg c47 h
    refine r_tableOut 269 dX6_work_120 (tbl_out (by decide) (by decide) (fun k h1 h2 => by
      rcases (show k = 2 ∨ k = 3 ∨ k = 4 ∨ k = 5 ∨ k = 6 ∨ k = 7 ∨ k = 8 ∨ k = 9 by omega) with rfl | rfl | rfl | rfl | rfl | rfl | rfl | rfl
      · exact c23
      · exact c26
      · exact c29
      · exact c32
      · exact c35
      · exact c38
      · exact c41
      · exact c47
      )) (by decide) ?_
    refine r_iload 7 dX6_work_269 rfl ?_
    refine r_iconst (x := (1 : Int32)) dX6_work_271 (by decide) ?_
    refine r_lload 1 dX6_work_272 rfl ?_
    refine r_lload 0 dX6_work_274 rfl ?_
    refine r_lcompare (tb_in (i := 4) (j := 29) rfl rfl) (by decide) (Nat.le_of_ble_eq_true rfl) dX6_work_276 ?_
    refine r_iadd dX6_work_279 ?_
    refine r_ishr dX6_work_280 ?_
    refine r_iconst (x := (1 : Int32)) dX6_work_281 (by decide) ?_
    refine r_iand dX6_work_282 ?_
    refine r_i2l dX6_work_283 ?_
    obtain ⟨y53, e53, h⟩ := lt_some h
    refine r_topl e53 ?_
    refine r_lstore (lv' := [(7, .long y53), (9, .long y22), (0, .ref (a0 0)), (2, .int x2), (3, .int x3), (4, .int x4), (5, .int x5), (6, .int x6)]) dX6_work_284 (Nat.le_of_ble_eq_true rfl) rfl ?_
    refine r_aload_n 2 dX6_work_286 rfl ?_
    refine gRule_stack 0 rfl (tb_in (i := 4) (j := 28) rfl rfl) dX6_work_287 ?_
    refine r_iload_n 4 dX6_work_290 rfl ?_
    refine r_iconst (x := (1 : Int32)) dX6_work_291 (by decide) ?_
    refine r_isub dX6_work_292 ?_
    refine r_lload 0 dX6_work_293 rfl ?_
    obtain ⟨h54, h⟩ := rq_some h
    obtain ⟨u54, e54, h⟩ := lt_some h
    refine sRule_stack (bs1 := [bRule K a0 z0_steps z0_size z0_sumFrom z0_testFrom z0_testTo z0_clauses z0_parts z0_readsTime z0_words u54]) 0 e54 rfl (inb_in h54) rfl dX6_work_295 ?_
    refine r_iinc (y := (x4 + (1 : Int32))) (lv' := [(4, .int (x4 + (1 : Int32))), (7, .long y53), (9, .long y22), (0, .ref (a0 0)), (2, .int x2), (3, .int x3), (5, .int x5), (6, .int x6)]) 5 dX6_work_296 rfl rfl (Nat.le_of_ble_eq_true rfl) rfl ?_
    refine r_goto 5 dX6_work_299 (by decide) ?_
    refine r_sub (lv' := [(0, .ref (a0 0)), (2, .int x2), (3, .int x3), (4, .int (x4 + (1 : Int32)))]) [3, 4, 5, 0] rfl ?_
    exact hk5 x3 (x4 + (1 : Int32)) u54 h
  · replace h := it_neg c18 h
    refine r_lconst (x := (0 : Int64)) dX6_work_98 (by decide) ?_
    have hq := Option.some.inj h
    subst hq
    exact r_lret rfl dX6_work_99
def mRule_work_l5 (z0_steps : Nat → Int32) (z0_size : Int32) (z0_words : Nat → Int64) (x2 : Int32) : Nat → Int32 → Int32 → (Nat → Int64) → Option (Int64 × (Nat → Int64))
  | 0, _, _, _ => none
  | n + 1, x3, x4, z0_stack => (if x2 ≤ x4 then (if x3 ≤ 0 then some ((0 : Int64), z0_stack) else rq (inb (x3 - (1 : Int32)) 61) (some ((z0_stack (x3 - (1 : Int32)).toNatClampNeg), z0_stack))) else (if z0_size ≤ x4 then (if x3 ≤ 0 then some ((0 : Int64), z0_stack) else rq (inb (x3 - (1 : Int32)) 61) (some ((z0_stack (x3 - (1 : Int32)).toNatClampNeg), z0_stack))) else rq (inb x4 400) (lt ((z0_steps x4.toNatClampNeg) &&& (15 : Int32)) (fun y8 => rq (inb x4 400) (lt ((z0_steps x4.toNatClampNeg) >>> ((4 : Int32) &&& 31)) (fun y10 => (if y8 = 0 then mRule_work_j54 (mRule_work_l5 z0_steps z0_size z0_words x2 n) x2 x3 x4 y8 y10 z0_steps z0_size z0_words z0_stack else (if y8 = (1 : Int32) then mRule_work_j54 (mRule_work_l5 z0_steps z0_size z0_words x2 n) x2 x3 x4 y8 y10 z0_steps z0_size z0_words z0_stack else (if y8 = (2 : Int32) then mRule_work_j93 (mRule_work_l5 z0_steps z0_size z0_words x2 n) x2 x3 x4 y8 y10 z0_steps z0_size z0_words z0_stack else mRule_work_j93 (mRule_work_l5 z0_steps z0_size z0_words x2 n) x2 (x3 + (-1 : Int32)) x4 y8 y10 z0_steps z0_size z0_words z0_stack)))))))))
set_option maxHeartbeats 4000000 in
set_option maxRecDepth 20000 in
theorem cRule_work_l5 {q : Int64 × (Nat → Int64)} {x2 : Int32}  : ∀ (n : Nat) (x3 : Int32) (x4 : Int32) (z0_stack : Nat → Int64), mRule_work_l5 z0_steps z0_size z0_words x2 n x3 x4 z0_stack = some q → rW l D Z (ty7 K) MRule_work 5 [(0, .ref (a0 0)), (2, .int x2), (3, .int x3), (4, .int x4)] [] (List.flatten [bRule K a0 z0_steps z0_size z0_sumFrom z0_testFrom z0_testTo z0_clauses z0_parts z0_readsTime z0_words z0_stack]) (List.flatten [bRule K a0 z0_steps z0_size z0_sumFrom z0_testFrom z0_testTo z0_clauses z0_parts z0_readsTime z0_words q.2]) (some (.long q.1)) := by
  intro n
  induction n with
  | zero => intro x3 x4 z0_stack h; unfold mRule_work_l5 at h; cases h
  | succ n ih =>
    intro x3 x4 z0_stack h
    unfold mRule_work_l5 at h
    refine r_iload 3 dX6_work_5 rfl ?_
    refine r_iload_n 1 dX6_work_7 rfl ?_
    refine r_icmp_ge 302 dX6_work_8 (by decide) (fun c1 => ?_) (fun c1 => ?_)
    · replace h := it_pos c1 h
      refine r_iload_n 2 dX6_work_302 rfl ?_
      refine r_if_le 317 dX6_work_303 (by decide) (fun c2 => ?_) (fun c2 => ?_)
      · replace h := it_pos c2 h
        refine r_lconst (x := (0 : Int64)) dX6_work_317 (by decide) ?_
        have hq := Option.some.inj h
        subst hq
        exact r_lret rfl dX6_work_318
      · replace h := it_neg c2 h
        refine r_aload_n 0 dX6_work_306 rfl ?_
        refine gRule_stack 0 rfl (tb_in (i := 4) (j := 28) rfl rfl) dX6_work_307 ?_
        refine r_iload_n 2 dX6_work_310 rfl ?_
        refine r_iconst (x := (1 : Int32)) dX6_work_311 (by decide) ?_
        refine r_isub dX6_work_312 ?_
        obtain ⟨h3, h⟩ := rq_some h
        refine lRule_stack 0 rfl (inb_in h3) dX6_work_313 ?_
        refine r_goto 318 dX6_work_314 (by decide) ?_
        have hq := Option.some.inj h
        subst hq
        exact r_lret rfl dX6_work_318
    · replace h := it_neg c1 h
      refine r_iload 3 dX6_work_11 rfl ?_
      refine r_aload_n 0 dX6_work_13 rfl ?_
      refine gRule_size 0 rfl (tb_in (i := 4) (j := 26) rfl rfl) dX6_work_14 ?_
      refine r_icmp_ge 302 dX6_work_17 (by decide) (fun c4 => ?_) (fun c4 => ?_)
      · replace h := it_pos c4 h
        refine r_iload_n 2 dX6_work_302 rfl ?_
        refine r_if_le 317 dX6_work_303 (by decide) (fun c5 => ?_) (fun c5 => ?_)
        · replace h := it_pos c5 h
          refine r_lconst (x := (0 : Int64)) dX6_work_317 (by decide) ?_
          have hq := Option.some.inj h
          subst hq
          exact r_lret rfl dX6_work_318
        · replace h := it_neg c5 h
          refine r_aload_n 0 dX6_work_306 rfl ?_
          refine gRule_stack 0 rfl (tb_in (i := 4) (j := 28) rfl rfl) dX6_work_307 ?_
          refine r_iload_n 2 dX6_work_310 rfl ?_
          refine r_iconst (x := (1 : Int32)) dX6_work_311 (by decide) ?_
          refine r_isub dX6_work_312 ?_
          obtain ⟨h6, h⟩ := rq_some h
          refine lRule_stack 0 rfl (inb_in h6) dX6_work_313 ?_
          refine r_goto 318 dX6_work_314 (by decide) ?_
          have hq := Option.some.inj h
          subst hq
          exact r_lret rfl dX6_work_318
      · replace h := it_neg c4 h
        refine r_aload_n 0 dX6_work_20 rfl ?_
        refine gRule_steps 0 rfl (tb_in (i := 4) (j := 27) rfl rfl) dX6_work_21 ?_
        refine r_iload 3 dX6_work_24 rfl ?_
        obtain ⟨h7, h⟩ := rq_some h
        refine lRule_steps 0 rfl (inb_in h7) dX6_work_26 ?_
        refine r_bipush (x := (15 : Int32)) dX6_work_27 (by decide) ?_
        refine r_iand dX6_work_29 ?_
        obtain ⟨y8, e8, h⟩ := lt_some h
        refine r_top e8 ?_
        refine r_istore (lv' := [(5, .int y8), (0, .ref (a0 0)), (2, .int x2), (3, .int x3), (4, .int x4)]) dX6_work_30 (Nat.le_of_ble_eq_true rfl) rfl ?_
        refine r_aload_n 1 dX6_work_32 rfl ?_
        refine gRule_steps 0 rfl (tb_in (i := 4) (j := 27) rfl rfl) dX6_work_33 ?_
        refine r_iload 4 dX6_work_36 rfl ?_
        obtain ⟨h9, h⟩ := rq_some h
        refine lRule_steps 0 rfl (inb_in h9) dX6_work_38 ?_
        refine r_iconst (x := (4 : Int32)) dX6_work_39 (by decide) ?_
        refine r_ishr dX6_work_40 ?_
        obtain ⟨y10, e10, h⟩ := lt_some h
        refine r_top e10 ?_
        refine r_istore (lv' := [(6, .int y10), (5, .int y8), (0, .ref (a0 0)), (2, .int x2), (3, .int x3), (4, .int x4)]) dX6_work_41 (Nat.le_of_ble_eq_true rfl) rfl ?_
        refine r_iload 1 dX6_work_43 rfl ?_
        refine r_if_eq 54 dX6_work_45 (by decide) (fun c11 => ?_) (fun c11 => ?_)
        · replace h := it_pos c11 h
          refine r_sub (lv' := [(0, .ref (a0 0)), (2, .int x2), (3, .int x3), (4, .int x4), (5, .int y8), (6, .int y10)]) [2, 3, 4, 5, 1, 0] rfl ?_
          exact cRule_work_j54  (ih) h
        · replace h := it_neg c11 h
          refine r_iload 1 dX6_work_48 rfl ?_
          refine r_iconst (x := (1 : Int32)) dX6_work_50 (by decide) ?_
          refine r_icmp_ne 84 dX6_work_51 (by decide) (fun c16 => ?_) (fun c16 => ?_)
          · replace h := it_neg c16 h
            refine r_iload 1 dX6_work_84 rfl ?_
            refine r_iconst (x := (2 : Int32)) dX6_work_86 (by decide) ?_
            refine r_icmp_eq 93 dX6_work_87 (by decide) (fun c17 => ?_) (fun c17 => ?_)
            · replace h := it_pos c17 h
              refine r_sub (lv' := [(0, .ref (a0 0)), (2, .int x2), (3, .int x3), (4, .int x4), (5, .int y8), (6, .int y10)]) [2, 3, 4, 5, 1, 0] rfl ?_
              exact cRule_work_j93  (ih) h
            · replace h := it_neg c17 h
              refine r_iinc (y := (x3 + (-1 : Int32))) (lv' := [(3, .int (x3 + (-1 : Int32))), (6, .int y10), (5, .int y8), (0, .ref (a0 0)), (2, .int x2), (4, .int x4)]) 4 dX6_work_90 rfl rfl (Nat.le_of_ble_eq_true rfl) rfl ?_
              refine r_sub (lv' := [(0, .ref (a0 0)), (2, .int x2), (3, .int (x3 + (-1 : Int32))), (4, .int x4), (5, .int y8), (6, .int y10)]) [3, 4, 0, 5, 2, 1] rfl ?_
              exact cRule_work_j93  (ih) h
          · replace h := it_pos c16 h
            refine r_sub (lv' := [(0, .ref (a0 0)), (2, .int x2), (3, .int x3), (4, .int x4), (5, .int y8), (6, .int y10)]) [2, 3, 4, 5, 1, 0] rfl ?_
            exact cRule_work_j54  (ih) h
def mRule_work (x1 : Int32) (x2 : Int32) (z0_steps : Nat → Int32) (z0_size : Int32) (z0_words : Nat → Int64) (z0_stack : Nat → Int64) : Option (Int64 × (Nat → Int64)) := mRule_work_l5 z0_steps z0_size z0_words x2 FU (0 : Int32) x1 z0_stack
set_option maxHeartbeats 4000000 in
set_option maxRecDepth 20000 in
theorem cRule_work {q : Int64 × (Nat → Int64)} {x1 : Int32} {x2 : Int32} (h : mRule_work x1 x2 z0_steps z0_size z0_words z0_stack = some q) : rMet l D Z (ty7 K) MRule_work [.ref (a0 0), .int x1, .int x2] (List.flatten [bRule K a0 z0_steps z0_size z0_sumFrom z0_testFrom z0_testTo z0_clauses z0_parts z0_readsTime z0_words z0_stack]) (List.flatten [bRule K a0 z0_steps z0_size z0_sumFrom z0_testFrom z0_testTo z0_clauses z0_parts z0_readsTime z0_words q.2]) (some (.long q.1)) := by
  refine rMet.of (by decide) rfl (Nat.le_of_ble_eq_true rfl) ?_
  refine r_sub (lv' := [(0, .ref (a0 0)), (1, .int x1), (2, .int x2)]) [0, 1, 2] rfl ?_
  unfold mRule_work at h
  refine r_iconst (x := (0 : Int32)) dX6_work_0 (by decide) ?_
  refine r_istore_n (lv' := [(3, .int (0 : Int32)), (0, .ref (a0 0)), (1, .int x1), (2, .int x2)]) dX6_work_1 (Nat.le_of_ble_eq_true rfl) rfl ?_
  refine r_iload_n 2 dX6_work_2 rfl ?_
  refine r_istore (lv' := [(4, .int x1), (3, .int (0 : Int32)), (0, .ref (a0 0)), (1, .int x1), (2, .int x2)]) dX6_work_3 (Nat.le_of_ble_eq_true rfl) rfl ?_
  refine r_sub (lv' := [(0, .ref (a0 0)), (2, .int x2), (3, .int (0 : Int32)), (4, .int x1)]) [2, 4, 1, 0] rfl ?_
  exact cRule_work_l5   FU (0 : Int32) x1 z0_stack h
end
theorem dX6_worth_0 : decode cX6_worth 0 = .ok (.aload_n 0, 1) := by decide +kernel
theorem dX6_worth_1 : decode cX6_worth 1 = .ok (.aload_n 1, 1) := by decide +kernel
theorem dX6_worth_2 : decode cX6_worth 2 = .ok (.iload_n 2, 1) := by decide +kernel
theorem dX6_worth_3 : decode cX6_worth 3 = .ok (.iload_n 3, 1) := by decide +kernel
theorem dX6_worth_4 : decode cX6_worth 4 = .ok (.invokevirtual 47, 3) := by decide +kernel
theorem dX6_worth_7 : decode cX6_worth 7 = .ok (.iconst 0, 1) := by decide +kernel
theorem dX6_worth_8 : decode cX6_worth 8 = .ok (.istore 4, 2) := by decide +kernel
theorem dX6_worth_10 : decode cX6_worth 10 = .ok (.iload 4, 2) := by decide +kernel
theorem dX6_worth_12 : decode cX6_worth 12 = .ok (.aload_n 0, 1) := by decide +kernel
theorem dX6_worth_13 : decode cX6_worth 13 = .ok (.getfield 30, 3) := by decide +kernel
theorem dX6_worth_16 : decode cX6_worth 16 = .ok (.if_icmp .ge 80, 3) := by decide +kernel
theorem dX6_worth_19 : decode cX6_worth 19 = .ok (.aload_n 0, 1) := by decide +kernel
theorem dX6_worth_20 : decode cX6_worth 20 = .ok (.getfield 24, 3) := by decide +kernel
theorem dX6_worth_23 : decode cX6_worth 23 = .ok (.iload 4, 2) := by decide +kernel
theorem dX6_worth_25 : decode cX6_worth 25 = .ok (.iaload, 1) := by decide +kernel
theorem dX6_worth_26 : decode cX6_worth 26 = .ok (.aload_n 0, 1) := by decide +kernel
theorem dX6_worth_27 : decode cX6_worth 27 = .ok (.getfield 27, 3) := by decide +kernel
theorem dX6_worth_30 : decode cX6_worth 30 = .ok (.iload 4, 2) := by decide +kernel
theorem dX6_worth_32 : decode cX6_worth 32 = .ok (.iaload, 1) := by decide +kernel
theorem dX6_worth_33 : decode cX6_worth 33 = .ok (.if_icmp .eq 26, 3) := by decide +kernel
theorem dX6_worth_36 : decode cX6_worth 36 = .ok (.aload_n 0, 1) := by decide +kernel
theorem dX6_worth_37 : decode cX6_worth 37 = .ok (.aload_n 0, 1) := by decide +kernel
theorem dX6_worth_38 : decode cX6_worth 38 = .ok (.getfield 24, 3) := by decide +kernel
theorem dX6_worth_41 : decode cX6_worth 41 = .ok (.iload 4, 2) := by decide +kernel
theorem dX6_worth_43 : decode cX6_worth 43 = .ok (.iaload, 1) := by decide +kernel
theorem dX6_worth_44 : decode cX6_worth 44 = .ok (.aload_n 0, 1) := by decide +kernel
theorem dX6_worth_45 : decode cX6_worth 45 = .ok (.getfield 27, 3) := by decide +kernel
theorem dX6_worth_48 : decode cX6_worth 48 = .ok (.iload 4, 2) := by decide +kernel
theorem dX6_worth_50 : decode cX6_worth 50 = .ok (.iaload, 1) := by decide +kernel
theorem dX6_worth_51 : decode cX6_worth 51 = .ok (.invokevirtual 51, 3) := by decide +kernel
theorem dX6_worth_54 : decode cX6_worth 54 = .ok (.lconst 0, 1) := by decide +kernel
theorem dX6_worth_55 : decode cX6_worth 55 = .ok (.lcmp, 1) := by decide +kernel
theorem dX6_worth_56 : decode cX6_worth 56 = .ok (.ifCond .eq 7, 3) := by decide +kernel
theorem dX6_worth_59 : decode cX6_worth 59 = .ok (.iconst 1, 1) := by decide +kernel
theorem dX6_worth_60 : decode cX6_worth 60 = .ok (.goto 4, 3) := by decide +kernel
theorem dX6_worth_63 : decode cX6_worth 63 = .ok (.iconst 0, 1) := by decide +kernel
theorem dX6_worth_64 : decode cX6_worth 64 = .ok (.istore 5, 2) := by decide +kernel
theorem dX6_worth_66 : decode cX6_worth 66 = .ok (.iload 5, 2) := by decide +kernel
theorem dX6_worth_68 : decode cX6_worth 68 = .ok (.ifCond .eq 22, 3) := by decide +kernel
theorem dX6_worth_71 : decode cX6_worth 71 = .ok (.aload_n 0, 1) := by decide +kernel
theorem dX6_worth_72 : decode cX6_worth 72 = .ok (.aload_n 0, 1) := by decide +kernel
theorem dX6_worth_73 : decode cX6_worth 73 = .ok (.getfield 21, 3) := by decide +kernel
theorem dX6_worth_76 : decode cX6_worth 76 = .ok (.iload 4, 2) := by decide +kernel
theorem dX6_worth_78 : decode cX6_worth 78 = .ok (.iaload, 1) := by decide +kernel
theorem dX6_worth_79 : decode cX6_worth 79 = .ok (.aload_n 0, 1) := by decide +kernel
theorem dX6_worth_80 : decode cX6_worth 80 = .ok (.getfield 24, 3) := by decide +kernel
theorem dX6_worth_83 : decode cX6_worth 83 = .ok (.iload 4, 2) := by decide +kernel
theorem dX6_worth_85 : decode cX6_worth 85 = .ok (.iaload, 1) := by decide +kernel
theorem dX6_worth_86 : decode cX6_worth 86 = .ok (.invokevirtual 51, 3) := by decide +kernel
theorem dX6_worth_89 : decode cX6_worth 89 = .ok (.lreturn, 1) := by decide +kernel
theorem dX6_worth_90 : decode cX6_worth 90 = .ok (.iinc 4 1, 3) := by decide +kernel
theorem dX6_worth_93 : decode cX6_worth 93 = .ok (.goto (-83), 3) := by decide +kernel
theorem dX6_worth_96 : decode cX6_worth 96 = .ok (.lconst 0, 1) := by decide +kernel
theorem dX6_worth_97 : decode cX6_worth 97 = .ok (.lreturn, 1) := by decide +kernel
abbrev MRule_worth : rx_M := (RX6, yX6_worth, cX6_worth, 6, (some .long), 4)
theorem kRule_worth : rKv MRule_worth 3 := ⟨tb_in (i := 5) (j := 12) rfl rfl, tb_in (i := 5) (j := 13) rfl rfl, tb_in (i := 5) (j := 7) rfl rfl, tb_in (i := 5) (j := 11) rfl rfl, ⟨by decide, by decide, by decide +kernel⟩, by decide⟩
section
variable {a0 : Nat → Nat} {a1 : Nat → Nat} {z0_steps : Nat → Int32} {z0_size : Int32} {z0_sumFrom : Nat → Int32} {z0_testFrom : Nat → Int32} {z0_testTo : Nat → Int32} {z0_clauses : Int32} {z0_parts : Int32} {z0_readsTime : Int32} {z0_words : Nat → Int64} {z0_stack : Nat → Int64} {z1_lasts : Int32} {z1_keeps : Int32} {z1_stalls : Int32} {z1_buyers : Int32} {z1_minute : Int32} {z1_goods : Nat → Int32} {z1_price : Nat → Int32} {z1_tongue : Nat → Int32} {z1_till : Nat → Int32} {z1_wealth : Nat → Int32} {z1_sold : Nat → Int32} {z1_ring : Nat → Int32} {z1_grudges : Nat → Int32} {z1_purse : Nat → Int32} {z1_came : Nat → Int32} {z1_had : Nat → Int32} {z1_seller : Nat → Int32} {z1_praise : Nat → Int32} {z1_borne : Nat → Int32}
def mRule_worth_l10 (z0_steps : Nat → Int32) (z0_size : Int32) (z0_sumFrom : Nat → Int32) (z0_testFrom : Nat → Int32) (z0_testTo : Nat → Int32) (z0_clauses : Int32) (z0_words : Nat → Int64) (z1_lasts : Int32) (z1_minute : Int32) (z1_goods : Nat → Int32) (z1_price : Nat → Int32) (z1_sold : Nat → Int32) (z1_purse : Nat → Int32) (z1_came : Nat → Int32) (z1_had : Nat → Int32) (z1_praise : Nat → Int32) (z1_borne : Nat → Int32) : Nat → Int32 → (Nat → Int64) → Option (Int64 × (Nat → Int64) × (Nat → Int64))
  | 0, _, _ => none
  | n + 1, x4, z0_stack => (if z0_clauses ≤ x4 then some ((0 : Int64), z0_words, z0_stack) else rq (inb x4 12) (rq (inb x4 12) ((if (z0_testFrom x4.toNatClampNeg) = (z0_testTo x4.toNatClampNeg) then (if (1 : Int32) = 0 then mRule_worth_l10 z0_steps z0_size z0_sumFrom z0_testFrom z0_testTo z0_clauses z0_words z1_lasts z1_minute z1_goods z1_price z1_sold z1_purse z1_came z1_had z1_praise z1_borne n (x4 + (1 : Int32)) z0_stack else rq (inb x4 12) (rq (inb x4 12) ((mRule_work (z0_sumFrom x4.toNatClampNeg) (z0_testFrom x4.toNatClampNeg) z0_steps z0_size z0_words z0_stack).bind (fun q9 => some (q9.1, z0_words, q9.2))))) else rq (inb x4 12) (rq (inb x4 12) ((mRule_work (z0_testFrom x4.toNatClampNeg) (z0_testTo x4.toNatClampNeg) z0_steps z0_size z0_words z0_stack).bind (fun q12 => (if (lg_cmp q12.1 (0 : Int64)) = 0 then (if (0 : Int32) = 0 then mRule_worth_l10 z0_steps z0_size z0_sumFrom z0_testFrom z0_testTo z0_clauses z0_words z1_lasts z1_minute z1_goods z1_price z1_sold z1_purse z1_came z1_had z1_praise z1_borne n (x4 + (1 : Int32)) q12.2 else rq (inb x4 12) (rq (inb x4 12) ((mRule_work (z0_sumFrom x4.toNatClampNeg) (z0_testFrom x4.toNatClampNeg) z0_steps z0_size z0_words q12.2).bind (fun q17 => some (q17.1, z0_words, q17.2))))) else (if (1 : Int32) = 0 then mRule_worth_l10 z0_steps z0_size z0_sumFrom z0_testFrom z0_testTo z0_clauses z0_words z1_lasts z1_minute z1_goods z1_price z1_sold z1_purse z1_came z1_had z1_praise z1_borne n (x4 + (1 : Int32)) q12.2 else rq (inb x4 12) (rq (inb x4 12) ((mRule_work (z0_sumFrom x4.toNatClampNeg) (z0_testFrom x4.toNatClampNeg) z0_steps z0_size z0_words q12.2).bind (fun q21 => some (q21.1, z0_words, q21.2)))))))))))))
set_option maxHeartbeats 4000000 in
set_option maxRecDepth 20000 in
theorem cRule_worth_l10 {q : Int64 × (Nat → Int64) × (Nat → Int64)}   : ∀ (n : Nat) (x4 : Int32) (z0_stack : Nat → Int64), mRule_worth_l10 z0_steps z0_size z0_sumFrom z0_testFrom z0_testTo z0_clauses z0_words z1_lasts z1_minute z1_goods z1_price z1_sold z1_purse z1_came z1_had z1_praise z1_borne n x4 z0_stack = some q → rW l D Z (ty7 K) MRule_worth 10 [(0, .ref (a0 0)), (4, .int x4)] [] (List.flatten [bRule K a0 z0_steps z0_size z0_sumFrom z0_testFrom z0_testTo z0_clauses z0_parts z0_readsTime z0_words z0_stack, bFair K a1 z1_lasts z1_keeps z1_stalls z1_buyers z1_minute z1_goods z1_price z1_tongue z1_till z1_wealth z1_sold z1_ring z1_grudges z1_purse z1_came z1_had z1_seller z1_praise z1_borne]) (List.flatten [bRule K a0 z0_steps z0_size z0_sumFrom z0_testFrom z0_testTo z0_clauses z0_parts z0_readsTime q.2.1 q.2.2, bFair K a1 z1_lasts z1_keeps z1_stalls z1_buyers z1_minute z1_goods z1_price z1_tongue z1_till z1_wealth z1_sold z1_ring z1_grudges z1_purse z1_came z1_had z1_seller z1_praise z1_borne]) (some (.long q.1)) := by
  intro n
  induction n with
  | zero => intro x4 z0_stack h; unfold mRule_worth_l10 at h; cases h
  | succ n ih =>
    intro x4 z0_stack h
    unfold mRule_worth_l10 at h
    refine r_iload 1 dX6_worth_10 rfl ?_
    refine r_aload_n 0 dX6_worth_12 rfl ?_
    refine gRule_clauses 0 rfl (tb_in (i := 5) (j := 0) rfl rfl) dX6_worth_13 ?_
    refine r_icmp_ge 96 dX6_worth_16 (by decide) (fun c2 => ?_) (fun c2 => ?_)
    · replace h := it_pos c2 h
      refine r_lconst (x := (0 : Int64)) dX6_worth_96 (by decide) ?_
      have hq := Option.some.inj h
      subst hq
      exact r_lret rfl dX6_worth_97
    · replace h := it_neg c2 h
      refine r_aload_n 0 dX6_worth_19 rfl ?_
      refine gRule_testFrom 0 rfl (tb_in (i := 5) (j := 1) rfl rfl) dX6_worth_20 ?_
      refine r_iload 1 dX6_worth_23 rfl ?_
      obtain ⟨h3, h⟩ := rq_some h
      refine lRule_testFrom 0 rfl (inb_in h3) dX6_worth_25 ?_
      refine r_aload_n 0 dX6_worth_26 rfl ?_
      refine gRule_testTo 0 rfl (tb_in (i := 5) (j := 2) rfl rfl) dX6_worth_27 ?_
      refine r_iload 1 dX6_worth_30 rfl ?_
      obtain ⟨h4, h⟩ := rq_some h
      refine lRule_testTo 0 rfl (inb_in h4) dX6_worth_32 ?_
      refine r_icmp_eq 59 dX6_worth_33 (by decide) (fun c5 => ?_) (fun c5 => ?_)
      · replace h := it_pos c5 h
        refine r_iconst (x := (1 : Int32)) dX6_worth_59 (by decide) ?_
        refine r_goto 64 dX6_worth_60 (by decide) ?_
        refine r_istore (lv' := [(5, .int (1 : Int32)), (0, .ref (a0 0)), (4, .int x4)]) dX6_worth_64 (Nat.le_of_ble_eq_true rfl) rfl ?_
        refine r_iload 0 dX6_worth_66 rfl ?_
        refine r_if_eq 90 dX6_worth_68 (by decide) (fun c6 => ?_) (fun c6 => ?_)
        · replace h := it_pos c6 h
          refine r_iinc (y := (x4 + (1 : Int32))) (lv' := [(4, .int (x4 + (1 : Int32))), (5, .int (1 : Int32)), (0, .ref (a0 0))]) 2 dX6_worth_90 rfl rfl (Nat.le_of_ble_eq_true rfl) rfl ?_
          refine r_goto 10 dX6_worth_93 (by decide) ?_
          refine r_sub (lv' := [(0, .ref (a0 0)), (4, .int (x4 + (1 : Int32)))]) [2, 0] rfl ?_
          exact ih (x4 + (1 : Int32)) z0_stack h
        · replace h := it_neg c6 h
          refine r_aload_n 1 dX6_worth_71 rfl ?_
          refine r_aload_n 1 dX6_worth_72 rfl ?_
          refine gRule_sumFrom 0 rfl (tb_in (i := 5) (j := 3) rfl rfl) dX6_worth_73 ?_
          refine r_iload 2 dX6_worth_76 rfl ?_
          obtain ⟨h7, h⟩ := rq_some h
          refine lRule_sumFrom 0 rfl (inb_in h7) dX6_worth_78 ?_
          refine r_aload_n 1 dX6_worth_79 rfl ?_
          refine gRule_testFrom 0 rfl (tb_in (i := 5) (j := 1) rfl rfl) dX6_worth_80 ?_
          refine r_iload 2 dX6_worth_83 rfl ?_
          obtain ⟨h8, h⟩ := rq_some h
          refine lRule_testFrom 0 rfl (inb_in h8) dX6_worth_85 ?_
          obtain ⟨q9, h9, h⟩ := bd_some h
          refine b_callV (isC := [0]) (ci := 5)  (st := []) (bs1 := [bRule K a0 z0_steps z0_size z0_sumFrom z0_testFrom z0_testTo z0_clauses z0_parts z0_readsTime z0_words q9.2, bFair K a1 z1_lasts z1_keeps z1_stalls z1_buyers z1_minute z1_goods z1_price z1_tongue z1_till z1_wealth z1_sold z1_ring z1_grudges z1_purse z1_came z1_had z1_seller z1_praise z1_borne]) (cRule_work (a0 := a0) (z0_steps := z0_steps) (z0_size := z0_size) (z0_sumFrom := z0_sumFrom) (z0_testFrom := z0_testFrom) (z0_testTo := z0_testTo) (z0_clauses := z0_clauses) (z0_parts := z0_parts) (z0_readsTime := z0_readsTime) (z0_words := z0_words) (z0_stack := z0_stack) h9) rfl rfl (Nat.le_of_ble_eq_true rfl) kRule_work (tb_in (i := 5) (j := 8) rfl rfl) (by decide) (by decide) rfl rfl rfl rfl rfl rfl rfl dX6_worth_86 ?_
          have hq := Option.some.inj h
          subst hq
          exact r_lret rfl dX6_worth_89
      · replace h := it_neg c5 h
        refine r_aload_n 0 dX6_worth_36 rfl ?_
        refine r_aload_n 0 dX6_worth_37 rfl ?_
        refine gRule_testFrom 0 rfl (tb_in (i := 5) (j := 1) rfl rfl) dX6_worth_38 ?_
        refine r_iload 1 dX6_worth_41 rfl ?_
        obtain ⟨h10, h⟩ := rq_some h
        refine lRule_testFrom 0 rfl (inb_in h10) dX6_worth_43 ?_
        refine r_aload_n 0 dX6_worth_44 rfl ?_
        refine gRule_testTo 0 rfl (tb_in (i := 5) (j := 2) rfl rfl) dX6_worth_45 ?_
        refine r_iload 1 dX6_worth_48 rfl ?_
        obtain ⟨h11, h⟩ := rq_some h
        refine lRule_testTo 0 rfl (inb_in h11) dX6_worth_50 ?_
        obtain ⟨q12, h12, h⟩ := bd_some h
        refine b_callV (isC := [0]) (ci := 5)  (st := []) (bs1 := [bRule K a0 z0_steps z0_size z0_sumFrom z0_testFrom z0_testTo z0_clauses z0_parts z0_readsTime z0_words q12.2, bFair K a1 z1_lasts z1_keeps z1_stalls z1_buyers z1_minute z1_goods z1_price z1_tongue z1_till z1_wealth z1_sold z1_ring z1_grudges z1_purse z1_came z1_had z1_seller z1_praise z1_borne]) (cRule_work (a0 := a0) (z0_steps := z0_steps) (z0_size := z0_size) (z0_sumFrom := z0_sumFrom) (z0_testFrom := z0_testFrom) (z0_testTo := z0_testTo) (z0_clauses := z0_clauses) (z0_parts := z0_parts) (z0_readsTime := z0_readsTime) (z0_words := z0_words) (z0_stack := z0_stack) h12) rfl rfl (Nat.le_of_ble_eq_true rfl) kRule_work (tb_in (i := 5) (j := 8) rfl rfl) (by decide) (by decide) rfl rfl rfl rfl rfl rfl rfl dX6_worth_51 ?_
        refine r_lconst (x := (0 : Int64)) dX6_worth_54 (by decide) ?_
        refine r_lcmp dX6_worth_55 ?_
        refine r_if_eq 63 dX6_worth_56 (by decide) (fun c13 => ?_) (fun c13 => ?_)
        · replace h := it_pos c13 h
          refine r_iconst (x := (0 : Int32)) dX6_worth_63 (by decide) ?_
          refine r_istore (lv' := [(5, .int (0 : Int32)), (0, .ref (a0 0)), (4, .int x4)]) dX6_worth_64 (Nat.le_of_ble_eq_true rfl) rfl ?_
          refine r_iload 0 dX6_worth_66 rfl ?_
          refine r_if_eq 90 dX6_worth_68 (by decide) (fun c14 => ?_) (fun c14 => ?_)
          · replace h := it_pos c14 h
            refine r_iinc (y := (x4 + (1 : Int32))) (lv' := [(4, .int (x4 + (1 : Int32))), (5, .int (0 : Int32)), (0, .ref (a0 0))]) 2 dX6_worth_90 rfl rfl (Nat.le_of_ble_eq_true rfl) rfl ?_
            refine r_goto 10 dX6_worth_93 (by decide) ?_
            refine r_sub (lv' := [(0, .ref (a0 0)), (4, .int (x4 + (1 : Int32)))]) [2, 0] rfl ?_
            exact ih (x4 + (1 : Int32)) q12.2 h
          · replace h := it_neg c14 h
            refine r_aload_n 1 dX6_worth_71 rfl ?_
            refine r_aload_n 1 dX6_worth_72 rfl ?_
            refine gRule_sumFrom 0 rfl (tb_in (i := 5) (j := 3) rfl rfl) dX6_worth_73 ?_
            refine r_iload 2 dX6_worth_76 rfl ?_
            obtain ⟨h15, h⟩ := rq_some h
            refine lRule_sumFrom 0 rfl (inb_in h15) dX6_worth_78 ?_
            refine r_aload_n 1 dX6_worth_79 rfl ?_
            refine gRule_testFrom 0 rfl (tb_in (i := 5) (j := 1) rfl rfl) dX6_worth_80 ?_
            refine r_iload 2 dX6_worth_83 rfl ?_
            obtain ⟨h16, h⟩ := rq_some h
            refine lRule_testFrom 0 rfl (inb_in h16) dX6_worth_85 ?_
            obtain ⟨q17, h17, h⟩ := bd_some h
            refine b_callV (isC := [0]) (ci := 5)  (st := []) (bs1 := [bRule K a0 z0_steps z0_size z0_sumFrom z0_testFrom z0_testTo z0_clauses z0_parts z0_readsTime z0_words q17.2, bFair K a1 z1_lasts z1_keeps z1_stalls z1_buyers z1_minute z1_goods z1_price z1_tongue z1_till z1_wealth z1_sold z1_ring z1_grudges z1_purse z1_came z1_had z1_seller z1_praise z1_borne]) (cRule_work (a0 := a0) (z0_steps := z0_steps) (z0_size := z0_size) (z0_sumFrom := z0_sumFrom) (z0_testFrom := z0_testFrom) (z0_testTo := z0_testTo) (z0_clauses := z0_clauses) (z0_parts := z0_parts) (z0_readsTime := z0_readsTime) (z0_words := z0_words) (z0_stack := q12.2) h17) rfl rfl (Nat.le_of_ble_eq_true rfl) kRule_work (tb_in (i := 5) (j := 8) rfl rfl) (by decide) (by decide) rfl rfl rfl rfl rfl rfl rfl dX6_worth_86 ?_
            have hq := Option.some.inj h
            subst hq
            exact r_lret rfl dX6_worth_89
        · replace h := it_neg c13 h
          refine r_iconst (x := (1 : Int32)) dX6_worth_59 (by decide) ?_
          refine r_goto 64 dX6_worth_60 (by decide) ?_
          refine r_istore (lv' := [(5, .int (1 : Int32)), (0, .ref (a0 0)), (4, .int x4)]) dX6_worth_64 (Nat.le_of_ble_eq_true rfl) rfl ?_
          refine r_iload 0 dX6_worth_66 rfl ?_
          refine r_if_eq 90 dX6_worth_68 (by decide) (fun c18 => ?_) (fun c18 => ?_)
          · replace h := it_pos c18 h
            refine r_iinc (y := (x4 + (1 : Int32))) (lv' := [(4, .int (x4 + (1 : Int32))), (5, .int (1 : Int32)), (0, .ref (a0 0))]) 2 dX6_worth_90 rfl rfl (Nat.le_of_ble_eq_true rfl) rfl ?_
            refine r_goto 10 dX6_worth_93 (by decide) ?_
            refine r_sub (lv' := [(0, .ref (a0 0)), (4, .int (x4 + (1 : Int32)))]) [2, 0] rfl ?_
            exact ih (x4 + (1 : Int32)) q12.2 h
          · replace h := it_neg c18 h
            refine r_aload_n 1 dX6_worth_71 rfl ?_
            refine r_aload_n 1 dX6_worth_72 rfl ?_
            refine gRule_sumFrom 0 rfl (tb_in (i := 5) (j := 3) rfl rfl) dX6_worth_73 ?_
            refine r_iload 2 dX6_worth_76 rfl ?_
            obtain ⟨h19, h⟩ := rq_some h
            refine lRule_sumFrom 0 rfl (inb_in h19) dX6_worth_78 ?_
            refine r_aload_n 1 dX6_worth_79 rfl ?_
            refine gRule_testFrom 0 rfl (tb_in (i := 5) (j := 1) rfl rfl) dX6_worth_80 ?_
            refine r_iload 2 dX6_worth_83 rfl ?_
            obtain ⟨h20, h⟩ := rq_some h
            refine lRule_testFrom 0 rfl (inb_in h20) dX6_worth_85 ?_
            obtain ⟨q21, h21, h⟩ := bd_some h
            refine b_callV (isC := [0]) (ci := 5)  (st := []) (bs1 := [bRule K a0 z0_steps z0_size z0_sumFrom z0_testFrom z0_testTo z0_clauses z0_parts z0_readsTime z0_words q21.2, bFair K a1 z1_lasts z1_keeps z1_stalls z1_buyers z1_minute z1_goods z1_price z1_tongue z1_till z1_wealth z1_sold z1_ring z1_grudges z1_purse z1_came z1_had z1_seller z1_praise z1_borne]) (cRule_work (a0 := a0) (z0_steps := z0_steps) (z0_size := z0_size) (z0_sumFrom := z0_sumFrom) (z0_testFrom := z0_testFrom) (z0_testTo := z0_testTo) (z0_clauses := z0_clauses) (z0_parts := z0_parts) (z0_readsTime := z0_readsTime) (z0_words := z0_words) (z0_stack := q12.2) h21) rfl rfl (Nat.le_of_ble_eq_true rfl) kRule_work (tb_in (i := 5) (j := 8) rfl rfl) (by decide) (by decide) rfl rfl rfl rfl rfl rfl rfl dX6_worth_86 ?_
            have hq := Option.some.inj h
            subst hq
            exact r_lret rfl dX6_worth_89
def mRule_worth (x2 : Int32) (x3 : Int32) (z0_steps : Nat → Int32) (z0_size : Int32) (z0_sumFrom : Nat → Int32) (z0_testFrom : Nat → Int32) (z0_testTo : Nat → Int32) (z0_clauses : Int32) (z0_words : Nat → Int64) (z0_stack : Nat → Int64) (z1_lasts : Int32) (z1_minute : Int32) (z1_goods : Nat → Int32) (z1_price : Nat → Int32) (z1_sold : Nat → Int32) (z1_purse : Nat → Int32) (z1_came : Nat → Int32) (z1_had : Nat → Int32) (z1_praise : Nat → Int32) (z1_borne : Nat → Int32) : Option (Int64 × (Nat → Int64) × (Nat → Int64)) := (mRule_tellWords x2 x3 z0_words z1_lasts z1_minute z1_goods z1_price z1_sold z1_purse z1_came z1_had z1_praise z1_borne).bind (fun q1 => mRule_worth_l10 z0_steps z0_size z0_sumFrom z0_testFrom z0_testTo z0_clauses q1 z1_lasts z1_minute z1_goods z1_price z1_sold z1_purse z1_came z1_had z1_praise z1_borne FU (0 : Int32) z0_stack)
set_option maxHeartbeats 4000000 in
set_option maxRecDepth 20000 in
theorem cRule_worth {q : Int64 × (Nat → Int64) × (Nat → Int64)} {x2 : Int32} {x3 : Int32} (h : mRule_worth x2 x3 z0_steps z0_size z0_sumFrom z0_testFrom z0_testTo z0_clauses z0_words z0_stack z1_lasts z1_minute z1_goods z1_price z1_sold z1_purse z1_came z1_had z1_praise z1_borne = some q) : rMet l D Z (ty7 K) MRule_worth [.ref (a0 0), .ref (a1 0), .int x2, .int x3] (List.flatten [bRule K a0 z0_steps z0_size z0_sumFrom z0_testFrom z0_testTo z0_clauses z0_parts z0_readsTime z0_words z0_stack, bFair K a1 z1_lasts z1_keeps z1_stalls z1_buyers z1_minute z1_goods z1_price z1_tongue z1_till z1_wealth z1_sold z1_ring z1_grudges z1_purse z1_came z1_had z1_seller z1_praise z1_borne]) (List.flatten [bRule K a0 z0_steps z0_size z0_sumFrom z0_testFrom z0_testTo z0_clauses z0_parts z0_readsTime q.2.1 q.2.2, bFair K a1 z1_lasts z1_keeps z1_stalls z1_buyers z1_minute z1_goods z1_price z1_tongue z1_till z1_wealth z1_sold z1_ring z1_grudges z1_purse z1_came z1_had z1_seller z1_praise z1_borne]) (some (.long q.1)) := by
  refine rMet.of (by decide) rfl (Nat.le_of_ble_eq_true rfl) ?_
  refine r_sub (lv' := [(0, .ref (a0 0)), (1, .ref (a1 0)), (2, .int x2), (3, .int x3)]) [0, 1, 2, 3] rfl ?_
  unfold mRule_worth at h
  refine r_aload_n 0 dX6_worth_0 rfl ?_
  refine r_aload_n 1 dX6_worth_1 rfl ?_
  refine r_iload_n 2 dX6_worth_2 rfl ?_
  refine r_iload_n 3 dX6_worth_3 rfl ?_
  obtain ⟨q1, h1, h⟩ := bd_some h
  refine b_callV (isC := [0, 1]) (ci := 5)  (st := []) (bs1 := [bRule K a0 z0_steps z0_size z0_sumFrom z0_testFrom z0_testTo z0_clauses z0_parts z0_readsTime q1 z0_stack, bFair K a1 z1_lasts z1_keeps z1_stalls z1_buyers z1_minute z1_goods z1_price z1_tongue z1_till z1_wealth z1_sold z1_ring z1_grudges z1_purse z1_came z1_had z1_seller z1_praise z1_borne]) (cRule_tellWords (a0 := a0) (a1 := a1) (z0_steps := z0_steps) (z0_size := z0_size) (z0_sumFrom := z0_sumFrom) (z0_testFrom := z0_testFrom) (z0_testTo := z0_testTo) (z0_clauses := z0_clauses) (z0_parts := z0_parts) (z0_readsTime := z0_readsTime) (z0_words := z0_words) (z0_stack := z0_stack) (z1_lasts := z1_lasts) (z1_keeps := z1_keeps) (z1_stalls := z1_stalls) (z1_buyers := z1_buyers) (z1_minute := z1_minute) (z1_goods := z1_goods) (z1_price := z1_price) (z1_tongue := z1_tongue) (z1_till := z1_till) (z1_wealth := z1_wealth) (z1_sold := z1_sold) (z1_ring := z1_ring) (z1_grudges := z1_grudges) (z1_purse := z1_purse) (z1_came := z1_came) (z1_had := z1_had) (z1_seller := z1_seller) (z1_praise := z1_praise) (z1_borne := z1_borne) h1) rfl rfl (Nat.le_of_ble_eq_true rfl) kRule_tellWords (tb_in (i := 5) (j := 4) rfl rfl) (by decide) (by decide) rfl rfl rfl rfl rfl rfl rfl dX6_worth_4 ?_
  refine r_iconst (x := (0 : Int32)) dX6_worth_7 (by decide) ?_
  refine r_istore (lv' := [(4, .int (0 : Int32)), (0, .ref (a0 0)), (1, .ref (a1 0)), (2, .int x2), (3, .int x3)]) dX6_worth_8 (Nat.le_of_ble_eq_true rfl) rfl ?_
  refine r_sub (lv' := [(0, .ref (a0 0)), (4, .int (0 : Int32))]) [1, 0] rfl ?_
  exact cRule_worth_l10   FU (0 : Int32) z0_stack h
end
theorem dX1_choice_0 : decode cX1_choice 0 = .ok (.iconst (-1), 1) := by decide +kernel
theorem dX1_choice_1 : decode cX1_choice 1 = .ok (.istore_n 3, 1) := by decide +kernel
theorem dX1_choice_2 : decode cX1_choice 2 = .ok (.lconst 0, 1) := by decide +kernel
theorem dX1_choice_3 : decode cX1_choice 3 = .ok (.lstore 4, 2) := by decide +kernel
theorem dX1_choice_5 : decode cX1_choice 5 = .ok (.iconst 0, 1) := by decide +kernel
theorem dX1_choice_6 : decode cX1_choice 6 = .ok (.istore 6, 2) := by decide +kernel
theorem dX1_choice_8 : decode cX1_choice 8 = .ok (.iload 6, 2) := by decide +kernel
theorem dX1_choice_10 : decode cX1_choice 10 = .ok (.aload_n 0, 1) := by decide +kernel
theorem dX1_choice_11 : decode cX1_choice 11 = .ok (.getfield 18, 3) := by decide +kernel
theorem dX1_choice_14 : decode cX1_choice 14 = .ok (.if_icmp .ge 81, 3) := by decide +kernel
theorem dX1_choice_17 : decode cX1_choice 17 = .ok (.aload_n 0, 1) := by decide +kernel
theorem dX1_choice_18 : decode cX1_choice 18 = .ok (.iload_n 2, 1) := by decide +kernel
theorem dX1_choice_19 : decode cX1_choice 19 = .ok (.iload 6, 2) := by decide +kernel
theorem dX1_choice_21 : decode cX1_choice 21 = .ok (.invokevirtual 97, 3) := by decide +kernel
theorem dX1_choice_24 : decode cX1_choice 24 = .ok (.ifCond .ne 6, 3) := by decide +kernel
theorem dX1_choice_27 : decode cX1_choice 27 = .ok (.goto 62, 3) := by decide +kernel
theorem dX1_choice_30 : decode cX1_choice 30 = .ok (.aload_n 1, 1) := by decide +kernel
theorem dX1_choice_31 : decode cX1_choice 31 = .ok (.ifnull 14, 3) := by decide +kernel
theorem dX1_choice_34 : decode cX1_choice 34 = .ok (.aload_n 1, 1) := by decide +kernel
theorem dX1_choice_35 : decode cX1_choice 35 = .ok (.aload_n 0, 1) := by decide +kernel
theorem dX1_choice_36 : decode cX1_choice 36 = .ok (.iload_n 2, 1) := by decide +kernel
theorem dX1_choice_37 : decode cX1_choice 37 = .ok (.iload 6, 2) := by decide +kernel
theorem dX1_choice_39 : decode cX1_choice 39 = .ok (.invokevirtual 123, 3) := by decide +kernel
theorem dX1_choice_42 : decode cX1_choice 42 = .ok (.goto 30, 3) := by decide +kernel
theorem dX1_choice_45 : decode cX1_choice 45 = .ok (.iconst 1, 1) := by decide +kernel
theorem dX1_choice_46 : decode cX1_choice 46 = .ok (.aload_n 0, 1) := by decide +kernel
theorem dX1_choice_47 : decode cX1_choice 47 = .ok (.getfield 64, 3) := by decide +kernel
theorem dX1_choice_50 : decode cX1_choice 50 = .ok (.iload 6, 2) := by decide +kernel
theorem dX1_choice_52 : decode cX1_choice 52 = .ok (.iaload, 1) := by decide +kernel
theorem dX1_choice_53 : decode cX1_choice 53 = .ok (.iadd, 1) := by decide +kernel
theorem dX1_choice_54 : decode cX1_choice 54 = .ok (.aload_n 0, 1) := by decide +kernel
theorem dX1_choice_55 : decode cX1_choice 55 = .ok (.getfield 55, 3) := by decide +kernel
theorem dX1_choice_58 : decode cX1_choice 58 = .ok (.iload_n 2, 1) := by decide +kernel
theorem dX1_choice_59 : decode cX1_choice 59 = .ok (.iaload, 1) := by decide +kernel
theorem dX1_choice_60 : decode cX1_choice 60 = .ok (.iload 6, 2) := by decide +kernel
theorem dX1_choice_62 : decode cX1_choice 62 = .ok (.if_icmp .ne 7, 3) := by decide +kernel
theorem dX1_choice_65 : decode cX1_choice 65 = .ok (.iconst 3, 1) := by decide +kernel
theorem dX1_choice_66 : decode cX1_choice 66 = .ok (.goto 4, 3) := by decide +kernel
theorem dX1_choice_69 : decode cX1_choice 69 = .ok (.iconst 0, 1) := by decide +kernel
theorem dX1_choice_70 : decode cX1_choice 70 = .ok (.iadd, 1) := by decide +kernel
theorem dX1_choice_71 : decode cX1_choice 71 = .ok (.i2l, 1) := by decide +kernel
theorem dX1_choice_72 : decode cX1_choice 72 = .ok (.lstore 7, 2) := by decide +kernel
theorem dX1_choice_74 : decode cX1_choice 74 = .ok (.lload 7, 2) := by decide +kernel
theorem dX1_choice_76 : decode cX1_choice 76 = .ok (.lload 4, 2) := by decide +kernel
theorem dX1_choice_78 : decode cX1_choice 78 = .ok (.lcmp, 1) := by decide +kernel
theorem dX1_choice_79 : decode cX1_choice 79 = .ok (.ifCond .le 10, 3) := by decide +kernel
theorem dX1_choice_82 : decode cX1_choice 82 = .ok (.lload 7, 2) := by decide +kernel
theorem dX1_choice_84 : decode cX1_choice 84 = .ok (.lstore 4, 2) := by decide +kernel
theorem dX1_choice_86 : decode cX1_choice 86 = .ok (.iload 6, 2) := by decide +kernel
theorem dX1_choice_88 : decode cX1_choice 88 = .ok (.istore_n 3, 1) := by decide +kernel
theorem dX1_choice_89 : decode cX1_choice 89 = .ok (.iinc 6 1, 3) := by decide +kernel
theorem dX1_choice_92 : decode cX1_choice 92 = .ok (.goto (-84), 3) := by decide +kernel
theorem dX1_choice_95 : decode cX1_choice 95 = .ok (.iload_n 3, 1) := by decide +kernel
theorem dX1_choice_96 : decode cX1_choice 96 = .ok (.ireturn, 1) := by decide +kernel
abbrev MFair_choicer : rx_M := (RX1, yX1_choice, cX1_choice, 9, (some .int), 5)
theorem kFair_choicer : rKv MFair_choicer 2 := ⟨tb_in (i := 5) (j := 16) rfl rfl, tb_in (i := 5) (j := 17) rfl rfl, tb_in (i := 3) (j := 26) rfl rfl, tb_in (i := 5) (j := 14) rfl rfl, ⟨by decide, by decide, by decide +kernel⟩, by decide⟩
section
variable {a0 : Nat → Nat} {a1 : Nat → Nat} {z0_lasts : Int32} {z0_keeps : Int32} {z0_stalls : Int32} {z0_buyers : Int32} {z0_minute : Int32} {z0_goods : Nat → Int32} {z0_price : Nat → Int32} {z0_tongue : Nat → Int32} {z0_till : Nat → Int32} {z0_wealth : Nat → Int32} {z0_sold : Nat → Int32} {z0_ring : Nat → Int32} {z0_grudges : Nat → Int32} {z0_purse : Nat → Int32} {z0_came : Nat → Int32} {z0_had : Nat → Int32} {z0_seller : Nat → Int32} {z0_praise : Nat → Int32} {z0_borne : Nat → Int32} {z1_steps : Nat → Int32} {z1_size : Int32} {z1_sumFrom : Nat → Int32} {z1_testFrom : Nat → Int32} {z1_testTo : Nat → Int32} {z1_clauses : Int32} {z1_parts : Int32} {z1_readsTime : Int32} {z1_words : Nat → Int64} {z1_stack : Nat → Int64}
def mFair_choicer_l8 (z0_lasts : Int32) (z0_stalls : Int32) (z0_minute : Int32) (z0_goods : Nat → Int32) (z0_price : Nat → Int32) (z0_sold : Nat → Int32) (z0_purse : Nat → Int32) (z0_came : Nat → Int32) (z0_had : Nat → Int32) (z0_praise : Nat → Int32) (z0_borne : Nat → Int32) (z1_steps : Nat → Int32) (z1_size : Int32) (z1_sumFrom : Nat → Int32) (z1_testFrom : Nat → Int32) (z1_testTo : Nat → Int32) (z1_clauses : Int32) (x2 : Int32) : Nat → Int32 → Int64 → Int32 → (Nat → Int64) → (Nat → Int64) → Option (Int32 × (Nat → Int64) × (Nat → Int64))
  | 0, _, _, _, _, _ => none
  | n + 1, x3, x4, x6, z1_words, z1_stack => (if z0_stalls ≤ x6 then some (x3, z1_words, z1_stack) else (mFair_can x2 x6 z0_goods z0_price z0_purse).bind (fun q2 => (if q2 = 0 then mFair_choicer_l8 z0_lasts z0_stalls z0_minute z0_goods z0_price z0_sold z0_purse z0_came z0_had z0_praise z0_borne z1_steps z1_size z1_sumFrom z1_testFrom z1_testTo z1_clauses x2 n x3 x4 (x6 + (1 : Int32)) z1_words z1_stack else (mRule_worth x2 x6 z1_steps z1_size z1_sumFrom z1_testFrom z1_testTo z1_clauses z1_words z1_stack z0_lasts z0_minute z0_goods z0_price z0_sold z0_purse z0_came z0_had z0_praise z0_borne).bind (fun q4 => (if (lg_cmp q4.1 x4) ≤ 0 then mFair_choicer_l8 z0_lasts z0_stalls z0_minute z0_goods z0_price z0_sold z0_purse z0_came z0_had z0_praise z0_borne z1_steps z1_size z1_sumFrom z1_testFrom z1_testTo z1_clauses x2 n x3 x4 (x6 + (1 : Int32)) q4.2.1 q4.2.2 else mFair_choicer_l8 z0_lasts z0_stalls z0_minute z0_goods z0_price z0_sold z0_purse z0_came z0_had z0_praise z0_borne z1_steps z1_size z1_sumFrom z1_testFrom z1_testTo z1_clauses x2 n x6 q4.1 (x6 + (1 : Int32)) q4.2.1 q4.2.2)))))
set_option maxHeartbeats 4000000 in
set_option maxRecDepth 20000 in
theorem cFair_choicer_l8 {q : Int32 × (Nat → Int64) × (Nat → Int64)} {x2 : Int32}  : ∀ (n : Nat) (x3 : Int32) (x4 : Int64) (x6 : Int32) (z1_words : Nat → Int64) (z1_stack : Nat → Int64), mFair_choicer_l8 z0_lasts z0_stalls z0_minute z0_goods z0_price z0_sold z0_purse z0_came z0_had z0_praise z0_borne z1_steps z1_size z1_sumFrom z1_testFrom z1_testTo z1_clauses x2 n x3 x4 x6 z1_words z1_stack = some q → rW l D Z (ty7 K) MFair_choicer 8 [(0, .ref (a0 0)), (1, .ref (a1 0)), (2, .int x2), (3, .int x3), (4, .long x4), (6, .int x6)] [] (List.flatten [bFair K a0 z0_lasts z0_keeps z0_stalls z0_buyers z0_minute z0_goods z0_price z0_tongue z0_till z0_wealth z0_sold z0_ring z0_grudges z0_purse z0_came z0_had z0_seller z0_praise z0_borne, bRule K a1 z1_steps z1_size z1_sumFrom z1_testFrom z1_testTo z1_clauses z1_parts z1_readsTime z1_words z1_stack]) (List.flatten [bFair K a0 z0_lasts z0_keeps z0_stalls z0_buyers z0_minute z0_goods z0_price z0_tongue z0_till z0_wealth z0_sold z0_ring z0_grudges z0_purse z0_came z0_had z0_seller z0_praise z0_borne, bRule K a1 z1_steps z1_size z1_sumFrom z1_testFrom z1_testTo z1_clauses z1_parts z1_readsTime q.2.1 q.2.2]) (some (.int q.1)) := by
  intro n
  induction n with
  | zero => intro x3 x4 x6 z1_words z1_stack h; unfold mFair_choicer_l8 at h; cases h
  | succ n ih =>
    intro x3 x4 x6 z1_words z1_stack h
    unfold mFair_choicer_l8 at h
    refine r_iload 5 dX1_choice_8 rfl ?_
    refine r_aload_n 0 dX1_choice_10 rfl ?_
    refine gFair_stalls 0 rfl (tb_in (i := 2) (j := 31) rfl rfl) dX1_choice_11 ?_
    refine r_icmp_ge 95 dX1_choice_14 (by decide) (fun c1 => ?_) (fun c1 => ?_)
    · replace h := it_pos c1 h
      refine r_iload_n 3 dX1_choice_95 rfl ?_
      have hq := Option.some.inj h
      subst hq
      exact r_iret rfl dX1_choice_96
    · replace h := it_neg c1 h
      refine r_aload_n 0 dX1_choice_17 rfl ?_
      refine r_iload_n 2 dX1_choice_18 rfl ?_
      refine r_iload 5 dX1_choice_19 rfl ?_
      obtain ⟨q2, h2, h⟩ := bd_some h
      refine b_callV (isC := [0]) (ci := 1)  (st := []) (bs1 := [bFair K a0 z0_lasts z0_keeps z0_stalls z0_buyers z0_minute z0_goods z0_price z0_tongue z0_till z0_wealth z0_sold z0_ring z0_grudges z0_purse z0_came z0_had z0_seller z0_praise z0_borne, bRule K a1 z1_steps z1_size z1_sumFrom z1_testFrom z1_testTo z1_clauses z1_parts z1_readsTime z1_words z1_stack]) (cFair_can (a0 := a0) (z0_lasts := z0_lasts) (z0_keeps := z0_keeps) (z0_stalls := z0_stalls) (z0_buyers := z0_buyers) (z0_minute := z0_minute) (z0_goods := z0_goods) (z0_price := z0_price) (z0_tongue := z0_tongue) (z0_till := z0_till) (z0_wealth := z0_wealth) (z0_sold := z0_sold) (z0_ring := z0_ring) (z0_grudges := z0_grudges) (z0_purse := z0_purse) (z0_came := z0_came) (z0_had := z0_had) (z0_seller := z0_seller) (z0_praise := z0_praise) (z0_borne := z0_borne) h2) rfl rfl (Nat.le_of_ble_eq_true rfl) kFair_can (tb_in (i := 4) (j := 15) rfl rfl) (by decide) (by decide) rfl rfl rfl rfl rfl rfl rfl dX1_choice_21 ?_
      refine r_if_ne 30 dX1_choice_24 (by decide) (fun c3 => ?_) (fun c3 => ?_)
      · replace h := it_neg c3 h
        refine r_aload_n 1 dX1_choice_30 rfl ?_
        refine r_ifnull_ref dX1_choice_31 ?_
        refine r_aload_n 1 dX1_choice_34 rfl ?_
        refine r_aload_n 0 dX1_choice_35 rfl ?_
        refine r_iload_n 2 dX1_choice_36 rfl ?_
        refine r_iload 5 dX1_choice_37 rfl ?_
        obtain ⟨q4, h4, h⟩ := bd_some h
        refine b_callVN (isC := [1, 0]) (ci := 5)  (st := []) (bs1 := [bFair K a0 z0_lasts z0_keeps z0_stalls z0_buyers z0_minute z0_goods z0_price z0_tongue z0_till z0_wealth z0_sold z0_ring z0_grudges z0_purse z0_came z0_had z0_seller z0_praise z0_borne, bRule K a1 z1_steps z1_size z1_sumFrom z1_testFrom z1_testTo z1_clauses z1_parts z1_readsTime q4.2.1 q4.2.2]) (cRule_worth (a0 := a1) (a1 := a0) (z0_steps := z1_steps) (z0_size := z1_size) (z0_sumFrom := z1_sumFrom) (z0_testFrom := z1_testFrom) (z0_testTo := z1_testTo) (z0_clauses := z1_clauses) (z0_parts := z1_parts) (z0_readsTime := z1_readsTime) (z0_words := z1_words) (z0_stack := z1_stack) (z1_lasts := z0_lasts) (z1_keeps := z0_keeps) (z1_stalls := z0_stalls) (z1_buyers := z0_buyers) (z1_minute := z0_minute) (z1_goods := z0_goods) (z1_price := z0_price) (z1_tongue := z0_tongue) (z1_till := z0_till) (z1_wealth := z0_wealth) (z1_sold := z0_sold) (z1_ring := z0_ring) (z1_grudges := z0_grudges) (z1_purse := z0_purse) (z1_came := z0_came) (z1_had := z0_had) (z1_seller := z0_seller) (z1_praise := z0_praise) (z1_borne := z0_borne) h4) rfl rfl (Nat.le_of_ble_eq_true rfl) kRule_worth (List.mem_of_getElem? (i := 47) rfl) (by decide) (by decide) rfl rfl rfl rfl rfl rfl rfl dX1_choice_39 ?_
        refine r_goto 72 dX1_choice_42 (by decide) ?_
        refine r_lstore (lv' := [(7, .long q4.1), (0, .ref (a0 0)), (1, .ref (a1 0)), (2, .int x2), (3, .int x3), (4, .long x4), (6, .int x6)]) dX1_choice_72 (Nat.le_of_ble_eq_true rfl) rfl ?_
        refine r_lload 0 dX1_choice_74 rfl ?_
        refine r_lload 5 dX1_choice_76 rfl ?_
        refine r_lcmp dX1_choice_78 ?_
        refine r_if_le 89 dX1_choice_79 (by decide) (fun c5 => ?_) (fun c5 => ?_)
        · replace h := it_pos c5 h
          refine r_iinc (y := (x6 + (1 : Int32))) (lv' := [(6, .int (x6 + (1 : Int32))), (7, .long q4.1), (0, .ref (a0 0)), (1, .ref (a1 0)), (2, .int x2), (3, .int x3), (4, .long x4)]) 6 dX1_choice_89 rfl rfl (Nat.le_of_ble_eq_true rfl) rfl ?_
          refine r_goto 8 dX1_choice_92 (by decide) ?_
          refine r_sub (lv' := [(0, .ref (a0 0)), (1, .ref (a1 0)), (2, .int x2), (3, .int x3), (4, .long x4), (6, .int (x6 + (1 : Int32)))]) [2, 3, 4, 5, 6, 0] rfl ?_
          exact ih x3 x4 (x6 + (1 : Int32)) q4.2.1 q4.2.2 h
        · replace h := it_neg c5 h
          refine r_lload 0 dX1_choice_82 rfl ?_
          refine r_lstore (lv' := [(4, .long q4.1), (7, .long q4.1), (0, .ref (a0 0)), (1, .ref (a1 0)), (2, .int x2), (3, .int x3), (6, .int x6)]) dX1_choice_84 (Nat.le_of_ble_eq_true rfl) rfl ?_
          refine r_iload 6 dX1_choice_86 rfl ?_
          refine r_istore_n (lv' := [(3, .int x6), (4, .long q4.1), (7, .long q4.1), (0, .ref (a0 0)), (1, .ref (a1 0)), (2, .int x2), (6, .int x6)]) dX1_choice_88 (Nat.le_of_ble_eq_true rfl) rfl ?_
          refine r_iinc (y := (x6 + (1 : Int32))) (lv' := [(6, .int (x6 + (1 : Int32))), (3, .int x6), (4, .long q4.1), (7, .long q4.1), (0, .ref (a0 0)), (1, .ref (a1 0)), (2, .int x2)]) 6 dX1_choice_89 rfl rfl (Nat.le_of_ble_eq_true rfl) rfl ?_
          refine r_goto 8 dX1_choice_92 (by decide) ?_
          refine r_sub (lv' := [(0, .ref (a0 0)), (1, .ref (a1 0)), (2, .int x2), (3, .int x6), (4, .long q4.1), (6, .int (x6 + (1 : Int32)))]) [4, 5, 6, 1, 2, 0] rfl ?_
          exact ih x6 q4.1 (x6 + (1 : Int32)) q4.2.1 q4.2.2 h
      · replace h := it_pos c3 h
        refine r_goto 89 dX1_choice_27 (by decide) ?_
        refine r_iinc (y := (x6 + (1 : Int32))) (lv' := [(6, .int (x6 + (1 : Int32))), (0, .ref (a0 0)), (1, .ref (a1 0)), (2, .int x2), (3, .int x3), (4, .long x4)]) 5 dX1_choice_89 rfl rfl (Nat.le_of_ble_eq_true rfl) rfl ?_
        refine r_goto 8 dX1_choice_92 (by decide) ?_
        refine r_sub (lv' := [(0, .ref (a0 0)), (1, .ref (a1 0)), (2, .int x2), (3, .int x3), (4, .long x4), (6, .int (x6 + (1 : Int32)))]) [1, 2, 3, 4, 5, 0] rfl ?_
        exact ih x3 x4 (x6 + (1 : Int32)) z1_words z1_stack h
def mFair_choicer (x2 : Int32) (z0_lasts : Int32) (z0_stalls : Int32) (z0_minute : Int32) (z0_goods : Nat → Int32) (z0_price : Nat → Int32) (z0_sold : Nat → Int32) (z0_purse : Nat → Int32) (z0_came : Nat → Int32) (z0_had : Nat → Int32) (z0_praise : Nat → Int32) (z0_borne : Nat → Int32) (z1_steps : Nat → Int32) (z1_size : Int32) (z1_sumFrom : Nat → Int32) (z1_testFrom : Nat → Int32) (z1_testTo : Nat → Int32) (z1_clauses : Int32) (z1_words : Nat → Int64) (z1_stack : Nat → Int64) : Option (Int32 × (Nat → Int64) × (Nat → Int64)) := mFair_choicer_l8 z0_lasts z0_stalls z0_minute z0_goods z0_price z0_sold z0_purse z0_came z0_had z0_praise z0_borne z1_steps z1_size z1_sumFrom z1_testFrom z1_testTo z1_clauses x2 FU (-1 : Int32) (0 : Int64) (0 : Int32) z1_words z1_stack
set_option maxHeartbeats 4000000 in
set_option maxRecDepth 20000 in
theorem cFair_choicer {q : Int32 × (Nat → Int64) × (Nat → Int64)} {x2 : Int32} (h : mFair_choicer x2 z0_lasts z0_stalls z0_minute z0_goods z0_price z0_sold z0_purse z0_came z0_had z0_praise z0_borne z1_steps z1_size z1_sumFrom z1_testFrom z1_testTo z1_clauses z1_words z1_stack = some q) : rMet l D Z (ty7 K) MFair_choicer [.ref (a0 0), .ref (a1 0), .int x2] (List.flatten [bFair K a0 z0_lasts z0_keeps z0_stalls z0_buyers z0_minute z0_goods z0_price z0_tongue z0_till z0_wealth z0_sold z0_ring z0_grudges z0_purse z0_came z0_had z0_seller z0_praise z0_borne, bRule K a1 z1_steps z1_size z1_sumFrom z1_testFrom z1_testTo z1_clauses z1_parts z1_readsTime z1_words z1_stack]) (List.flatten [bFair K a0 z0_lasts z0_keeps z0_stalls z0_buyers z0_minute z0_goods z0_price z0_tongue z0_till z0_wealth z0_sold z0_ring z0_grudges z0_purse z0_came z0_had z0_seller z0_praise z0_borne, bRule K a1 z1_steps z1_size z1_sumFrom z1_testFrom z1_testTo z1_clauses z1_parts z1_readsTime q.2.1 q.2.2]) (some (.int q.1)) := by
  refine rMet.of (by decide) rfl (Nat.le_of_ble_eq_true rfl) ?_
  refine r_sub (lv' := [(0, .ref (a0 0)), (1, .ref (a1 0)), (2, .int x2)]) [0, 1, 2] rfl ?_
  unfold mFair_choicer at h
  refine r_iconst (x := (-1 : Int32)) dX1_choice_0 (by decide) ?_
  refine r_istore_n (lv' := [(3, .int (-1 : Int32)), (0, .ref (a0 0)), (1, .ref (a1 0)), (2, .int x2)]) dX1_choice_1 (Nat.le_of_ble_eq_true rfl) rfl ?_
  refine r_lconst (x := (0 : Int64)) dX1_choice_2 (by decide) ?_
  refine r_lstore (lv' := [(4, .long (0 : Int64)), (3, .int (-1 : Int32)), (0, .ref (a0 0)), (1, .ref (a1 0)), (2, .int x2)]) dX1_choice_3 (Nat.le_of_ble_eq_true rfl) rfl ?_
  refine r_iconst (x := (0 : Int32)) dX1_choice_5 (by decide) ?_
  refine r_istore (lv' := [(6, .int (0 : Int32)), (4, .long (0 : Int64)), (3, .int (-1 : Int32)), (0, .ref (a0 0)), (1, .ref (a1 0)), (2, .int x2)]) dX1_choice_6 (Nat.le_of_ble_eq_true rfl) rfl ?_
  refine r_sub (lv' := [(0, .ref (a0 0)), (1, .ref (a1 0)), (2, .int x2), (3, .int (-1 : Int32)), (4, .long (0 : Int64)), (6, .int (0 : Int32))]) [3, 4, 5, 2, 1, 0] rfl ?_
  exact cFair_choicer_l8   FU (-1 : Int32) (0 : Int64) (0 : Int32) z1_words z1_stack h
end
theorem dX1_trade_0 : decode cX1_trade 0 = .ok (.iconst 0, 1) := by decide +kernel
theorem dX1_trade_1 : decode cX1_trade 1 = .ok (.istore_n 3, 1) := by decide +kernel
theorem dX1_trade_2 : decode cX1_trade 2 = .ok (.iconst 0, 1) := by decide +kernel
theorem dX1_trade_3 : decode cX1_trade 3 = .ok (.istore 4, 2) := by decide +kernel
theorem dX1_trade_5 : decode cX1_trade 5 = .ok (.iload 4, 2) := by decide +kernel
theorem dX1_trade_7 : decode cX1_trade 7 = .ok (.aload_n 0, 1) := by decide +kernel
theorem dX1_trade_8 : decode cX1_trade 8 = .ok (.getfield 21, 3) := by decide +kernel
theorem dX1_trade_11 : decode cX1_trade 11 = .ok (.if_icmp .ge 125, 3) := by decide +kernel
theorem dX1_trade_14 : decode cX1_trade 14 = .ok (.iload 4, 2) := by decide +kernel
theorem dX1_trade_16 : decode cX1_trade 16 = .ok (.iload_n 2, 1) := by decide +kernel
theorem dX1_trade_17 : decode cX1_trade 17 = .ok (.if_icmp .ne 7, 3) := by decide +kernel
theorem dX1_trade_20 : decode cX1_trade 20 = .ok (.iconst (-1), 1) := by decide +kernel
theorem dX1_trade_21 : decode cX1_trade 21 = .ok (.goto 10, 3) := by decide +kernel
theorem dX1_trade_24 : decode cX1_trade 24 = .ok (.aload_n 0, 1) := by decide +kernel
theorem dX1_trade_25 : decode cX1_trade 25 = .ok (.aload_n 1, 1) := by decide +kernel
theorem dX1_trade_26 : decode cX1_trade 26 = .ok (.iload 4, 2) := by decide +kernel
theorem dX1_trade_28 : decode cX1_trade 28 = .ok (.invokevirtual 120, 3) := by decide +kernel
theorem dX1_trade_31 : decode cX1_trade 31 = .ok (.istore 5, 2) := by decide +kernel
theorem dX1_trade_33 : decode cX1_trade 33 = .ok (.iload 5, 2) := by decide +kernel
theorem dX1_trade_35 : decode cX1_trade 35 = .ok (.iconst (-1), 1) := by decide +kernel
theorem dX1_trade_36 : decode cX1_trade 36 = .ok (.if_icmp .ne 6, 3) := by decide +kernel
theorem dX1_trade_39 : decode cX1_trade 39 = .ok (.goto 91, 3) := by decide +kernel
theorem dX1_trade_42 : decode cX1_trade 42 = .ok (.aload_n 0, 1) := by decide +kernel
theorem dX1_trade_43 : decode cX1_trade 43 = .ok (.getfield 27, 3) := by decide +kernel
theorem dX1_trade_46 : decode cX1_trade 46 = .ok (.iload 5, 2) := by decide +kernel
theorem dX1_trade_48 : decode cX1_trade 48 = .ok (.dup2, 1) := by decide +kernel
theorem dX1_trade_49 : decode cX1_trade 49 = .ok (.iaload, 1) := by decide +kernel
theorem dX1_trade_50 : decode cX1_trade 50 = .ok (.iconst 1, 1) := by decide +kernel
theorem dX1_trade_51 : decode cX1_trade 51 = .ok (.isub, 1) := by decide +kernel
theorem dX1_trade_52 : decode cX1_trade 52 = .ok (.iastore, 1) := by decide +kernel
theorem dX1_trade_53 : decode cX1_trade 53 = .ok (.aload_n 0, 1) := by decide +kernel
theorem dX1_trade_54 : decode cX1_trade 54 = .ok (.getfield 43, 3) := by decide +kernel
theorem dX1_trade_57 : decode cX1_trade 57 = .ok (.iload 5, 2) := by decide +kernel
theorem dX1_trade_59 : decode cX1_trade 59 = .ok (.dup2, 1) := by decide +kernel
theorem dX1_trade_60 : decode cX1_trade 60 = .ok (.iaload, 1) := by decide +kernel
theorem dX1_trade_61 : decode cX1_trade 61 = .ok (.iconst 1, 1) := by decide +kernel
theorem dX1_trade_62 : decode cX1_trade 62 = .ok (.iadd, 1) := by decide +kernel
theorem dX1_trade_63 : decode cX1_trade 63 = .ok (.iastore, 1) := by decide +kernel
theorem dX1_trade_64 : decode cX1_trade 64 = .ok (.aload_n 0, 1) := by decide +kernel
theorem dX1_trade_65 : decode cX1_trade 65 = .ok (.getfield 58, 3) := by decide +kernel
theorem dX1_trade_68 : decode cX1_trade 68 = .ok (.iload 4, 2) := by decide +kernel
theorem dX1_trade_70 : decode cX1_trade 70 = .ok (.bipush 6, 2) := by decide +kernel
theorem dX1_trade_72 : decode cX1_trade 72 = .ok (.imul, 1) := by decide +kernel
theorem dX1_trade_73 : decode cX1_trade 73 = .ok (.iload 5, 2) := by decide +kernel
theorem dX1_trade_75 : decode cX1_trade 75 = .ok (.iadd, 1) := by decide +kernel
theorem dX1_trade_76 : decode cX1_trade 76 = .ok (.dup2, 1) := by decide +kernel
theorem dX1_trade_77 : decode cX1_trade 77 = .ok (.iaload, 1) := by decide +kernel
theorem dX1_trade_78 : decode cX1_trade 78 = .ok (.iconst 1, 1) := by decide +kernel
theorem dX1_trade_79 : decode cX1_trade 79 = .ok (.iadd, 1) := by decide +kernel
theorem dX1_trade_80 : decode cX1_trade 80 = .ok (.iastore, 1) := by decide +kernel
theorem dX1_trade_81 : decode cX1_trade 81 = .ok (.aload_n 0, 1) := by decide +kernel
theorem dX1_trade_82 : decode cX1_trade 82 = .ok (.getfield 52, 3) := by decide +kernel
theorem dX1_trade_85 : decode cX1_trade 85 = .ok (.iload 4, 2) := by decide +kernel
theorem dX1_trade_87 : decode cX1_trade 87 = .ok (.dup2, 1) := by decide +kernel
theorem dX1_trade_88 : decode cX1_trade 88 = .ok (.iaload, 1) := by decide +kernel
theorem dX1_trade_89 : decode cX1_trade 89 = .ok (.aload_n 0, 1) := by decide +kernel
theorem dX1_trade_90 : decode cX1_trade 90 = .ok (.getfield 31, 3) := by decide +kernel
theorem dX1_trade_93 : decode cX1_trade 93 = .ok (.iload 5, 2) := by decide +kernel
theorem dX1_trade_95 : decode cX1_trade 95 = .ok (.iaload, 1) := by decide +kernel
theorem dX1_trade_96 : decode cX1_trade 96 = .ok (.isub, 1) := by decide +kernel
theorem dX1_trade_97 : decode cX1_trade 97 = .ok (.iastore, 1) := by decide +kernel
theorem dX1_trade_98 : decode cX1_trade 98 = .ok (.aload_n 0, 1) := by decide +kernel
theorem dX1_trade_99 : decode cX1_trade 99 = .ok (.getfield 37, 3) := by decide +kernel
theorem dX1_trade_102 : decode cX1_trade 102 = .ok (.aload_n 0, 1) := by decide +kernel
theorem dX1_trade_103 : decode cX1_trade 103 = .ok (.getfield 61, 3) := by decide +kernel
theorem dX1_trade_106 : decode cX1_trade 106 = .ok (.iload 5, 2) := by decide +kernel
theorem dX1_trade_108 : decode cX1_trade 108 = .ok (.iaload, 1) := by decide +kernel
theorem dX1_trade_109 : decode cX1_trade 109 = .ok (.dup2, 1) := by decide +kernel
theorem dX1_trade_110 : decode cX1_trade 110 = .ok (.iaload, 1) := by decide +kernel
theorem dX1_trade_111 : decode cX1_trade 111 = .ok (.aload_n 0, 1) := by decide +kernel
theorem dX1_trade_112 : decode cX1_trade 112 = .ok (.getfield 31, 3) := by decide +kernel
theorem dX1_trade_115 : decode cX1_trade 115 = .ok (.iload 5, 2) := by decide +kernel
theorem dX1_trade_117 : decode cX1_trade 117 = .ok (.iaload, 1) := by decide +kernel
theorem dX1_trade_118 : decode cX1_trade 118 = .ok (.iadd, 1) := by decide +kernel
theorem dX1_trade_119 : decode cX1_trade 119 = .ok (.iastore, 1) := by decide +kernel
theorem dX1_trade_120 : decode cX1_trade 120 = .ok (.iload_n 3, 1) := by decide +kernel
theorem dX1_trade_121 : decode cX1_trade 121 = .ok (.aload_n 0, 1) := by decide +kernel
theorem dX1_trade_122 : decode cX1_trade 122 = .ok (.getfield 31, 3) := by decide +kernel
theorem dX1_trade_125 : decode cX1_trade 125 = .ok (.iload 5, 2) := by decide +kernel
theorem dX1_trade_127 : decode cX1_trade 127 = .ok (.iaload, 1) := by decide +kernel
theorem dX1_trade_128 : decode cX1_trade 128 = .ok (.iadd, 1) := by decide +kernel
theorem dX1_trade_129 : decode cX1_trade 129 = .ok (.istore_n 3, 1) := by decide +kernel
theorem dX1_trade_130 : decode cX1_trade 130 = .ok (.iinc 4 1, 3) := by decide +kernel
theorem dX1_trade_133 : decode cX1_trade 133 = .ok (.goto (-128), 3) := by decide +kernel
theorem dX1_trade_136 : decode cX1_trade 136 = .ok (.iload_n 3, 1) := by decide +kernel
theorem dX1_trade_137 : decode cX1_trade 137 = .ok (.ireturn, 1) := by decide +kernel
abbrev MFair_trader : rx_M := (RX1, yX1_trade, cX1_trade, 6, (some .int), 6)
theorem kFair_trader : rKv MFair_trader 2 := ⟨tb_in (i := 5) (j := 29) rfl rfl, tb_in (i := 5) (j := 30) rfl rfl, tb_in (i := 3) (j := 26) rfl rfl, tb_in (i := 5) (j := 18) rfl rfl, ⟨by decide, by decide, by decide +kernel⟩, by decide⟩
section
variable {a0 : Nat → Nat} {a1 : Nat → Nat} {z0_lasts : Int32} {z0_keeps : Int32} {z0_stalls : Int32} {z0_buyers : Int32} {z0_minute : Int32} {z0_goods : Nat → Int32} {z0_price : Nat → Int32} {z0_tongue : Nat → Int32} {z0_till : Nat → Int32} {z0_wealth : Nat → Int32} {z0_sold : Nat → Int32} {z0_ring : Nat → Int32} {z0_grudges : Nat → Int32} {z0_purse : Nat → Int32} {z0_came : Nat → Int32} {z0_had : Nat → Int32} {z0_seller : Nat → Int32} {z0_praise : Nat → Int32} {z0_borne : Nat → Int32} {z1_steps : Nat → Int32} {z1_size : Int32} {z1_sumFrom : Nat → Int32} {z1_testFrom : Nat → Int32} {z1_testTo : Nat → Int32} {z1_clauses : Int32} {z1_parts : Int32} {z1_readsTime : Int32} {z1_words : Nat → Int64} {z1_stack : Nat → Int64}
def mFair_trader_j31 (k5 : Int32 → Int32 → (Nat → Int32) → (Nat → Int32) → (Nat → Int32) → (Nat → Int32) → (Nat → Int32) → (Nat → Int64) → (Nat → Int64) → Option (Int32 × (Nat → Int32) × (Nat → Int32) × (Nat → Int32) × (Nat → Int32) × (Nat → Int32) × (Nat → Int64) × (Nat → Int64))) (x2 : Int32) (x3 : Int32) (x4 : Int32) (z0_lasts : Int32) (z0_stalls : Int32) (z0_buyers : Int32) (z0_minute : Int32) (z0_goods : Nat → Int32) (z0_price : Nat → Int32) (z0_till : Nat → Int32) (z0_sold : Nat → Int32) (z0_purse : Nat → Int32) (z0_came : Nat → Int32) (z0_had : Nat → Int32) (z0_seller : Nat → Int32) (z0_praise : Nat → Int32) (z0_borne : Nat → Int32) (z1_steps : Nat → Int32) (z1_size : Int32) (z1_sumFrom : Nat → Int32) (z1_testFrom : Nat → Int32) (z1_testTo : Nat → Int32) (z1_clauses : Int32) (z1_words : Nat → Int64) (z1_stack : Nat → Int64) (s0 : Int32) : Option (Int32 × (Nat → Int32) × (Nat → Int32) × (Nat → Int32) × (Nat → Int32) × (Nat → Int32) × (Nat → Int64) × (Nat → Int64)) := (if s0 = (-1 : Int32) then k5 x3 (x4 + (1 : Int32)) z0_goods z0_till z0_sold z0_purse z0_had z1_words z1_stack else rq (inb s0 6) (rq (inb s0 6) (lt (upd z0_goods s0.toNatClampNeg ((z0_goods s0.toNatClampNeg) - (1 : Int32))) (fun u6 => rq (inb s0 6) (rq (inb s0 6) (lt (upd z0_sold s0.toNatClampNeg ((z0_sold s0.toNatClampNeg) + (1 : Int32))) (fun u8 => lt ((x4 * (6 : Int32)) + s0) (fun y9 => rq (inb y9 36) (rq (inb y9 36) (lt (upd z0_had y9.toNatClampNeg ((z0_had y9.toNatClampNeg) + (1 : Int32))) (fun u11 => rq (inb x4 6) (rq (inb s0 6) (rq (inb x4 6) (lt (upd z0_purse x4.toNatClampNeg ((z0_purse x4.toNatClampNeg) - (z0_price s0.toNatClampNeg))) (fun u14 => rq (inb s0 6) (lt (z0_seller s0.toNatClampNeg) (fun y16 => rq (inb y16 6) (rq (inb s0 6) (rq (inb y16 6) (lt (upd z0_till y16.toNatClampNeg ((z0_till y16.toNatClampNeg) + (z0_price s0.toNatClampNeg))) (fun u19 => rq (inb s0 6) (lt (x3 + (z0_price s0.toNatClampNeg)) (fun y21 => k5 y21 (x4 + (1 : Int32)) u6 u19 u8 u14 u11 z1_words z1_stack)))))))))))))))))))))))
set_option maxHeartbeats 4000000 in
set_option maxRecDepth 20000 in
theorem cFair_trader_j31 {q : Int32 × (Nat → Int32) × (Nat → Int32) × (Nat → Int32) × (Nat → Int32) × (Nat → Int32) × (Nat → Int64) × (Nat → Int64)} {x2 : Int32} {x3 : Int32} {x4 : Int32} {s0 : Int32} {k5 : Int32 → Int32 → (Nat → Int32) → (Nat → Int32) → (Nat → Int32) → (Nat → Int32) → (Nat → Int32) → (Nat → Int64) → (Nat → Int64) → Option (Int32 × (Nat → Int32) × (Nat → Int32) × (Nat → Int32) × (Nat → Int32) × (Nat → Int32) × (Nat → Int64) × (Nat → Int64))} (hk5 : ∀ (x3 : Int32) (x4 : Int32) (z0_goods : Nat → Int32) (z0_till : Nat → Int32) (z0_sold : Nat → Int32) (z0_purse : Nat → Int32) (z0_had : Nat → Int32) (z1_words : Nat → Int64) (z1_stack : Nat → Int64), k5 x3 x4 z0_goods z0_till z0_sold z0_purse z0_had z1_words z1_stack = some q → rW l D Z (ty7 K) MFair_trader 5 [(0, .ref (a0 0)), (1, .ref (a1 0)), (2, .int x2), (3, .int x3), (4, .int x4)] [] (List.flatten [bFair K a0 z0_lasts z0_keeps z0_stalls z0_buyers z0_minute z0_goods z0_price z0_tongue z0_till z0_wealth z0_sold z0_ring z0_grudges z0_purse z0_came z0_had z0_seller z0_praise z0_borne, bRule K a1 z1_steps z1_size z1_sumFrom z1_testFrom z1_testTo z1_clauses z1_parts z1_readsTime z1_words z1_stack]) (List.flatten [bFair K a0 z0_lasts z0_keeps z0_stalls z0_buyers z0_minute q.2.1 z0_price z0_tongue q.2.2.1 z0_wealth q.2.2.2.1 z0_ring z0_grudges q.2.2.2.2.1 z0_came q.2.2.2.2.2.1 z0_seller z0_praise z0_borne, bRule K a1 z1_steps z1_size z1_sumFrom z1_testFrom z1_testTo z1_clauses z1_parts z1_readsTime q.2.2.2.2.2.2.1 q.2.2.2.2.2.2.2]) (some (.int q.1))) (h : mFair_trader_j31 k5 x2 x3 x4 z0_lasts z0_stalls z0_buyers z0_minute z0_goods z0_price z0_till z0_sold z0_purse z0_came z0_had z0_seller z0_praise z0_borne z1_steps z1_size z1_sumFrom z1_testFrom z1_testTo z1_clauses z1_words z1_stack s0 = some q) : rW l D Z (ty7 K) MFair_trader 31 [(0, .ref (a0 0)), (1, .ref (a1 0)), (2, .int x2), (3, .int x3), (4, .int x4)] [.int s0] (List.flatten [bFair K a0 z0_lasts z0_keeps z0_stalls z0_buyers z0_minute z0_goods z0_price z0_tongue z0_till z0_wealth z0_sold z0_ring z0_grudges z0_purse z0_came z0_had z0_seller z0_praise z0_borne, bRule K a1 z1_steps z1_size z1_sumFrom z1_testFrom z1_testTo z1_clauses z1_parts z1_readsTime z1_words z1_stack]) (List.flatten [bFair K a0 z0_lasts z0_keeps z0_stalls z0_buyers z0_minute q.2.1 z0_price z0_tongue q.2.2.1 z0_wealth q.2.2.2.1 z0_ring z0_grudges q.2.2.2.2.1 z0_came q.2.2.2.2.2.1 z0_seller z0_praise z0_borne, bRule K a1 z1_steps z1_size z1_sumFrom z1_testFrom z1_testTo z1_clauses z1_parts z1_readsTime q.2.2.2.2.2.2.1 q.2.2.2.2.2.2.2]) (some (.int q.1)) := by
  unfold mFair_trader_j31 at h
  refine r_istore (lv' := [(5, .int s0), (0, .ref (a0 0)), (1, .ref (a1 0)), (2, .int x2), (3, .int x3), (4, .int x4)]) dX1_trade_31 (Nat.le_of_ble_eq_true rfl) rfl ?_
  refine r_iload 0 dX1_trade_33 rfl ?_
  refine r_iconst (x := (-1 : Int32)) dX1_trade_35 (by decide) ?_
  refine r_icmp_ne 42 dX1_trade_36 (by decide) (fun c4 => ?_) (fun c4 => ?_)
  · replace h := it_neg c4 h
    refine r_aload_n 1 dX1_trade_42 rfl ?_
    refine gFair_goods 0 rfl (tb_in (i := 3) (j := 3) rfl rfl) dX1_trade_43 ?_
    refine r_iload 0 dX1_trade_46 rfl ?_
    refine r_dup2 dX1_trade_48 rfl rfl ?_
    obtain ⟨h5, h⟩ := rq_some h
    refine lFair_goods 0 rfl (inb_in h5) dX1_trade_49 ?_
    refine r_iconst (x := (1 : Int32)) dX1_trade_50 (by decide) ?_
    refine r_isub dX1_trade_51 ?_
    obtain ⟨h6, h⟩ := rq_some h
    obtain ⟨u6, e6, h⟩ := lt_some h
    refine sFair_goods (bs1 := [bFair K a0 z0_lasts z0_keeps z0_stalls z0_buyers z0_minute u6 z0_price z0_tongue z0_till z0_wealth z0_sold z0_ring z0_grudges z0_purse z0_came z0_had z0_seller z0_praise z0_borne, bRule K a1 z1_steps z1_size z1_sumFrom z1_testFrom z1_testTo z1_clauses z1_parts z1_readsTime z1_words z1_stack]) 0 e6 rfl (inb_in h6) rfl dX1_trade_52 ?_
    refine r_aload_n 1 dX1_trade_53 rfl ?_
    refine gFair_sold 0 rfl (tb_in (i := 3) (j := 8) rfl rfl) dX1_trade_54 ?_
    refine r_iload 0 dX1_trade_57 rfl ?_
    refine r_dup2 dX1_trade_59 rfl rfl ?_
    obtain ⟨h7, h⟩ := rq_some h
    refine lFair_sold 0 rfl (inb_in h7) dX1_trade_60 ?_
    refine r_iconst (x := (1 : Int32)) dX1_trade_61 (by decide) ?_
    refine r_iadd dX1_trade_62 ?_
    obtain ⟨h8, h⟩ := rq_some h
    obtain ⟨u8, e8, h⟩ := lt_some h
    refine sFair_sold (bs1 := [bFair K a0 z0_lasts z0_keeps z0_stalls z0_buyers z0_minute u6 z0_price z0_tongue z0_till z0_wealth u8 z0_ring z0_grudges z0_purse z0_came z0_had z0_seller z0_praise z0_borne, bRule K a1 z1_steps z1_size z1_sumFrom z1_testFrom z1_testTo z1_clauses z1_parts z1_readsTime z1_words z1_stack]) 0 e8 rfl (inb_in h8) rfl dX1_trade_63 ?_
    refine r_aload_n 1 dX1_trade_64 rfl ?_
    refine gFair_had 0 rfl (tb_in (i := 3) (j := 13) rfl rfl) dX1_trade_65 ?_
    refine r_iload 5 dX1_trade_68 rfl ?_
    refine r_bipush (x := (6 : Int32)) dX1_trade_70 (by decide) ?_
    refine r_imul dX1_trade_72 ?_
    refine r_iload 0 dX1_trade_73 rfl ?_
    refine r_iadd dX1_trade_75 ?_
    obtain ⟨y9, e9, h⟩ := lt_some h
    refine r_top e9 ?_
    refine r_dup2 dX1_trade_76 rfl rfl ?_
    obtain ⟨h10, h⟩ := rq_some h
    refine lFair_had 0 rfl (inb_in h10) dX1_trade_77 ?_
    refine r_iconst (x := (1 : Int32)) dX1_trade_78 (by decide) ?_
    refine r_iadd dX1_trade_79 ?_
    obtain ⟨h11, h⟩ := rq_some h
    obtain ⟨u11, e11, h⟩ := lt_some h
    refine sFair_had (bs1 := [bFair K a0 z0_lasts z0_keeps z0_stalls z0_buyers z0_minute u6 z0_price z0_tongue z0_till z0_wealth u8 z0_ring z0_grudges z0_purse z0_came u11 z0_seller z0_praise z0_borne, bRule K a1 z1_steps z1_size z1_sumFrom z1_testFrom z1_testTo z1_clauses z1_parts z1_readsTime z1_words z1_stack]) 0 e11 rfl (inb_in h11) rfl dX1_trade_80 ?_
    refine r_aload_n 1 dX1_trade_81 rfl ?_
    refine gFair_purse 0 rfl (tb_in (i := 3) (j := 11) rfl rfl) dX1_trade_82 ?_
    refine r_iload 5 dX1_trade_85 rfl ?_
    refine r_dup2 dX1_trade_87 rfl rfl ?_
    obtain ⟨h12, h⟩ := rq_some h
    refine lFair_purse 0 rfl (inb_in h12) dX1_trade_88 ?_
    refine r_aload_n 1 dX1_trade_89 rfl ?_
    refine gFair_price 0 rfl (tb_in (i := 3) (j := 4) rfl rfl) dX1_trade_90 ?_
    refine r_iload 0 dX1_trade_93 rfl ?_
    obtain ⟨h13, h⟩ := rq_some h
    refine lFair_price 0 rfl (inb_in h13) dX1_trade_95 ?_
    refine r_isub dX1_trade_96 ?_
    obtain ⟨h14, h⟩ := rq_some h
    obtain ⟨u14, e14, h⟩ := lt_some h
    refine sFair_purse (bs1 := [bFair K a0 z0_lasts z0_keeps z0_stalls z0_buyers z0_minute u6 z0_price z0_tongue z0_till z0_wealth u8 z0_ring z0_grudges u14 z0_came u11 z0_seller z0_praise z0_borne, bRule K a1 z1_steps z1_size z1_sumFrom z1_testFrom z1_testTo z1_clauses z1_parts z1_readsTime z1_words z1_stack]) 0 e14 rfl (inb_in h14) rfl dX1_trade_97 ?_
    refine r_aload_n 1 dX1_trade_98 rfl ?_
    refine gFair_till 0 rfl (tb_in (i := 3) (j := 6) rfl rfl) dX1_trade_99 ?_
    refine r_aload_n 1 dX1_trade_102 rfl ?_
    refine gFair_seller 0 rfl (tb_in (i := 3) (j := 14) rfl rfl) dX1_trade_103 ?_
    refine r_iload 0 dX1_trade_106 rfl ?_
    obtain ⟨h15, h⟩ := rq_some h
    refine lFair_seller 0 rfl (inb_in h15) dX1_trade_108 ?_
    obtain ⟨y16, e16, h⟩ := lt_some h
    refine r_top e16 ?_
    refine r_dup2 dX1_trade_109 rfl rfl ?_
    obtain ⟨h17, h⟩ := rq_some h
    refine lFair_till 0 rfl (inb_in h17) dX1_trade_110 ?_
    refine r_aload_n 1 dX1_trade_111 rfl ?_
    refine gFair_price 0 rfl (tb_in (i := 3) (j := 4) rfl rfl) dX1_trade_112 ?_
    refine r_iload 0 dX1_trade_115 rfl ?_
    obtain ⟨h18, h⟩ := rq_some h
    refine lFair_price 0 rfl (inb_in h18) dX1_trade_117 ?_
    refine r_iadd dX1_trade_118 ?_
    obtain ⟨h19, h⟩ := rq_some h
    obtain ⟨u19, e19, h⟩ := lt_some h
    refine sFair_till (bs1 := [bFair K a0 z0_lasts z0_keeps z0_stalls z0_buyers z0_minute u6 z0_price z0_tongue u19 z0_wealth u8 z0_ring z0_grudges u14 z0_came u11 z0_seller z0_praise z0_borne, bRule K a1 z1_steps z1_size z1_sumFrom z1_testFrom z1_testTo z1_clauses z1_parts z1_readsTime z1_words z1_stack]) 0 e19 rfl (inb_in h19) rfl dX1_trade_119 ?_
    refine r_iload_n 4 dX1_trade_120 rfl ?_
    refine r_aload_n 1 dX1_trade_121 rfl ?_
    refine gFair_price 0 rfl (tb_in (i := 3) (j := 4) rfl rfl) dX1_trade_122 ?_
    refine r_iload 0 dX1_trade_125 rfl ?_
    obtain ⟨h20, h⟩ := rq_some h
    refine lFair_price 0 rfl (inb_in h20) dX1_trade_127 ?_
    refine r_iadd dX1_trade_128 ?_
    obtain ⟨y21, e21, h⟩ := lt_some h
    refine r_top e21 ?_
    refine r_istore_n (lv' := [(3, .int y21), (5, .int s0), (0, .ref (a0 0)), (1, .ref (a1 0)), (2, .int x2), (4, .int x4)]) dX1_trade_129 (Nat.le_of_ble_eq_true rfl) rfl ?_
    refine r_iinc (y := (x4 + (1 : Int32))) (lv' := [(4, .int (x4 + (1 : Int32))), (3, .int y21), (5, .int s0), (0, .ref (a0 0)), (1, .ref (a1 0)), (2, .int x2)]) 5 dX1_trade_130 rfl rfl (Nat.le_of_ble_eq_true rfl) rfl ?_
    refine r_goto 5 dX1_trade_133 (by decide) ?_
    refine r_sub (lv' := [(0, .ref (a0 0)), (1, .ref (a1 0)), (2, .int x2), (3, .int y21), (4, .int (x4 + (1 : Int32)))]) [3, 4, 5, 1, 0] rfl ?_
    exact hk5 y21 (x4 + (1 : Int32)) u6 u19 u8 u14 u11 z1_words z1_stack h
  · replace h := it_pos c4 h
    refine r_goto 130 dX1_trade_39 (by decide) ?_
    refine r_iinc (y := (x4 + (1 : Int32))) (lv' := [(4, .int (x4 + (1 : Int32))), (5, .int s0), (0, .ref (a0 0)), (1, .ref (a1 0)), (2, .int x2), (3, .int x3)]) 5 dX1_trade_130 rfl rfl (Nat.le_of_ble_eq_true rfl) rfl ?_
    refine r_goto 5 dX1_trade_133 (by decide) ?_
    refine r_sub (lv' := [(0, .ref (a0 0)), (1, .ref (a1 0)), (2, .int x2), (3, .int x3), (4, .int (x4 + (1 : Int32)))]) [2, 3, 4, 5, 0] rfl ?_
    exact hk5 x3 (x4 + (1 : Int32)) z0_goods z0_till z0_sold z0_purse z0_had z1_words z1_stack h
def mFair_trader_l5 (z0_lasts : Int32) (z0_stalls : Int32) (z0_buyers : Int32) (z0_minute : Int32) (z0_price : Nat → Int32) (z0_came : Nat → Int32) (z0_seller : Nat → Int32) (z0_praise : Nat → Int32) (z0_borne : Nat → Int32) (z1_steps : Nat → Int32) (z1_size : Int32) (z1_sumFrom : Nat → Int32) (z1_testFrom : Nat → Int32) (z1_testTo : Nat → Int32) (z1_clauses : Int32) (x2 : Int32) : Nat → Int32 → Int32 → (Nat → Int32) → (Nat → Int32) → (Nat → Int32) → (Nat → Int32) → (Nat → Int32) → (Nat → Int64) → (Nat → Int64) → Option (Int32 × (Nat → Int32) × (Nat → Int32) × (Nat → Int32) × (Nat → Int32) × (Nat → Int32) × (Nat → Int64) × (Nat → Int64))
  | 0, _, _, _, _, _, _, _, _, _ => none
  | n + 1, x3, x4, z0_goods, z0_till, z0_sold, z0_purse, z0_had, z1_words, z1_stack => (if z0_buyers ≤ x4 then some (x3, z0_goods, z0_till, z0_sold, z0_purse, z0_had, z1_words, z1_stack) else (if x4 = x2 then mFair_trader_j31 (mFair_trader_l5 z0_lasts z0_stalls z0_buyers z0_minute z0_price z0_came z0_seller z0_praise z0_borne z1_steps z1_size z1_sumFrom z1_testFrom z1_testTo z1_clauses x2 n) x2 x3 x4 z0_lasts z0_stalls z0_buyers z0_minute z0_goods z0_price z0_till z0_sold z0_purse z0_came z0_had z0_seller z0_praise z0_borne z1_steps z1_size z1_sumFrom z1_testFrom z1_testTo z1_clauses z1_words z1_stack (-1 : Int32) else (mFair_choicer x4 z0_lasts z0_stalls z0_minute z0_goods z0_price z0_sold z0_purse z0_came z0_had z0_praise z0_borne z1_steps z1_size z1_sumFrom z1_testFrom z1_testTo z1_clauses z1_words z1_stack).bind (fun q3 => mFair_trader_j31 (mFair_trader_l5 z0_lasts z0_stalls z0_buyers z0_minute z0_price z0_came z0_seller z0_praise z0_borne z1_steps z1_size z1_sumFrom z1_testFrom z1_testTo z1_clauses x2 n) x2 x3 x4 z0_lasts z0_stalls z0_buyers z0_minute z0_goods z0_price z0_till z0_sold z0_purse z0_came z0_had z0_seller z0_praise z0_borne z1_steps z1_size z1_sumFrom z1_testFrom z1_testTo z1_clauses q3.2.1 q3.2.2 q3.1)))
set_option maxHeartbeats 4000000 in
set_option maxRecDepth 20000 in
theorem cFair_trader_l5 {q : Int32 × (Nat → Int32) × (Nat → Int32) × (Nat → Int32) × (Nat → Int32) × (Nat → Int32) × (Nat → Int64) × (Nat → Int64)} {x2 : Int32}  : ∀ (n : Nat) (x3 : Int32) (x4 : Int32) (z0_goods : Nat → Int32) (z0_till : Nat → Int32) (z0_sold : Nat → Int32) (z0_purse : Nat → Int32) (z0_had : Nat → Int32) (z1_words : Nat → Int64) (z1_stack : Nat → Int64), mFair_trader_l5 z0_lasts z0_stalls z0_buyers z0_minute z0_price z0_came z0_seller z0_praise z0_borne z1_steps z1_size z1_sumFrom z1_testFrom z1_testTo z1_clauses x2 n x3 x4 z0_goods z0_till z0_sold z0_purse z0_had z1_words z1_stack = some q → rW l D Z (ty7 K) MFair_trader 5 [(0, .ref (a0 0)), (1, .ref (a1 0)), (2, .int x2), (3, .int x3), (4, .int x4)] [] (List.flatten [bFair K a0 z0_lasts z0_keeps z0_stalls z0_buyers z0_minute z0_goods z0_price z0_tongue z0_till z0_wealth z0_sold z0_ring z0_grudges z0_purse z0_came z0_had z0_seller z0_praise z0_borne, bRule K a1 z1_steps z1_size z1_sumFrom z1_testFrom z1_testTo z1_clauses z1_parts z1_readsTime z1_words z1_stack]) (List.flatten [bFair K a0 z0_lasts z0_keeps z0_stalls z0_buyers z0_minute q.2.1 z0_price z0_tongue q.2.2.1 z0_wealth q.2.2.2.1 z0_ring z0_grudges q.2.2.2.2.1 z0_came q.2.2.2.2.2.1 z0_seller z0_praise z0_borne, bRule K a1 z1_steps z1_size z1_sumFrom z1_testFrom z1_testTo z1_clauses z1_parts z1_readsTime q.2.2.2.2.2.2.1 q.2.2.2.2.2.2.2]) (some (.int q.1)) := by
  intro n
  induction n with
  | zero => intro x3 x4 z0_goods z0_till z0_sold z0_purse z0_had z1_words z1_stack h; unfold mFair_trader_l5 at h; cases h
  | succ n ih =>
    intro x3 x4 z0_goods z0_till z0_sold z0_purse z0_had z1_words z1_stack h
    unfold mFair_trader_l5 at h
    refine r_iload 4 dX1_trade_5 rfl ?_
    refine r_aload_n 0 dX1_trade_7 rfl ?_
    refine gFair_buyers 0 rfl (tb_in (i := 3) (j := 0) rfl rfl) dX1_trade_8 ?_
    refine r_icmp_ge 136 dX1_trade_11 (by decide) (fun c1 => ?_) (fun c1 => ?_)
    · replace h := it_pos c1 h
      refine r_iload_n 3 dX1_trade_136 rfl ?_
      have hq := Option.some.inj h
      subst hq
      exact r_iret rfl dX1_trade_137
    · replace h := it_neg c1 h
      refine r_iload 4 dX1_trade_14 rfl ?_
      refine r_iload_n 2 dX1_trade_16 rfl ?_
      refine r_icmp_ne 24 dX1_trade_17 (by decide) (fun c2 => ?_) (fun c2 => ?_)
      · replace h := it_neg c2 h
        refine r_aload_n 0 dX1_trade_24 rfl ?_
        refine r_aload_n 1 dX1_trade_25 rfl ?_
        refine r_iload 4 dX1_trade_26 rfl ?_
        obtain ⟨q3, h3, h⟩ := bd_some h
        refine b_callV (isC := [0, 1]) (ci := 1)  (st := []) (bs1 := [bFair K a0 z0_lasts z0_keeps z0_stalls z0_buyers z0_minute z0_goods z0_price z0_tongue z0_till z0_wealth z0_sold z0_ring z0_grudges z0_purse z0_came z0_had z0_seller z0_praise z0_borne, bRule K a1 z1_steps z1_size z1_sumFrom z1_testFrom z1_testTo z1_clauses z1_parts z1_readsTime q3.2.1 q3.2.2]) (cFair_choicer (a0 := a0) (a1 := a1) (z0_lasts := z0_lasts) (z0_keeps := z0_keeps) (z0_stalls := z0_stalls) (z0_buyers := z0_buyers) (z0_minute := z0_minute) (z0_goods := z0_goods) (z0_price := z0_price) (z0_tongue := z0_tongue) (z0_till := z0_till) (z0_wealth := z0_wealth) (z0_sold := z0_sold) (z0_ring := z0_ring) (z0_grudges := z0_grudges) (z0_purse := z0_purse) (z0_came := z0_came) (z0_had := z0_had) (z0_seller := z0_seller) (z0_praise := z0_praise) (z0_borne := z0_borne) (z1_steps := z1_steps) (z1_size := z1_size) (z1_sumFrom := z1_sumFrom) (z1_testFrom := z1_testFrom) (z1_testTo := z1_testTo) (z1_clauses := z1_clauses) (z1_parts := z1_parts) (z1_readsTime := z1_readsTime) (z1_words := z1_words) (z1_stack := z1_stack) h3) rfl rfl (Nat.le_of_ble_eq_true rfl) kFair_choicer (tb_in (i := 5) (j := 15) rfl rfl) (by decide) (by decide) rfl rfl rfl rfl rfl rfl rfl dX1_trade_28 ?_
        exact cFair_trader_j31  (ih) h
      · replace h := it_pos c2 h
        refine r_iconst (x := (-1 : Int32)) dX1_trade_20 (by decide) ?_
        refine r_goto 31 dX1_trade_21 (by decide) ?_
        exact cFair_trader_j31  (ih) h
def mFair_trader (x2 : Int32) (z0_lasts : Int32) (z0_stalls : Int32) (z0_buyers : Int32) (z0_minute : Int32) (z0_goods : Nat → Int32) (z0_price : Nat → Int32) (z0_till : Nat → Int32) (z0_sold : Nat → Int32) (z0_purse : Nat → Int32) (z0_came : Nat → Int32) (z0_had : Nat → Int32) (z0_seller : Nat → Int32) (z0_praise : Nat → Int32) (z0_borne : Nat → Int32) (z1_steps : Nat → Int32) (z1_size : Int32) (z1_sumFrom : Nat → Int32) (z1_testFrom : Nat → Int32) (z1_testTo : Nat → Int32) (z1_clauses : Int32) (z1_words : Nat → Int64) (z1_stack : Nat → Int64) : Option (Int32 × (Nat → Int32) × (Nat → Int32) × (Nat → Int32) × (Nat → Int32) × (Nat → Int32) × (Nat → Int64) × (Nat → Int64)) := mFair_trader_l5 z0_lasts z0_stalls z0_buyers z0_minute z0_price z0_came z0_seller z0_praise z0_borne z1_steps z1_size z1_sumFrom z1_testFrom z1_testTo z1_clauses x2 FU (0 : Int32) (0 : Int32) z0_goods z0_till z0_sold z0_purse z0_had z1_words z1_stack
set_option maxHeartbeats 4000000 in
set_option maxRecDepth 20000 in
theorem cFair_trader {q : Int32 × (Nat → Int32) × (Nat → Int32) × (Nat → Int32) × (Nat → Int32) × (Nat → Int32) × (Nat → Int64) × (Nat → Int64)} {x2 : Int32} (h : mFair_trader x2 z0_lasts z0_stalls z0_buyers z0_minute z0_goods z0_price z0_till z0_sold z0_purse z0_came z0_had z0_seller z0_praise z0_borne z1_steps z1_size z1_sumFrom z1_testFrom z1_testTo z1_clauses z1_words z1_stack = some q) : rMet l D Z (ty7 K) MFair_trader [.ref (a0 0), .ref (a1 0), .int x2] (List.flatten [bFair K a0 z0_lasts z0_keeps z0_stalls z0_buyers z0_minute z0_goods z0_price z0_tongue z0_till z0_wealth z0_sold z0_ring z0_grudges z0_purse z0_came z0_had z0_seller z0_praise z0_borne, bRule K a1 z1_steps z1_size z1_sumFrom z1_testFrom z1_testTo z1_clauses z1_parts z1_readsTime z1_words z1_stack]) (List.flatten [bFair K a0 z0_lasts z0_keeps z0_stalls z0_buyers z0_minute q.2.1 z0_price z0_tongue q.2.2.1 z0_wealth q.2.2.2.1 z0_ring z0_grudges q.2.2.2.2.1 z0_came q.2.2.2.2.2.1 z0_seller z0_praise z0_borne, bRule K a1 z1_steps z1_size z1_sumFrom z1_testFrom z1_testTo z1_clauses z1_parts z1_readsTime q.2.2.2.2.2.2.1 q.2.2.2.2.2.2.2]) (some (.int q.1)) := by
  refine rMet.of (by decide) rfl (Nat.le_of_ble_eq_true rfl) ?_
  refine r_sub (lv' := [(0, .ref (a0 0)), (1, .ref (a1 0)), (2, .int x2)]) [0, 1, 2] rfl ?_
  unfold mFair_trader at h
  refine r_iconst (x := (0 : Int32)) dX1_trade_0 (by decide) ?_
  refine r_istore_n (lv' := [(3, .int (0 : Int32)), (0, .ref (a0 0)), (1, .ref (a1 0)), (2, .int x2)]) dX1_trade_1 (Nat.le_of_ble_eq_true rfl) rfl ?_
  refine r_iconst (x := (0 : Int32)) dX1_trade_2 (by decide) ?_
  refine r_istore (lv' := [(4, .int (0 : Int32)), (3, .int (0 : Int32)), (0, .ref (a0 0)), (1, .ref (a1 0)), (2, .int x2)]) dX1_trade_3 (Nat.le_of_ble_eq_true rfl) rfl ?_
  refine r_sub (lv' := [(0, .ref (a0 0)), (1, .ref (a1 0)), (2, .int x2), (3, .int (0 : Int32)), (4, .int (0 : Int32))]) [2, 3, 4, 1, 0] rfl ?_
  exact cFair_trader_l5   FU (0 : Int32) (0 : Int32) z0_goods z0_till z0_sold z0_purse z0_had z1_words z1_stack h
end
theorem dX1_handOn_0 : decode cX1_handOn 0 = .ok (.iconst 0, 1) := by decide +kernel
theorem dX1_handOn_1 : decode cX1_handOn 1 = .ok (.istore_n 1, 1) := by decide +kernel
theorem dX1_handOn_2 : decode cX1_handOn 2 = .ok (.iload_n 1, 1) := by decide +kernel
theorem dX1_handOn_3 : decode cX1_handOn 3 = .ok (.aload_n 0, 1) := by decide +kernel
theorem dX1_handOn_4 : decode cX1_handOn 4 = .ok (.getfield 18, 3) := by decide +kernel
theorem dX1_handOn_7 : decode cX1_handOn 7 = .ok (.if_icmp .ge 65, 3) := by decide +kernel
theorem dX1_handOn_10 : decode cX1_handOn 10 = .ok (.aload_n 0, 1) := by decide +kernel
theorem dX1_handOn_11 : decode cX1_handOn 11 = .ok (.getfield 61, 3) := by decide +kernel
theorem dX1_handOn_14 : decode cX1_handOn 14 = .ok (.iload_n 1, 1) := by decide +kernel
theorem dX1_handOn_15 : decode cX1_handOn 15 = .ok (.iaload, 1) := by decide +kernel
theorem dX1_handOn_16 : decode cX1_handOn 16 = .ok (.istore_n 2, 1) := by decide +kernel
theorem dX1_handOn_17 : decode cX1_handOn 17 = .ok (.aload_n 0, 1) := by decide +kernel
theorem dX1_handOn_18 : decode cX1_handOn 18 = .ok (.getfield 37, 3) := by decide +kernel
theorem dX1_handOn_21 : decode cX1_handOn 21 = .ok (.iload_n 2, 1) := by decide +kernel
theorem dX1_handOn_22 : decode cX1_handOn 22 = .ok (.iaload, 1) := by decide +kernel
theorem dX1_handOn_23 : decode cX1_handOn 23 = .ok (.aload_n 0, 1) := by decide +kernel
theorem dX1_handOn_24 : decode cX1_handOn 24 = .ok (.getfield 15, 3) := by decide +kernel
theorem dX1_handOn_27 : decode cX1_handOn 27 = .ok (.imul, 1) := by decide +kernel
theorem dX1_handOn_28 : decode cX1_handOn 28 = .ok (.bipush 10, 2) := by decide +kernel
theorem dX1_handOn_30 : decode cX1_handOn 30 = .ok (.idiv, 1) := by decide +kernel
theorem dX1_handOn_31 : decode cX1_handOn 31 = .ok (.istore_n 3, 1) := by decide +kernel
theorem dX1_handOn_32 : decode cX1_handOn 32 = .ok (.aload_n 0, 1) := by decide +kernel
theorem dX1_handOn_33 : decode cX1_handOn 33 = .ok (.getfield 40, 3) := by decide +kernel
theorem dX1_handOn_36 : decode cX1_handOn 36 = .ok (.iload_n 2, 1) := by decide +kernel
theorem dX1_handOn_37 : decode cX1_handOn 37 = .ok (.dup2, 1) := by decide +kernel
theorem dX1_handOn_38 : decode cX1_handOn 38 = .ok (.iaload, 1) := by decide +kernel
theorem dX1_handOn_39 : decode cX1_handOn 39 = .ok (.iload_n 3, 1) := by decide +kernel
theorem dX1_handOn_40 : decode cX1_handOn 40 = .ok (.iadd, 1) := by decide +kernel
theorem dX1_handOn_41 : decode cX1_handOn 41 = .ok (.iastore, 1) := by decide +kernel
theorem dX1_handOn_42 : decode cX1_handOn 42 = .ok (.aload_n 0, 1) := by decide +kernel
theorem dX1_handOn_43 : decode cX1_handOn 43 = .ok (.getfield 40, 3) := by decide +kernel
theorem dX1_handOn_46 : decode cX1_handOn 46 = .ok (.iload_n 1, 1) := by decide +kernel
theorem dX1_handOn_47 : decode cX1_handOn 47 = .ok (.dup2, 1) := by decide +kernel
theorem dX1_handOn_48 : decode cX1_handOn 48 = .ok (.iaload, 1) := by decide +kernel
theorem dX1_handOn_49 : decode cX1_handOn 49 = .ok (.aload_n 0, 1) := by decide +kernel
theorem dX1_handOn_50 : decode cX1_handOn 50 = .ok (.getfield 37, 3) := by decide +kernel
theorem dX1_handOn_53 : decode cX1_handOn 53 = .ok (.iload_n 2, 1) := by decide +kernel
theorem dX1_handOn_54 : decode cX1_handOn 54 = .ok (.iaload, 1) := by decide +kernel
theorem dX1_handOn_55 : decode cX1_handOn 55 = .ok (.iload_n 3, 1) := by decide +kernel
theorem dX1_handOn_56 : decode cX1_handOn 56 = .ok (.isub, 1) := by decide +kernel
theorem dX1_handOn_57 : decode cX1_handOn 57 = .ok (.iadd, 1) := by decide +kernel
theorem dX1_handOn_58 : decode cX1_handOn 58 = .ok (.iastore, 1) := by decide +kernel
theorem dX1_handOn_59 : decode cX1_handOn 59 = .ok (.aload_n 0, 1) := by decide +kernel
theorem dX1_handOn_60 : decode cX1_handOn 60 = .ok (.getfield 37, 3) := by decide +kernel
theorem dX1_handOn_63 : decode cX1_handOn 63 = .ok (.iload_n 2, 1) := by decide +kernel
theorem dX1_handOn_64 : decode cX1_handOn 64 = .ok (.iconst 0, 1) := by decide +kernel
theorem dX1_handOn_65 : decode cX1_handOn 65 = .ok (.iastore, 1) := by decide +kernel
theorem dX1_handOn_66 : decode cX1_handOn 66 = .ok (.iinc 1 1, 3) := by decide +kernel
theorem dX1_handOn_69 : decode cX1_handOn 69 = .ok (.goto (-67), 3) := by decide +kernel
theorem dX1_handOn_72 : decode cX1_handOn 72 = .ok (.return_, 1) := by decide +kernel
abbrev MFair_handOn : rx_M := (RX1, yX1_handOn, cX1_handOn, 4, none, 1)
theorem kFair_handOn : rKv MFair_handOn 0 := ⟨tb_in (i := 5) (j := 26) rfl rfl, tb_in (i := 5) (j := 27) rfl rfl, tb_in (i := 3) (j := 26) rfl rfl, tb_in (i := 5) (j := 23) rfl rfl, ⟨by decide, by decide, by decide +kernel⟩, by decide⟩
section
variable {a0 : Nat → Nat} {z0_lasts : Int32} {z0_keeps : Int32} {z0_stalls : Int32} {z0_buyers : Int32} {z0_minute : Int32} {z0_goods : Nat → Int32} {z0_price : Nat → Int32} {z0_tongue : Nat → Int32} {z0_till : Nat → Int32} {z0_wealth : Nat → Int32} {z0_sold : Nat → Int32} {z0_ring : Nat → Int32} {z0_grudges : Nat → Int32} {z0_purse : Nat → Int32} {z0_came : Nat → Int32} {z0_had : Nat → Int32} {z0_seller : Nat → Int32} {z0_praise : Nat → Int32} {z0_borne : Nat → Int32}
def mFair_handOn_l2 (z0_keeps : Int32) (z0_stalls : Int32) (z0_seller : Nat → Int32) : Nat → Int32 → (Nat → Int32) → (Nat → Int32) → Option ((Nat → Int32) × (Nat → Int32))
  | 0, _, _, _ => none
  | n + 1, x1, z0_till, z0_wealth => (if z0_stalls ≤ x1 then some (z0_till, z0_wealth) else rq (inb x1 6) (lt (z0_seller x1.toNatClampNeg) (fun y3 => rq (inb y3 6) (lt (((z0_till y3.toNatClampNeg) * z0_keeps) / (10 : Int32)) (fun y5 => rq (inb y3 6) (rq (inb y3 6) (lt (upd z0_wealth y3.toNatClampNeg ((z0_wealth y3.toNatClampNeg) + y5)) (fun u7 => rq (inb x1 6) (rq (inb y3 6) (rq (inb x1 6) (lt (upd u7 x1.toNatClampNeg ((u7 x1.toNatClampNeg) + ((z0_till y3.toNatClampNeg) - y5))) (fun u10 => rq (inb y3 6) (lt (upd z0_till y3.toNatClampNeg (0 : Int32)) (fun u11 => mFair_handOn_l2 z0_keeps z0_stalls z0_seller n (x1 + (1 : Int32)) u11 u10))))))))))))))
set_option maxHeartbeats 4000000 in
set_option maxRecDepth 20000 in
theorem cFair_handOn_l2 {q : (Nat → Int32) × (Nat → Int32)}   : ∀ (n : Nat) (x1 : Int32) (z0_till : Nat → Int32) (z0_wealth : Nat → Int32), mFair_handOn_l2 z0_keeps z0_stalls z0_seller n x1 z0_till z0_wealth = some q → rW l D Z (ty7 K) MFair_handOn 2 [(0, .ref (a0 0)), (1, .int x1)] [] (List.flatten [bFair K a0 z0_lasts z0_keeps z0_stalls z0_buyers z0_minute z0_goods z0_price z0_tongue z0_till z0_wealth z0_sold z0_ring z0_grudges z0_purse z0_came z0_had z0_seller z0_praise z0_borne]) (List.flatten [bFair K a0 z0_lasts z0_keeps z0_stalls z0_buyers z0_minute z0_goods z0_price z0_tongue q.1 q.2 z0_sold z0_ring z0_grudges z0_purse z0_came z0_had z0_seller z0_praise z0_borne]) none := by
  intro n
  induction n with
  | zero => intro x1 z0_till z0_wealth h; unfold mFair_handOn_l2 at h; cases h
  | succ n ih =>
    intro x1 z0_till z0_wealth h
    unfold mFair_handOn_l2 at h
    refine r_iload_n 1 dX1_handOn_2 rfl ?_
    refine r_aload_n 0 dX1_handOn_3 rfl ?_
    refine gFair_stalls 0 rfl (tb_in (i := 2) (j := 31) rfl rfl) dX1_handOn_4 ?_
    refine r_icmp_ge 72 dX1_handOn_7 (by decide) (fun c1 => ?_) (fun c1 => ?_)
    · replace h := it_pos c1 h
      have hq := Option.some.inj h
      subst hq
      exact r_vret rfl dX1_handOn_72
    · replace h := it_neg c1 h
      refine r_aload_n 0 dX1_handOn_10 rfl ?_
      refine gFair_seller 0 rfl (tb_in (i := 3) (j := 14) rfl rfl) dX1_handOn_11 ?_
      refine r_iload_n 1 dX1_handOn_14 rfl ?_
      obtain ⟨h2, h⟩ := rq_some h
      refine lFair_seller 0 rfl (inb_in h2) dX1_handOn_15 ?_
      obtain ⟨y3, e3, h⟩ := lt_some h
      refine r_top e3 ?_
      refine r_istore_n (lv' := [(2, .int y3), (0, .ref (a0 0)), (1, .int x1)]) dX1_handOn_16 (Nat.le_of_ble_eq_true rfl) rfl ?_
      refine r_aload_n 1 dX1_handOn_17 rfl ?_
      refine gFair_till 0 rfl (tb_in (i := 3) (j := 6) rfl rfl) dX1_handOn_18 ?_
      refine r_iload_n 0 dX1_handOn_21 rfl ?_
      obtain ⟨h4, h⟩ := rq_some h
      refine lFair_till 0 rfl (inb_in h4) dX1_handOn_22 ?_
      refine r_aload_n 1 dX1_handOn_23 rfl ?_
      refine gFair_keeps 0 rfl (tb_in (i := 2) (j := 30) rfl rfl) dX1_handOn_24 ?_
      refine r_imul dX1_handOn_27 ?_
      refine r_bipush (x := (10 : Int32)) dX1_handOn_28 (by decide) ?_
      refine r_idiv dX1_handOn_30 (by decide) ?_
      obtain ⟨y5, e5, h⟩ := lt_some h
      refine r_top e5 ?_
      refine r_istore_n (lv' := [(3, .int y5), (2, .int y3), (0, .ref (a0 0)), (1, .int x1)]) dX1_handOn_31 (Nat.le_of_ble_eq_true rfl) rfl ?_
      refine r_aload_n 2 dX1_handOn_32 rfl ?_
      refine gFair_wealth 0 rfl (tb_in (i := 3) (j := 7) rfl rfl) dX1_handOn_33 ?_
      refine r_iload_n 1 dX1_handOn_36 rfl ?_
      refine r_dup2 dX1_handOn_37 rfl rfl ?_
      obtain ⟨h6, h⟩ := rq_some h
      refine lFair_wealth 0 rfl (inb_in h6) dX1_handOn_38 ?_
      refine r_iload_n 0 dX1_handOn_39 rfl ?_
      refine r_iadd dX1_handOn_40 ?_
      obtain ⟨h7, h⟩ := rq_some h
      obtain ⟨u7, e7, h⟩ := lt_some h
      refine sFair_wealth (bs1 := [bFair K a0 z0_lasts z0_keeps z0_stalls z0_buyers z0_minute z0_goods z0_price z0_tongue z0_till u7 z0_sold z0_ring z0_grudges z0_purse z0_came z0_had z0_seller z0_praise z0_borne]) 0 e7 rfl (inb_in h7) rfl dX1_handOn_41 ?_
      refine r_aload_n 2 dX1_handOn_42 rfl ?_
      refine gFair_wealth 0 rfl (tb_in (i := 3) (j := 7) rfl rfl) dX1_handOn_43 ?_
      refine r_iload_n 3 dX1_handOn_46 rfl ?_
      refine r_dup2 dX1_handOn_47 rfl rfl ?_
      obtain ⟨h8, h⟩ := rq_some h
      refine lFair_wealth 0 rfl (inb_in h8) dX1_handOn_48 ?_
      refine r_aload_n 2 dX1_handOn_49 rfl ?_
      refine gFair_till 0 rfl (tb_in (i := 3) (j := 6) rfl rfl) dX1_handOn_50 ?_
      refine r_iload_n 1 dX1_handOn_53 rfl ?_
      obtain ⟨h9, h⟩ := rq_some h
      refine lFair_till 0 rfl (inb_in h9) dX1_handOn_54 ?_
      refine r_iload_n 0 dX1_handOn_55 rfl ?_
      refine r_isub dX1_handOn_56 ?_
      refine r_iadd dX1_handOn_57 ?_
      obtain ⟨h10, h⟩ := rq_some h
      obtain ⟨u10, e10, h⟩ := lt_some h
      refine sFair_wealth (bs1 := [bFair K a0 z0_lasts z0_keeps z0_stalls z0_buyers z0_minute z0_goods z0_price z0_tongue z0_till u10 z0_sold z0_ring z0_grudges z0_purse z0_came z0_had z0_seller z0_praise z0_borne]) 0 e10 rfl (inb_in h10) rfl dX1_handOn_58 ?_
      refine r_aload_n 2 dX1_handOn_59 rfl ?_
      refine gFair_till 0 rfl (tb_in (i := 3) (j := 6) rfl rfl) dX1_handOn_60 ?_
      refine r_iload_n 1 dX1_handOn_63 rfl ?_
      refine r_iconst (x := (0 : Int32)) dX1_handOn_64 (by decide) ?_
      obtain ⟨h11, h⟩ := rq_some h
      obtain ⟨u11, e11, h⟩ := lt_some h
      refine sFair_till (bs1 := [bFair K a0 z0_lasts z0_keeps z0_stalls z0_buyers z0_minute z0_goods z0_price z0_tongue u11 u10 z0_sold z0_ring z0_grudges z0_purse z0_came z0_had z0_seller z0_praise z0_borne]) 0 e11 rfl (inb_in h11) rfl dX1_handOn_65 ?_
      refine r_iinc (y := (x1 + (1 : Int32))) (lv' := [(1, .int (x1 + (1 : Int32))), (3, .int y5), (2, .int y3), (0, .ref (a0 0))]) 3 dX1_handOn_66 rfl rfl (Nat.le_of_ble_eq_true rfl) rfl ?_
      refine r_goto 2 dX1_handOn_69 (by decide) ?_
      refine r_sub (lv' := [(0, .ref (a0 0)), (1, .int (x1 + (1 : Int32)))]) [3, 0] rfl ?_
      exact ih (x1 + (1 : Int32)) u11 u10 h
def mFair_handOn (z0_keeps : Int32) (z0_stalls : Int32) (z0_till : Nat → Int32) (z0_wealth : Nat → Int32) (z0_seller : Nat → Int32) : Option ((Nat → Int32) × (Nat → Int32)) := mFair_handOn_l2 z0_keeps z0_stalls z0_seller FU (0 : Int32) z0_till z0_wealth
set_option maxHeartbeats 4000000 in
set_option maxRecDepth 20000 in
theorem cFair_handOn {q : (Nat → Int32) × (Nat → Int32)}  (h : mFair_handOn z0_keeps z0_stalls z0_till z0_wealth z0_seller = some q) : rMet l D Z (ty7 K) MFair_handOn [.ref (a0 0)] (List.flatten [bFair K a0 z0_lasts z0_keeps z0_stalls z0_buyers z0_minute z0_goods z0_price z0_tongue z0_till z0_wealth z0_sold z0_ring z0_grudges z0_purse z0_came z0_had z0_seller z0_praise z0_borne]) (List.flatten [bFair K a0 z0_lasts z0_keeps z0_stalls z0_buyers z0_minute z0_goods z0_price z0_tongue q.1 q.2 z0_sold z0_ring z0_grudges z0_purse z0_came z0_had z0_seller z0_praise z0_borne]) none := by
  refine rMet.of (by decide) rfl (Nat.le_of_ble_eq_true rfl) ?_
  refine r_sub (lv' := [(0, .ref (a0 0))]) [0] rfl ?_
  unfold mFair_handOn at h
  refine r_iconst (x := (0 : Int32)) dX1_handOn_0 (by decide) ?_
  refine r_istore_n (lv' := [(1, .int (0 : Int32)), (0, .ref (a0 0))]) dX1_handOn_1 (Nat.le_of_ble_eq_true rfl) rfl ?_
  refine r_sub (lv' := [(0, .ref (a0 0)), (1, .int (0 : Int32))]) [1, 0] rfl ?_
  exact cFair_handOn_l2   FU (0 : Int32) z0_till z0_wealth h
end
theorem dX1_closeMinute_0 : decode cX1_closeMinute 0 = .ok (.aload_n 0, 1) := by decide +kernel
theorem dX1_closeMinute_1 : decode cX1_closeMinute 1 = .ok (.getfield 9, 3) := by decide +kernel
theorem dX1_closeMinute_4 : decode cX1_closeMinute 4 = .ok (.ifCond .le 25, 3) := by decide +kernel
theorem dX1_closeMinute_7 : decode cX1_closeMinute 7 = .ok (.aload_n 0, 1) := by decide +kernel
theorem dX1_closeMinute_8 : decode cX1_closeMinute 8 = .ok (.getfield 24, 3) := by decide +kernel
theorem dX1_closeMinute_11 : decode cX1_closeMinute 11 = .ok (.aload_n 0, 1) := by decide +kernel
theorem dX1_closeMinute_12 : decode cX1_closeMinute 12 = .ok (.getfield 9, 3) := by decide +kernel
theorem dX1_closeMinute_15 : decode cX1_closeMinute 15 = .ok (.irem, 1) := by decide +kernel
theorem dX1_closeMinute_16 : decode cX1_closeMinute 16 = .ok (.aload_n 0, 1) := by decide +kernel
theorem dX1_closeMinute_17 : decode cX1_closeMinute 17 = .ok (.getfield 9, 3) := by decide +kernel
theorem dX1_closeMinute_20 : decode cX1_closeMinute 20 = .ok (.iconst 1, 1) := by decide +kernel
theorem dX1_closeMinute_21 : decode cX1_closeMinute 21 = .ok (.isub, 1) := by decide +kernel
theorem dX1_closeMinute_22 : decode cX1_closeMinute 22 = .ok (.if_icmp .ne 7, 3) := by decide +kernel
theorem dX1_closeMinute_25 : decode cX1_closeMinute 25 = .ok (.aload_n 0, 1) := by decide +kernel
theorem dX1_closeMinute_26 : decode cX1_closeMinute 26 = .ok (.invokevirtual 127, 3) := by decide +kernel
theorem dX1_closeMinute_29 : decode cX1_closeMinute 29 = .ok (.aload_n 0, 1) := by decide +kernel
theorem dX1_closeMinute_30 : decode cX1_closeMinute 30 = .ok (.dup, 1) := by decide +kernel
theorem dX1_closeMinute_31 : decode cX1_closeMinute 31 = .ok (.getfield 24, 3) := by decide +kernel
theorem dX1_closeMinute_34 : decode cX1_closeMinute 34 = .ok (.iconst 1, 1) := by decide +kernel
theorem dX1_closeMinute_35 : decode cX1_closeMinute 35 = .ok (.iadd, 1) := by decide +kernel
theorem dX1_closeMinute_36 : decode cX1_closeMinute 36 = .ok (.putfield 24, 3) := by decide +kernel
theorem dX1_closeMinute_39 : decode cX1_closeMinute 39 = .ok (.return_, 1) := by decide +kernel
abbrev MFair_closeMinute : rx_M := (RX1, yX1_closeMinute, cX1_closeMinute, 1, none, 2)
theorem kFair_closeMinute : rKv MFair_closeMinute 0 := ⟨tb_in (i := 6) (j := 3) rfl rfl, tb_in (i := 6) (j := 4) rfl rfl, tb_in (i := 3) (j := 26) rfl rfl, tb_in (i := 5) (j := 24) rfl rfl, ⟨by decide, by decide, by decide +kernel⟩, by decide⟩
section
variable {a0 : Nat → Nat} {z0_lasts : Int32} {z0_keeps : Int32} {z0_stalls : Int32} {z0_buyers : Int32} {z0_minute : Int32} {z0_goods : Nat → Int32} {z0_price : Nat → Int32} {z0_tongue : Nat → Int32} {z0_till : Nat → Int32} {z0_wealth : Nat → Int32} {z0_sold : Nat → Int32} {z0_ring : Nat → Int32} {z0_grudges : Nat → Int32} {z0_purse : Nat → Int32} {z0_came : Nat → Int32} {z0_had : Nat → Int32} {z0_seller : Nat → Int32} {z0_praise : Nat → Int32} {z0_borne : Nat → Int32}
def mFair_closeMinute (z0_lasts : Int32) (z0_keeps : Int32) (z0_stalls : Int32) (z0_minute : Int32) (z0_till : Nat → Int32) (z0_wealth : Nat → Int32) (z0_seller : Nat → Int32) : Option (Int32 × (Nat → Int32) × (Nat → Int32)) := (if z0_lasts ≤ 0 then lt (z0_minute + (1 : Int32)) (fun y2 => some (y2, z0_till, z0_wealth)) else rq (decide (¬ z0_lasts = 0)) ((if (z0_minute - z0_minute / z0_lasts * z0_lasts) = (z0_lasts - (1 : Int32)) then (mFair_handOn z0_keeps z0_stalls z0_till z0_wealth z0_seller).bind (fun q6 => lt (z0_minute + (1 : Int32)) (fun y7 => some (y7, q6.1, q6.2))) else lt (z0_minute + (1 : Int32)) (fun y5 => some (y5, z0_till, z0_wealth)))))
set_option maxHeartbeats 4000000 in
set_option maxRecDepth 20000 in
theorem cFair_closeMinute {q : Int32 × (Nat → Int32) × (Nat → Int32)}  (h : mFair_closeMinute z0_lasts z0_keeps z0_stalls z0_minute z0_till z0_wealth z0_seller = some q) : rMet l D Z (ty7 K) MFair_closeMinute [.ref (a0 0)] (List.flatten [bFair K a0 z0_lasts z0_keeps z0_stalls z0_buyers z0_minute z0_goods z0_price z0_tongue z0_till z0_wealth z0_sold z0_ring z0_grudges z0_purse z0_came z0_had z0_seller z0_praise z0_borne]) (List.flatten [bFair K a0 z0_lasts z0_keeps z0_stalls z0_buyers q.1 z0_goods z0_price z0_tongue q.2.1 q.2.2 z0_sold z0_ring z0_grudges z0_purse z0_came z0_had z0_seller z0_praise z0_borne]) none := by
  refine rMet.of (by decide) rfl (Nat.le_of_ble_eq_true rfl) ?_
  refine r_sub (lv' := [(0, .ref (a0 0))]) [0] rfl ?_
  unfold mFair_closeMinute at h
  refine r_aload_n 0 dX1_closeMinute_0 rfl ?_
  refine gFair_lasts 0 rfl (tb_in (i := 2) (j := 29) rfl rfl) dX1_closeMinute_1 ?_
  refine r_if_le 29 dX1_closeMinute_4 (by decide) (fun c1 => ?_) (fun c1 => ?_)
  · replace h := it_pos c1 h
    refine r_aload_n 0 dX1_closeMinute_29 rfl ?_
    refine r_dup dX1_closeMinute_30 rfl ?_
    refine gFair_minute 0 rfl (tb_in (i := 3) (j := 1) rfl rfl) dX1_closeMinute_31 ?_
    refine r_iconst (x := (1 : Int32)) dX1_closeMinute_34 (by decide) ?_
    refine r_iadd dX1_closeMinute_35 ?_
    obtain ⟨y2, e2, h⟩ := lt_some h
    refine r_top e2 ?_
    refine pFair_minute (bs1 := [bFair K a0 z0_lasts z0_keeps z0_stalls z0_buyers y2 z0_goods z0_price z0_tongue z0_till z0_wealth z0_sold z0_ring z0_grudges z0_purse z0_came z0_had z0_seller z0_praise z0_borne]) 0 rfl rfl (tb_in (i := 3) (j := 1) rfl rfl) dX1_closeMinute_36 ?_
    have hq := Option.some.inj h
    subst hq
    exact r_vret rfl dX1_closeMinute_39
  · replace h := it_neg c1 h
    refine r_aload_n 0 dX1_closeMinute_7 rfl ?_
    refine gFair_minute 0 rfl (tb_in (i := 3) (j := 1) rfl rfl) dX1_closeMinute_8 ?_
    refine r_aload_n 0 dX1_closeMinute_11 rfl ?_
    refine gFair_lasts 0 rfl (tb_in (i := 2) (j := 29) rfl rfl) dX1_closeMinute_12 ?_
    obtain ⟨h3, h⟩ := rq_some h
    refine r_irem dX1_closeMinute_15 (of_decide_eq_true h3) ?_
    refine r_aload_n 0 dX1_closeMinute_16 rfl ?_
    refine gFair_lasts 0 rfl (tb_in (i := 2) (j := 29) rfl rfl) dX1_closeMinute_17 ?_
    refine r_iconst (x := (1 : Int32)) dX1_closeMinute_20 (by decide) ?_
    refine r_isub dX1_closeMinute_21 ?_
    refine r_icmp_ne 29 dX1_closeMinute_22 (by decide) (fun c4 => ?_) (fun c4 => ?_)
    · replace h := it_neg c4 h
      refine r_aload_n 0 dX1_closeMinute_29 rfl ?_
      refine r_dup dX1_closeMinute_30 rfl ?_
      refine gFair_minute 0 rfl (tb_in (i := 3) (j := 1) rfl rfl) dX1_closeMinute_31 ?_
      refine r_iconst (x := (1 : Int32)) dX1_closeMinute_34 (by decide) ?_
      refine r_iadd dX1_closeMinute_35 ?_
      obtain ⟨y5, e5, h⟩ := lt_some h
      refine r_top e5 ?_
      refine pFair_minute (bs1 := [bFair K a0 z0_lasts z0_keeps z0_stalls z0_buyers y5 z0_goods z0_price z0_tongue z0_till z0_wealth z0_sold z0_ring z0_grudges z0_purse z0_came z0_had z0_seller z0_praise z0_borne]) 0 rfl rfl (tb_in (i := 3) (j := 1) rfl rfl) dX1_closeMinute_36 ?_
      have hq := Option.some.inj h
      subst hq
      exact r_vret rfl dX1_closeMinute_39
    · replace h := it_pos c4 h
      refine r_aload_n 0 dX1_closeMinute_25 rfl ?_
      obtain ⟨q6, h6, h⟩ := bd_some h
      refine b_callV (isC := [0]) (ci := 1)  (st := []) (bs1 := [bFair K a0 z0_lasts z0_keeps z0_stalls z0_buyers z0_minute z0_goods z0_price z0_tongue q6.1 q6.2 z0_sold z0_ring z0_grudges z0_purse z0_came z0_had z0_seller z0_praise z0_borne]) (cFair_handOn (a0 := a0) (z0_lasts := z0_lasts) (z0_keeps := z0_keeps) (z0_stalls := z0_stalls) (z0_buyers := z0_buyers) (z0_minute := z0_minute) (z0_goods := z0_goods) (z0_price := z0_price) (z0_tongue := z0_tongue) (z0_till := z0_till) (z0_wealth := z0_wealth) (z0_sold := z0_sold) (z0_ring := z0_ring) (z0_grudges := z0_grudges) (z0_purse := z0_purse) (z0_came := z0_came) (z0_had := z0_had) (z0_seller := z0_seller) (z0_praise := z0_praise) (z0_borne := z0_borne) h6) rfl rfl (Nat.le_of_ble_eq_true rfl) kFair_handOn (tb_in (i := 5) (j := 25) rfl rfl) (by decide) (by decide) rfl rfl rfl rfl rfl rfl rfl dX1_closeMinute_26 ?_
      refine r_aload_n 0 dX1_closeMinute_29 rfl ?_
      refine r_dup dX1_closeMinute_30 rfl ?_
      refine gFair_minute 0 rfl (tb_in (i := 3) (j := 1) rfl rfl) dX1_closeMinute_31 ?_
      refine r_iconst (x := (1 : Int32)) dX1_closeMinute_34 (by decide) ?_
      refine r_iadd dX1_closeMinute_35 ?_
      obtain ⟨y7, e7, h⟩ := lt_some h
      refine r_top e7 ?_
      refine pFair_minute (bs1 := [bFair K a0 z0_lasts z0_keeps z0_stalls z0_buyers y7 z0_goods z0_price z0_tongue q6.1 q6.2 z0_sold z0_ring z0_grudges z0_purse z0_came z0_had z0_seller z0_praise z0_borne]) 0 rfl rfl (tb_in (i := 3) (j := 1) rfl rfl) dX1_closeMinute_36 ?_
      have hq := Option.some.inj h
      subst hq
      exact r_vret rfl dX1_closeMinute_39
end
theorem dX1_allThatCan_0 : decode cX1_allThatCan 0 = .ok (.iconst 0, 1) := by decide +kernel
theorem dX1_allThatCan_1 : decode cX1_allThatCan 1 = .ok (.istore_n 2, 1) := by decide +kernel
theorem dX1_allThatCan_2 : decode cX1_allThatCan 2 = .ok (.iconst 0, 1) := by decide +kernel
theorem dX1_allThatCan_3 : decode cX1_allThatCan 3 = .ok (.istore_n 3, 1) := by decide +kernel
theorem dX1_allThatCan_4 : decode cX1_allThatCan 4 = .ok (.iload_n 3, 1) := by decide +kernel
theorem dX1_allThatCan_5 : decode cX1_allThatCan 5 = .ok (.aload_n 0, 1) := by decide +kernel
theorem dX1_allThatCan_6 : decode cX1_allThatCan 6 = .ok (.getfield 18, 3) := by decide +kernel
theorem dX1_allThatCan_9 : decode cX1_allThatCan 9 = .ok (.if_icmp .ge 24, 3) := by decide +kernel
theorem dX1_allThatCan_12 : decode cX1_allThatCan 12 = .ok (.aload_n 0, 1) := by decide +kernel
theorem dX1_allThatCan_13 : decode cX1_allThatCan 13 = .ok (.iload_n 1, 1) := by decide +kernel
theorem dX1_allThatCan_14 : decode cX1_allThatCan 14 = .ok (.iload_n 3, 1) := by decide +kernel
theorem dX1_allThatCan_15 : decode cX1_allThatCan 15 = .ok (.invokevirtual 97, 3) := by decide +kernel
theorem dX1_allThatCan_18 : decode cX1_allThatCan 18 = .ok (.ifCond .eq 9, 3) := by decide +kernel
theorem dX1_allThatCan_21 : decode cX1_allThatCan 21 = .ok (.iload_n 2, 1) := by decide +kernel
theorem dX1_allThatCan_22 : decode cX1_allThatCan 22 = .ok (.iconst 1, 1) := by decide +kernel
theorem dX1_allThatCan_23 : decode cX1_allThatCan 23 = .ok (.iload_n 3, 1) := by decide +kernel
theorem dX1_allThatCan_24 : decode cX1_allThatCan 24 = .ok (.ishl, 1) := by decide +kernel
theorem dX1_allThatCan_25 : decode cX1_allThatCan 25 = .ok (.ior, 1) := by decide +kernel
theorem dX1_allThatCan_26 : decode cX1_allThatCan 26 = .ok (.istore_n 2, 1) := by decide +kernel
theorem dX1_allThatCan_27 : decode cX1_allThatCan 27 = .ok (.iinc 3 1, 3) := by decide +kernel
theorem dX1_allThatCan_30 : decode cX1_allThatCan 30 = .ok (.goto (-26), 3) := by decide +kernel
theorem dX1_allThatCan_33 : decode cX1_allThatCan 33 = .ok (.iload_n 2, 1) := by decide +kernel
theorem dX1_allThatCan_34 : decode cX1_allThatCan 34 = .ok (.ireturn, 1) := by decide +kernel
abbrev MFair_allThatCan : rx_M := (RX1, yX1_allThatCan, cX1_allThatCan, 4, (some .int), 2)
theorem kFair_allThatCan : rKv MFair_allThatCan 1 := ⟨tb_in (i := 5) (j := 21) rfl rfl, tb_in (i := 5) (j := 22) rfl rfl, tb_in (i := 3) (j := 26) rfl rfl, tb_in (i := 4) (j := 14) rfl rfl, ⟨by decide, by decide, by decide +kernel⟩, by decide⟩
section
variable {a0 : Nat → Nat} {z0_lasts : Int32} {z0_keeps : Int32} {z0_stalls : Int32} {z0_buyers : Int32} {z0_minute : Int32} {z0_goods : Nat → Int32} {z0_price : Nat → Int32} {z0_tongue : Nat → Int32} {z0_till : Nat → Int32} {z0_wealth : Nat → Int32} {z0_sold : Nat → Int32} {z0_ring : Nat → Int32} {z0_grudges : Nat → Int32} {z0_purse : Nat → Int32} {z0_came : Nat → Int32} {z0_had : Nat → Int32} {z0_seller : Nat → Int32} {z0_praise : Nat → Int32} {z0_borne : Nat → Int32}
def mFair_allThatCan_l4 (z0_stalls : Int32) (z0_goods : Nat → Int32) (z0_price : Nat → Int32) (z0_purse : Nat → Int32) (x1 : Int32) : Nat → Int32 → Int32 → Option (Int32)
  | 0, _, _ => none
  | n + 1, x2, x3 => (if z0_stalls ≤ x3 then some (x2) else (mFair_can x1 x3 z0_goods z0_price z0_purse).bind (fun q2 => (if q2 = 0 then mFair_allThatCan_l4 z0_stalls z0_goods z0_price z0_purse x1 n x2 (x3 + (1 : Int32)) else lt (x2 ||| ((1 : Int32) <<< (x3 &&& 31))) (fun y4 => mFair_allThatCan_l4 z0_stalls z0_goods z0_price z0_purse x1 n y4 (x3 + (1 : Int32))))))
set_option maxHeartbeats 4000000 in
set_option maxRecDepth 20000 in
theorem cFair_allThatCan_l4 {q : Int32} {x1 : Int32}  : ∀ (n : Nat) (x2 : Int32) (x3 : Int32), mFair_allThatCan_l4 z0_stalls z0_goods z0_price z0_purse x1 n x2 x3 = some q → rW l D Z (ty7 K) MFair_allThatCan 4 [(0, .ref (a0 0)), (1, .int x1), (2, .int x2), (3, .int x3)] [] (List.flatten [bFair K a0 z0_lasts z0_keeps z0_stalls z0_buyers z0_minute z0_goods z0_price z0_tongue z0_till z0_wealth z0_sold z0_ring z0_grudges z0_purse z0_came z0_had z0_seller z0_praise z0_borne]) (List.flatten [bFair K a0 z0_lasts z0_keeps z0_stalls z0_buyers z0_minute z0_goods z0_price z0_tongue z0_till z0_wealth z0_sold z0_ring z0_grudges z0_purse z0_came z0_had z0_seller z0_praise z0_borne]) (some (.int q)) := by
  intro n
  induction n with
  | zero => intro x2 x3 h; unfold mFair_allThatCan_l4 at h; cases h
  | succ n ih =>
    intro x2 x3 h
    unfold mFair_allThatCan_l4 at h
    refine r_iload_n 3 dX1_allThatCan_4 rfl ?_
    refine r_aload_n 0 dX1_allThatCan_5 rfl ?_
    refine gFair_stalls 0 rfl (tb_in (i := 2) (j := 31) rfl rfl) dX1_allThatCan_6 ?_
    refine r_icmp_ge 33 dX1_allThatCan_9 (by decide) (fun c1 => ?_) (fun c1 => ?_)
    · replace h := it_pos c1 h
      refine r_iload_n 2 dX1_allThatCan_33 rfl ?_
      have hq := Option.some.inj h
      subst hq
      exact r_iret rfl dX1_allThatCan_34
    · replace h := it_neg c1 h
      refine r_aload_n 0 dX1_allThatCan_12 rfl ?_
      refine r_iload_n 1 dX1_allThatCan_13 rfl ?_
      refine r_iload_n 3 dX1_allThatCan_14 rfl ?_
      obtain ⟨q2, h2, h⟩ := bd_some h
      refine b_callV (isC := [0]) (ci := 1)  (st := []) (bs1 := [bFair K a0 z0_lasts z0_keeps z0_stalls z0_buyers z0_minute z0_goods z0_price z0_tongue z0_till z0_wealth z0_sold z0_ring z0_grudges z0_purse z0_came z0_had z0_seller z0_praise z0_borne]) (cFair_can (a0 := a0) (z0_lasts := z0_lasts) (z0_keeps := z0_keeps) (z0_stalls := z0_stalls) (z0_buyers := z0_buyers) (z0_minute := z0_minute) (z0_goods := z0_goods) (z0_price := z0_price) (z0_tongue := z0_tongue) (z0_till := z0_till) (z0_wealth := z0_wealth) (z0_sold := z0_sold) (z0_ring := z0_ring) (z0_grudges := z0_grudges) (z0_purse := z0_purse) (z0_came := z0_came) (z0_had := z0_had) (z0_seller := z0_seller) (z0_praise := z0_praise) (z0_borne := z0_borne) h2) rfl rfl (Nat.le_of_ble_eq_true rfl) kFair_can (tb_in (i := 4) (j := 15) rfl rfl) (by decide) (by decide) rfl rfl rfl rfl rfl rfl rfl dX1_allThatCan_15 ?_
      refine r_if_eq 27 dX1_allThatCan_18 (by decide) (fun c3 => ?_) (fun c3 => ?_)
      · replace h := it_pos c3 h
        refine r_iinc (y := (x3 + (1 : Int32))) (lv' := [(3, .int (x3 + (1 : Int32))), (0, .ref (a0 0)), (1, .int x1), (2, .int x2)]) 3 dX1_allThatCan_27 rfl rfl (Nat.le_of_ble_eq_true rfl) rfl ?_
        refine r_goto 4 dX1_allThatCan_30 (by decide) ?_
        refine r_sub (lv' := [(0, .ref (a0 0)), (1, .int x1), (2, .int x2), (3, .int (x3 + (1 : Int32)))]) [1, 2, 3, 0] rfl ?_
        exact ih x2 (x3 + (1 : Int32)) h
      · replace h := it_neg c3 h
        refine r_iload_n 2 dX1_allThatCan_21 rfl ?_
        refine r_iconst (x := (1 : Int32)) dX1_allThatCan_22 (by decide) ?_
        refine r_iload_n 3 dX1_allThatCan_23 rfl ?_
        refine r_ishl dX1_allThatCan_24 ?_
        refine r_ior dX1_allThatCan_25 ?_
        obtain ⟨y4, e4, h⟩ := lt_some h
        refine r_top e4 ?_
        refine r_istore_n (lv' := [(2, .int y4), (0, .ref (a0 0)), (1, .int x1), (3, .int x3)]) dX1_allThatCan_26 (Nat.le_of_ble_eq_true rfl) rfl ?_
        refine r_iinc (y := (x3 + (1 : Int32))) (lv' := [(3, .int (x3 + (1 : Int32))), (2, .int y4), (0, .ref (a0 0)), (1, .int x1)]) 3 dX1_allThatCan_27 rfl rfl (Nat.le_of_ble_eq_true rfl) rfl ?_
        refine r_goto 4 dX1_allThatCan_30 (by decide) ?_
        refine r_sub (lv' := [(0, .ref (a0 0)), (1, .int x1), (2, .int y4), (3, .int (x3 + (1 : Int32)))]) [2, 3, 1, 0] rfl ?_
        exact ih y4 (x3 + (1 : Int32)) h
def mFair_allThatCan (x1 : Int32) (z0_stalls : Int32) (z0_goods : Nat → Int32) (z0_price : Nat → Int32) (z0_purse : Nat → Int32) : Option (Int32) := mFair_allThatCan_l4 z0_stalls z0_goods z0_price z0_purse x1 FU (0 : Int32) (0 : Int32)
set_option maxHeartbeats 4000000 in
set_option maxRecDepth 20000 in
theorem cFair_allThatCan {q : Int32} {x1 : Int32} (h : mFair_allThatCan x1 z0_stalls z0_goods z0_price z0_purse = some q) : rMet l D Z (ty7 K) MFair_allThatCan [.ref (a0 0), .int x1] (List.flatten [bFair K a0 z0_lasts z0_keeps z0_stalls z0_buyers z0_minute z0_goods z0_price z0_tongue z0_till z0_wealth z0_sold z0_ring z0_grudges z0_purse z0_came z0_had z0_seller z0_praise z0_borne]) (List.flatten [bFair K a0 z0_lasts z0_keeps z0_stalls z0_buyers z0_minute z0_goods z0_price z0_tongue z0_till z0_wealth z0_sold z0_ring z0_grudges z0_purse z0_came z0_had z0_seller z0_praise z0_borne]) (some (.int q)) := by
  refine rMet.of (by decide) rfl (Nat.le_of_ble_eq_true rfl) ?_
  refine r_sub (lv' := [(0, .ref (a0 0)), (1, .int x1)]) [0, 1] rfl ?_
  unfold mFair_allThatCan at h
  refine r_iconst (x := (0 : Int32)) dX1_allThatCan_0 (by decide) ?_
  refine r_istore_n (lv' := [(2, .int (0 : Int32)), (0, .ref (a0 0)), (1, .int x1)]) dX1_allThatCan_1 (Nat.le_of_ble_eq_true rfl) rfl ?_
  refine r_iconst (x := (0 : Int32)) dX1_allThatCan_2 (by decide) ?_
  refine r_istore_n (lv' := [(3, .int (0 : Int32)), (2, .int (0 : Int32)), (0, .ref (a0 0)), (1, .int x1)]) dX1_allThatCan_3 (Nat.le_of_ble_eq_true rfl) rfl ?_
  refine r_sub (lv' := [(0, .ref (a0 0)), (1, .int x1), (2, .int (0 : Int32)), (3, .int (0 : Int32))]) [2, 3, 1, 0] rfl ?_
  exact cFair_allThatCan_l4   FU (0 : Int32) (0 : Int32) h
end
theorem dX1_staysSo_0 : decode cX1_staysSo 0 = .ok (.aload_n 1, 1) := by decide +kernel
theorem dX1_staysSo_1 : decode cX1_staysSo 1 = .ok (.ifnull 10, 3) := by decide +kernel
theorem dX1_staysSo_4 : decode cX1_staysSo 4 = .ok (.aload_n 1, 1) := by decide +kernel
theorem dX1_staysSo_5 : decode cX1_staysSo 5 = .ok (.getfield 111, 3) := by decide +kernel
theorem dX1_staysSo_8 : decode cX1_staysSo 8 = .ok (.ifCond .ne 5, 3) := by decide +kernel
theorem dX1_staysSo_11 : decode cX1_staysSo 11 = .ok (.iconst 1, 1) := by decide +kernel
theorem dX1_staysSo_12 : decode cX1_staysSo 12 = .ok (.ireturn, 1) := by decide +kernel
theorem dX1_staysSo_13 : decode cX1_staysSo 13 = .ok (.iconst 0, 1) := by decide +kernel
theorem dX1_staysSo_14 : decode cX1_staysSo 14 = .ok (.istore_n 2, 1) := by decide +kernel
theorem dX1_staysSo_15 : decode cX1_staysSo 15 = .ok (.iconst 0, 1) := by decide +kernel
theorem dX1_staysSo_16 : decode cX1_staysSo 16 = .ok (.istore_n 3, 1) := by decide +kernel
theorem dX1_staysSo_17 : decode cX1_staysSo 17 = .ok (.iload_n 3, 1) := by decide +kernel
theorem dX1_staysSo_18 : decode cX1_staysSo 18 = .ok (.aload_n 0, 1) := by decide +kernel
theorem dX1_staysSo_19 : decode cX1_staysSo 19 = .ok (.getfield 21, 3) := by decide +kernel
theorem dX1_staysSo_22 : decode cX1_staysSo 22 = .ok (.if_icmp .ge 17, 3) := by decide +kernel
theorem dX1_staysSo_25 : decode cX1_staysSo 25 = .ok (.iload_n 2, 1) := by decide +kernel
theorem dX1_staysSo_26 : decode cX1_staysSo 26 = .ok (.aload_n 0, 1) := by decide +kernel
theorem dX1_staysSo_27 : decode cX1_staysSo 27 = .ok (.iload_n 3, 1) := by decide +kernel
theorem dX1_staysSo_28 : decode cX1_staysSo 28 = .ok (.invokevirtual 117, 3) := by decide +kernel
theorem dX1_staysSo_31 : decode cX1_staysSo 31 = .ok (.ior, 1) := by decide +kernel
theorem dX1_staysSo_32 : decode cX1_staysSo 32 = .ok (.istore_n 2, 1) := by decide +kernel
theorem dX1_staysSo_33 : decode cX1_staysSo 33 = .ok (.iinc 3 1, 3) := by decide +kernel
theorem dX1_staysSo_36 : decode cX1_staysSo 36 = .ok (.goto (-19), 3) := by decide +kernel
theorem dX1_staysSo_39 : decode cX1_staysSo 39 = .ok (.iload_n 2, 1) := by decide +kernel
theorem dX1_staysSo_40 : decode cX1_staysSo 40 = .ok (.ifCond .ne 7, 3) := by decide +kernel
theorem dX1_staysSo_43 : decode cX1_staysSo 43 = .ok (.iconst 1, 1) := by decide +kernel
theorem dX1_staysSo_44 : decode cX1_staysSo 44 = .ok (.goto 4, 3) := by decide +kernel
theorem dX1_staysSo_47 : decode cX1_staysSo 47 = .ok (.iconst 0, 1) := by decide +kernel
theorem dX1_staysSo_48 : decode cX1_staysSo 48 = .ok (.ireturn, 1) := by decide +kernel
abbrev MFair_staysSor : rx_M := (RX1, yX1_staysSo, cX1_staysSo, 4, (some .boolean), 3)
theorem kFair_staysSor : rKv MFair_staysSor 1 := ⟨tb_in (i := 6) (j := 0) rfl rfl, tb_in (i := 6) (j := 1) rfl rfl, tb_in (i := 3) (j := 26) rfl rfl, tb_in (i := 5) (j := 19) rfl rfl, ⟨by decide, by decide, by decide +kernel⟩, by decide⟩
section
variable {a0 : Nat → Nat} {a1 : Nat → Nat} {z0_lasts : Int32} {z0_keeps : Int32} {z0_stalls : Int32} {z0_buyers : Int32} {z0_minute : Int32} {z0_goods : Nat → Int32} {z0_price : Nat → Int32} {z0_tongue : Nat → Int32} {z0_till : Nat → Int32} {z0_wealth : Nat → Int32} {z0_sold : Nat → Int32} {z0_ring : Nat → Int32} {z0_grudges : Nat → Int32} {z0_purse : Nat → Int32} {z0_came : Nat → Int32} {z0_had : Nat → Int32} {z0_seller : Nat → Int32} {z0_praise : Nat → Int32} {z0_borne : Nat → Int32} {z1_steps : Nat → Int32} {z1_size : Int32} {z1_sumFrom : Nat → Int32} {z1_testFrom : Nat → Int32} {z1_testTo : Nat → Int32} {z1_clauses : Int32} {z1_parts : Int32} {z1_readsTime : Int32} {z1_words : Nat → Int64} {z1_stack : Nat → Int64}
def mFair_staysSor_l17 (z0_stalls : Int32) (z0_buyers : Int32) (z0_goods : Nat → Int32) (z0_price : Nat → Int32) (z0_purse : Nat → Int32) (z1_readsTime : Int32) : Nat → Int32 → Int32 → Option (Int32)
  | 0, _, _ => none
  | n + 1, x2, x3 => (if z0_buyers ≤ x3 then (if x2 = 0 then some ((1 : Int32)) else some ((0 : Int32))) else (mFair_allThatCan x3 z0_stalls z0_goods z0_price z0_purse).bind (fun q4 => lt (x2 ||| q4) (fun y5 => mFair_staysSor_l17 z0_stalls z0_buyers z0_goods z0_price z0_purse z1_readsTime n y5 (x3 + (1 : Int32)))))
set_option maxHeartbeats 4000000 in
set_option maxRecDepth 20000 in
theorem cFair_staysSor_l17 {q : Int32}   : ∀ (n : Nat) (x2 : Int32) (x3 : Int32), mFair_staysSor_l17 z0_stalls z0_buyers z0_goods z0_price z0_purse z1_readsTime n x2 x3 = some q → rW l D Z (ty7 K) MFair_staysSor 17 [(0, .ref (a0 0)), (2, .int x2), (3, .int x3)] [] (List.flatten [bFair K a0 z0_lasts z0_keeps z0_stalls z0_buyers z0_minute z0_goods z0_price z0_tongue z0_till z0_wealth z0_sold z0_ring z0_grudges z0_purse z0_came z0_had z0_seller z0_praise z0_borne, bRule K a1 z1_steps z1_size z1_sumFrom z1_testFrom z1_testTo z1_clauses z1_parts z1_readsTime z1_words z1_stack]) (List.flatten [bFair K a0 z0_lasts z0_keeps z0_stalls z0_buyers z0_minute z0_goods z0_price z0_tongue z0_till z0_wealth z0_sold z0_ring z0_grudges z0_purse z0_came z0_had z0_seller z0_praise z0_borne, bRule K a1 z1_steps z1_size z1_sumFrom z1_testFrom z1_testTo z1_clauses z1_parts z1_readsTime z1_words z1_stack]) (some (.int q)) := by
  intro n
  induction n with
  | zero => intro x2 x3 h; unfold mFair_staysSor_l17 at h; cases h
  | succ n ih =>
    intro x2 x3 h
    unfold mFair_staysSor_l17 at h
    refine r_iload_n 2 dX1_staysSo_17 rfl ?_
    refine r_aload_n 0 dX1_staysSo_18 rfl ?_
    refine gFair_buyers 0 rfl (tb_in (i := 3) (j := 0) rfl rfl) dX1_staysSo_19 ?_
    refine r_icmp_ge 39 dX1_staysSo_22 (by decide) (fun c2 => ?_) (fun c2 => ?_)
    · replace h := it_pos c2 h
      refine r_iload_n 1 dX1_staysSo_39 rfl ?_
      refine r_if_ne 47 dX1_staysSo_40 (by decide) (fun c3 => ?_) (fun c3 => ?_)
      · replace h := it_neg c3 h
        refine r_iconst (x := (0 : Int32)) dX1_staysSo_47 (by decide) ?_
        have hq := Option.some.inj h
        subst hq
        exact r_zret (ty := .boolean) rfl rfl dX1_staysSo_48
      · replace h := it_pos c3 h
        refine r_iconst (x := (1 : Int32)) dX1_staysSo_43 (by decide) ?_
        refine r_goto 48 dX1_staysSo_44 (by decide) ?_
        have hq := Option.some.inj h
        subst hq
        exact r_zret (ty := .boolean) rfl rfl dX1_staysSo_48
    · replace h := it_neg c2 h
      refine r_iload_n 1 dX1_staysSo_25 rfl ?_
      refine r_aload_n 0 dX1_staysSo_26 rfl ?_
      refine r_iload_n 2 dX1_staysSo_27 rfl ?_
      obtain ⟨q4, h4, h⟩ := bd_some h
      refine b_callV (isC := [0]) (ci := 1)  (st := [.int x2]) (bs1 := [bFair K a0 z0_lasts z0_keeps z0_stalls z0_buyers z0_minute z0_goods z0_price z0_tongue z0_till z0_wealth z0_sold z0_ring z0_grudges z0_purse z0_came z0_had z0_seller z0_praise z0_borne, bRule K a1 z1_steps z1_size z1_sumFrom z1_testFrom z1_testTo z1_clauses z1_parts z1_readsTime z1_words z1_stack]) (cFair_allThatCan (a0 := a0) (z0_lasts := z0_lasts) (z0_keeps := z0_keeps) (z0_stalls := z0_stalls) (z0_buyers := z0_buyers) (z0_minute := z0_minute) (z0_goods := z0_goods) (z0_price := z0_price) (z0_tongue := z0_tongue) (z0_till := z0_till) (z0_wealth := z0_wealth) (z0_sold := z0_sold) (z0_ring := z0_ring) (z0_grudges := z0_grudges) (z0_purse := z0_purse) (z0_came := z0_came) (z0_had := z0_had) (z0_seller := z0_seller) (z0_praise := z0_praise) (z0_borne := z0_borne) h4) rfl rfl (Nat.le_of_ble_eq_true rfl) kFair_allThatCan (tb_in (i := 5) (j := 20) rfl rfl) (by decide) (by decide) rfl rfl rfl rfl rfl rfl rfl dX1_staysSo_28 ?_
      refine r_ior dX1_staysSo_31 ?_
      obtain ⟨y5, e5, h⟩ := lt_some h
      refine r_top e5 ?_
      refine r_istore_n (lv' := [(2, .int y5), (0, .ref (a0 0)), (3, .int x3)]) dX1_staysSo_32 (Nat.le_of_ble_eq_true rfl) rfl ?_
      refine r_iinc (y := (x3 + (1 : Int32))) (lv' := [(3, .int (x3 + (1 : Int32))), (2, .int y5), (0, .ref (a0 0))]) 2 dX1_staysSo_33 rfl rfl (Nat.le_of_ble_eq_true rfl) rfl ?_
      refine r_goto 17 dX1_staysSo_36 (by decide) ?_
      refine r_sub (lv' := [(0, .ref (a0 0)), (2, .int y5), (3, .int (x3 + (1 : Int32)))]) [2, 1, 0] rfl ?_
      exact ih y5 (x3 + (1 : Int32)) h
def mFair_staysSor (z0_stalls : Int32) (z0_buyers : Int32) (z0_goods : Nat → Int32) (z0_price : Nat → Int32) (z0_purse : Nat → Int32) (z1_readsTime : Int32) : Option (Int32) := (if z1_readsTime = 0 then some ((1 : Int32)) else mFair_staysSor_l17 z0_stalls z0_buyers z0_goods z0_price z0_purse z1_readsTime FU (0 : Int32) (0 : Int32))
set_option maxHeartbeats 4000000 in
set_option maxRecDepth 20000 in
theorem cFair_staysSor {q : Int32}  (h : mFair_staysSor z0_stalls z0_buyers z0_goods z0_price z0_purse z1_readsTime = some q) : rMet l D Z (ty7 K) MFair_staysSor [.ref (a0 0), .ref (a1 0)] (List.flatten [bFair K a0 z0_lasts z0_keeps z0_stalls z0_buyers z0_minute z0_goods z0_price z0_tongue z0_till z0_wealth z0_sold z0_ring z0_grudges z0_purse z0_came z0_had z0_seller z0_praise z0_borne, bRule K a1 z1_steps z1_size z1_sumFrom z1_testFrom z1_testTo z1_clauses z1_parts z1_readsTime z1_words z1_stack]) (List.flatten [bFair K a0 z0_lasts z0_keeps z0_stalls z0_buyers z0_minute z0_goods z0_price z0_tongue z0_till z0_wealth z0_sold z0_ring z0_grudges z0_purse z0_came z0_had z0_seller z0_praise z0_borne, bRule K a1 z1_steps z1_size z1_sumFrom z1_testFrom z1_testTo z1_clauses z1_parts z1_readsTime z1_words z1_stack]) (some (.int q)) := by
  refine rMet.of (by decide) rfl (Nat.le_of_ble_eq_true rfl) ?_
  refine r_sub (lv' := [(0, .ref (a0 0)), (1, .ref (a1 0))]) [0, 1] rfl ?_
  unfold mFair_staysSor at h
  refine r_aload_n 1 dX1_staysSo_0 rfl ?_
  refine r_ifnull_ref dX1_staysSo_1 ?_
  refine r_aload_n 1 dX1_staysSo_4 rfl ?_
  refine gRule_readsTimeN 1 rfl (List.mem_of_getElem? (i := 70) rfl) dX1_staysSo_5 ?_
  refine r_if_ne 13 dX1_staysSo_8 (by decide) (fun c1 => ?_) (fun c1 => ?_)
  · replace h := it_neg c1 h
    refine r_iconst (x := (0 : Int32)) dX1_staysSo_13 (by decide) ?_
    refine r_istore_n (lv' := [(2, .int (0 : Int32)), (0, .ref (a0 0)), (1, .ref (a1 0))]) dX1_staysSo_14 (Nat.le_of_ble_eq_true rfl) rfl ?_
    refine r_iconst (x := (0 : Int32)) dX1_staysSo_15 (by decide) ?_
    refine r_istore_n (lv' := [(3, .int (0 : Int32)), (2, .int (0 : Int32)), (0, .ref (a0 0)), (1, .ref (a1 0))]) dX1_staysSo_16 (Nat.le_of_ble_eq_true rfl) rfl ?_
    refine r_sub (lv' := [(0, .ref (a0 0)), (2, .int (0 : Int32)), (3, .int (0 : Int32))]) [2, 1, 0] rfl ?_
    exact cFair_staysSor_l17   FU (0 : Int32) (0 : Int32) h
  · replace h := it_pos c1 h
    refine r_iconst (x := (1 : Int32)) dX1_staysSo_11 (by decide) ?_
    have hq := Option.some.inj h
    subst hq
    exact r_zret (ty := .boolean) rfl rfl dX1_staysSo_12
end
theorem dX1_go_0 : decode cX1_go 0 = .ok (.iconst 0, 1) := by decide +kernel
theorem dX1_go_1 : decode cX1_go 1 = .ok (.istore 4, 2) := by decide +kernel
theorem dX1_go_3 : decode cX1_go 3 = .ok (.iconst 0, 1) := by decide +kernel
theorem dX1_go_4 : decode cX1_go 4 = .ok (.istore 5, 2) := by decide +kernel
theorem dX1_go_6 : decode cX1_go 6 = .ok (.iconst 0, 1) := by decide +kernel
theorem dX1_go_7 : decode cX1_go 7 = .ok (.istore 6, 2) := by decide +kernel
theorem dX1_go_9 : decode cX1_go 9 = .ok (.iload 6, 2) := by decide +kernel
theorem dX1_go_11 : decode cX1_go 11 = .ok (.iload_n 2, 1) := by decide +kernel
theorem dX1_go_12 : decode cX1_go 12 = .ok (.if_icmp .ge 57, 3) := by decide +kernel
theorem dX1_go_15 : decode cX1_go 15 = .ok (.iload 5, 2) := by decide +kernel
theorem dX1_go_17 : decode cX1_go 17 = .ok (.ifCond .eq 7, 3) := by decide +kernel
theorem dX1_go_20 : decode cX1_go 20 = .ok (.iconst 0, 1) := by decide +kernel
theorem dX1_go_21 : decode cX1_go 21 = .ok (.goto 9, 3) := by decide +kernel
theorem dX1_go_24 : decode cX1_go 24 = .ok (.aload_n 0, 1) := by decide +kernel
theorem dX1_go_25 : decode cX1_go 25 = .ok (.aload_n 1, 1) := by decide +kernel
theorem dX1_go_26 : decode cX1_go 26 = .ok (.iload_n 3, 1) := by decide +kernel
theorem dX1_go_27 : decode cX1_go 27 = .ok (.invokevirtual 100, 3) := by decide +kernel
theorem dX1_go_30 : decode cX1_go 30 = .ok (.istore 7, 2) := by decide +kernel
theorem dX1_go_32 : decode cX1_go 32 = .ok (.iload 7, 2) := by decide +kernel
theorem dX1_go_34 : decode cX1_go 34 = .ok (.ifCond .ne 15, 3) := by decide +kernel
theorem dX1_go_37 : decode cX1_go 37 = .ok (.aload_n 0, 1) := by decide +kernel
theorem dX1_go_38 : decode cX1_go 38 = .ok (.aload_n 1, 1) := by decide +kernel
theorem dX1_go_39 : decode cX1_go 39 = .ok (.invokevirtual 104, 3) := by decide +kernel
theorem dX1_go_42 : decode cX1_go 42 = .ok (.ifCond .eq 7, 3) := by decide +kernel
theorem dX1_go_45 : decode cX1_go 45 = .ok (.iconst 1, 1) := by decide +kernel
theorem dX1_go_46 : decode cX1_go 46 = .ok (.goto 4, 3) := by decide +kernel
theorem dX1_go_49 : decode cX1_go 49 = .ok (.iconst 0, 1) := by decide +kernel
theorem dX1_go_50 : decode cX1_go 50 = .ok (.istore 5, 2) := by decide +kernel
theorem dX1_go_52 : decode cX1_go 52 = .ok (.iload 4, 2) := by decide +kernel
theorem dX1_go_54 : decode cX1_go 54 = .ok (.iload 7, 2) := by decide +kernel
theorem dX1_go_56 : decode cX1_go 56 = .ok (.iadd, 1) := by decide +kernel
theorem dX1_go_57 : decode cX1_go 57 = .ok (.istore 4, 2) := by decide +kernel
theorem dX1_go_59 : decode cX1_go 59 = .ok (.aload_n 0, 1) := by decide +kernel
theorem dX1_go_60 : decode cX1_go 60 = .ok (.invokevirtual 108, 3) := by decide +kernel
theorem dX1_go_63 : decode cX1_go 63 = .ok (.iinc 6 1, 3) := by decide +kernel
theorem dX1_go_66 : decode cX1_go 66 = .ok (.goto (-57), 3) := by decide +kernel
theorem dX1_go_69 : decode cX1_go 69 = .ok (.iload 4, 2) := by decide +kernel
theorem dX1_go_71 : decode cX1_go 71 = .ok (.ireturn, 1) := by decide +kernel
abbrev MFair_gor : rx_M := (RX1, yX1_go, cX1_go, 8, (some .int), 7)
theorem kFair_gor : rKv MFair_gor 3 := ⟨tb_in (i := 7) (j := 24) rfl rfl, tb_in (i := 7) (j := 25) rfl rfl, tb_in (i := 3) (j := 26) rfl rfl, tb_in (i := 6) (j := 5) rfl rfl, ⟨by decide, by decide, by decide +kernel⟩, by decide⟩
section
variable {a0 : Nat → Nat} {a1 : Nat → Nat} {z0_lasts : Int32} {z0_keeps : Int32} {z0_stalls : Int32} {z0_buyers : Int32} {z0_minute : Int32} {z0_goods : Nat → Int32} {z0_price : Nat → Int32} {z0_tongue : Nat → Int32} {z0_till : Nat → Int32} {z0_wealth : Nat → Int32} {z0_sold : Nat → Int32} {z0_ring : Nat → Int32} {z0_grudges : Nat → Int32} {z0_purse : Nat → Int32} {z0_came : Nat → Int32} {z0_had : Nat → Int32} {z0_seller : Nat → Int32} {z0_praise : Nat → Int32} {z0_borne : Nat → Int32} {z1_steps : Nat → Int32} {z1_size : Int32} {z1_sumFrom : Nat → Int32} {z1_testFrom : Nat → Int32} {z1_testTo : Nat → Int32} {z1_clauses : Int32} {z1_parts : Int32} {z1_readsTime : Int32} {z1_words : Nat → Int64} {z1_stack : Nat → Int64}
def mFair_gor_j30 (k9 : Int32 → Int32 → Int32 → Int32 → (Nat → Int32) → (Nat → Int32) → (Nat → Int32) → (Nat → Int32) → (Nat → Int32) → (Nat → Int32) → (Nat → Int64) → (Nat → Int64) → Option (Int32 × Int32 × (Nat → Int32) × (Nat → Int32) × (Nat → Int32) × (Nat → Int32) × (Nat → Int32) × (Nat → Int32) × (Nat → Int64) × (Nat → Int64))) (x2 : Int32) (x3 : Int32) (x4 : Int32) (x6 : Int32) (z0_lasts : Int32) (z0_keeps : Int32) (z0_stalls : Int32) (z0_buyers : Int32) (z0_minute : Int32) (z0_goods : Nat → Int32) (z0_price : Nat → Int32) (z0_till : Nat → Int32) (z0_wealth : Nat → Int32) (z0_sold : Nat → Int32) (z0_purse : Nat → Int32) (z0_came : Nat → Int32) (z0_had : Nat → Int32) (z0_seller : Nat → Int32) (z0_praise : Nat → Int32) (z0_borne : Nat → Int32) (z1_steps : Nat → Int32) (z1_size : Int32) (z1_sumFrom : Nat → Int32) (z1_testFrom : Nat → Int32) (z1_testTo : Nat → Int32) (z1_clauses : Int32) (z1_readsTime : Int32) (z1_words : Nat → Int64) (z1_stack : Nat → Int64) (s0 : Int32) : Option (Int32 × Int32 × (Nat → Int32) × (Nat → Int32) × (Nat → Int32) × (Nat → Int32) × (Nat → Int32) × (Nat → Int32) × (Nat → Int64) × (Nat → Int64)) := (if s0 = 0 then (mFair_staysSor z0_stalls z0_buyers z0_goods z0_price z0_purse z1_readsTime).bind (fun q7 => (if q7 = 0 then lt (x4 + s0) (fun y9 => (mFair_closeMinute z0_lasts z0_keeps z0_stalls z0_minute z0_till z0_wealth z0_seller).bind (fun q10 => k9 y9 (0 : Int32) (x6 + (1 : Int32)) q10.1 z0_goods q10.2.1 q10.2.2 z0_sold z0_purse z0_had z1_words z1_stack)) else lt (x4 + s0) (fun y11 => (mFair_closeMinute z0_lasts z0_keeps z0_stalls z0_minute z0_till z0_wealth z0_seller).bind (fun q12 => k9 y11 (1 : Int32) (x6 + (1 : Int32)) q12.1 z0_goods q12.2.1 q12.2.2 z0_sold z0_purse z0_had z1_words z1_stack)))) else lt (x4 + s0) (fun y5 => (mFair_closeMinute z0_lasts z0_keeps z0_stalls z0_minute z0_till z0_wealth z0_seller).bind (fun q6 => k9 y5 (0 : Int32) (x6 + (1 : Int32)) q6.1 z0_goods q6.2.1 q6.2.2 z0_sold z0_purse z0_had z1_words z1_stack)))
set_option maxHeartbeats 4000000 in
set_option maxRecDepth 20000 in
theorem cFair_gor_j30 {q : Int32 × Int32 × (Nat → Int32) × (Nat → Int32) × (Nat → Int32) × (Nat → Int32) × (Nat → Int32) × (Nat → Int32) × (Nat → Int64) × (Nat → Int64)} {x2 : Int32} {x3 : Int32} {x4 : Int32} {x6 : Int32} {s0 : Int32} {k9 : Int32 → Int32 → Int32 → Int32 → (Nat → Int32) → (Nat → Int32) → (Nat → Int32) → (Nat → Int32) → (Nat → Int32) → (Nat → Int32) → (Nat → Int64) → (Nat → Int64) → Option (Int32 × Int32 × (Nat → Int32) × (Nat → Int32) × (Nat → Int32) × (Nat → Int32) × (Nat → Int32) × (Nat → Int32) × (Nat → Int64) × (Nat → Int64))} (hk9 : ∀ (x4 : Int32) (x5 : Int32) (x6 : Int32) (z0_minute : Int32) (z0_goods : Nat → Int32) (z0_till : Nat → Int32) (z0_wealth : Nat → Int32) (z0_sold : Nat → Int32) (z0_purse : Nat → Int32) (z0_had : Nat → Int32) (z1_words : Nat → Int64) (z1_stack : Nat → Int64), k9 x4 x5 x6 z0_minute z0_goods z0_till z0_wealth z0_sold z0_purse z0_had z1_words z1_stack = some q → rW l D Z (ty7 K) MFair_gor 9 [(0, .ref (a0 0)), (1, .ref (a1 0)), (2, .int x2), (3, .int x3), (4, .int x4), (5, .int x5), (6, .int x6)] [] (List.flatten [bFair K a0 z0_lasts z0_keeps z0_stalls z0_buyers z0_minute z0_goods z0_price z0_tongue z0_till z0_wealth z0_sold z0_ring z0_grudges z0_purse z0_came z0_had z0_seller z0_praise z0_borne, bRule K a1 z1_steps z1_size z1_sumFrom z1_testFrom z1_testTo z1_clauses z1_parts z1_readsTime z1_words z1_stack]) (List.flatten [bFair K a0 z0_lasts z0_keeps z0_stalls z0_buyers q.2.1 q.2.2.1 z0_price z0_tongue q.2.2.2.1 q.2.2.2.2.1 q.2.2.2.2.2.1 z0_ring z0_grudges q.2.2.2.2.2.2.1 z0_came q.2.2.2.2.2.2.2.1 z0_seller z0_praise z0_borne, bRule K a1 z1_steps z1_size z1_sumFrom z1_testFrom z1_testTo z1_clauses z1_parts z1_readsTime q.2.2.2.2.2.2.2.2.1 q.2.2.2.2.2.2.2.2.2]) (some (.int q.1))) (h : mFair_gor_j30 k9 x2 x3 x4 x6 z0_lasts z0_keeps z0_stalls z0_buyers z0_minute z0_goods z0_price z0_till z0_wealth z0_sold z0_purse z0_came z0_had z0_seller z0_praise z0_borne z1_steps z1_size z1_sumFrom z1_testFrom z1_testTo z1_clauses z1_readsTime z1_words z1_stack s0 = some q) : rW l D Z (ty7 K) MFair_gor 30 [(0, .ref (a0 0)), (1, .ref (a1 0)), (2, .int x2), (3, .int x3), (4, .int x4), (6, .int x6)] [.int s0] (List.flatten [bFair K a0 z0_lasts z0_keeps z0_stalls z0_buyers z0_minute z0_goods z0_price z0_tongue z0_till z0_wealth z0_sold z0_ring z0_grudges z0_purse z0_came z0_had z0_seller z0_praise z0_borne, bRule K a1 z1_steps z1_size z1_sumFrom z1_testFrom z1_testTo z1_clauses z1_parts z1_readsTime z1_words z1_stack]) (List.flatten [bFair K a0 z0_lasts z0_keeps z0_stalls z0_buyers q.2.1 q.2.2.1 z0_price z0_tongue q.2.2.2.1 q.2.2.2.2.1 q.2.2.2.2.2.1 z0_ring z0_grudges q.2.2.2.2.2.2.1 z0_came q.2.2.2.2.2.2.2.1 z0_seller z0_praise z0_borne, bRule K a1 z1_steps z1_size z1_sumFrom z1_testFrom z1_testTo z1_clauses z1_parts z1_readsTime q.2.2.2.2.2.2.2.2.1 q.2.2.2.2.2.2.2.2.2]) (some (.int q.1)) := by
  unfold mFair_gor_j30 at h
  refine r_istore (lv' := [(7, .int s0), (0, .ref (a0 0)), (1, .ref (a1 0)), (2, .int x2), (3, .int x3), (4, .int x4), (6, .int x6)]) dX1_go_30 (Nat.le_of_ble_eq_true rfl) rfl ?_
  refine r_iload 0 dX1_go_32 rfl ?_
  refine r_if_ne 49 dX1_go_34 (by decide) (fun c4 => ?_) (fun c4 => ?_)
  · replace h := it_neg c4 h
    refine r_iconst (x := (0 : Int32)) dX1_go_49 (by decide) ?_
    refine r_istore (lv' := [(5, .int (0 : Int32)), (7, .int s0), (0, .ref (a0 0)), (1, .ref (a1 0)), (2, .int x2), (3, .int x3), (4, .int x4), (6, .int x6)]) dX1_go_50 (Nat.le_of_ble_eq_true rfl) rfl ?_
    refine r_iload 6 dX1_go_52 rfl ?_
    refine r_iload 1 dX1_go_54 rfl ?_
    refine r_iadd dX1_go_56 ?_
    obtain ⟨y5, e5, h⟩ := lt_some h
    refine r_top e5 ?_
    refine r_istore (lv' := [(4, .int y5), (5, .int (0 : Int32)), (7, .int s0), (0, .ref (a0 0)), (1, .ref (a1 0)), (2, .int x2), (3, .int x3), (6, .int x6)]) dX1_go_57 (Nat.le_of_ble_eq_true rfl) rfl ?_
    refine r_aload_n 3 dX1_go_59 rfl ?_
    obtain ⟨q6, h6, h⟩ := bd_some h
    refine b_callV (isC := [0]) (ci := 1)  (st := []) (bs1 := [bFair K a0 z0_lasts z0_keeps z0_stalls z0_buyers q6.1 z0_goods z0_price z0_tongue q6.2.1 q6.2.2 z0_sold z0_ring z0_grudges z0_purse z0_came z0_had z0_seller z0_praise z0_borne, bRule K a1 z1_steps z1_size z1_sumFrom z1_testFrom z1_testTo z1_clauses z1_parts z1_readsTime z1_words z1_stack]) (cFair_closeMinute (a0 := a0) (z0_lasts := z0_lasts) (z0_keeps := z0_keeps) (z0_stalls := z0_stalls) (z0_buyers := z0_buyers) (z0_minute := z0_minute) (z0_goods := z0_goods) (z0_price := z0_price) (z0_tongue := z0_tongue) (z0_till := z0_till) (z0_wealth := z0_wealth) (z0_sold := z0_sold) (z0_ring := z0_ring) (z0_grudges := z0_grudges) (z0_purse := z0_purse) (z0_came := z0_came) (z0_had := z0_had) (z0_seller := z0_seller) (z0_praise := z0_praise) (z0_borne := z0_borne) h6) rfl rfl (Nat.le_of_ble_eq_true rfl) kFair_closeMinute (tb_in (i := 6) (j := 2) rfl rfl) (by decide) (by decide) rfl rfl rfl rfl rfl rfl rfl dX1_go_60 ?_
    refine r_iinc (y := (x6 + (1 : Int32))) (lv' := [(6, .int (x6 + (1 : Int32))), (4, .int y5), (5, .int (0 : Int32)), (7, .int s0), (0, .ref (a0 0)), (1, .ref (a1 0)), (2, .int x2), (3, .int x3)]) 7 dX1_go_63 rfl rfl (Nat.le_of_ble_eq_true rfl) rfl ?_
    refine r_goto 9 dX1_go_66 (by decide) ?_
    refine r_sub (lv' := [(0, .ref (a0 0)), (1, .ref (a1 0)), (2, .int x2), (3, .int x3), (4, .int y5), (5, .int (0 : Int32)), (6, .int (x6 + (1 : Int32)))]) [4, 5, 6, 7, 1, 2, 0] rfl ?_
    exact hk9 y5 (0 : Int32) (x6 + (1 : Int32)) q6.1 z0_goods q6.2.1 q6.2.2 z0_sold z0_purse z0_had z1_words z1_stack h
  · replace h := it_pos c4 h
    refine r_aload_n 1 dX1_go_37 rfl ?_
    refine r_aload_n 2 dX1_go_38 rfl ?_
    obtain ⟨q7, h7, h⟩ := bd_some h
    refine b_callV (isC := [0, 1]) (ci := 1)  (st := []) (bs1 := [bFair K a0 z0_lasts z0_keeps z0_stalls z0_buyers z0_minute z0_goods z0_price z0_tongue z0_till z0_wealth z0_sold z0_ring z0_grudges z0_purse z0_came z0_had z0_seller z0_praise z0_borne, bRule K a1 z1_steps z1_size z1_sumFrom z1_testFrom z1_testTo z1_clauses z1_parts z1_readsTime z1_words z1_stack]) (cFair_staysSor (a0 := a0) (a1 := a1) (z0_lasts := z0_lasts) (z0_keeps := z0_keeps) (z0_stalls := z0_stalls) (z0_buyers := z0_buyers) (z0_minute := z0_minute) (z0_goods := z0_goods) (z0_price := z0_price) (z0_tongue := z0_tongue) (z0_till := z0_till) (z0_wealth := z0_wealth) (z0_sold := z0_sold) (z0_ring := z0_ring) (z0_grudges := z0_grudges) (z0_purse := z0_purse) (z0_came := z0_came) (z0_had := z0_had) (z0_seller := z0_seller) (z0_praise := z0_praise) (z0_borne := z0_borne) (z1_steps := z1_steps) (z1_size := z1_size) (z1_sumFrom := z1_sumFrom) (z1_testFrom := z1_testFrom) (z1_testTo := z1_testTo) (z1_clauses := z1_clauses) (z1_parts := z1_parts) (z1_readsTime := z1_readsTime) (z1_words := z1_words) (z1_stack := z1_stack) h7) rfl rfl (Nat.le_of_ble_eq_true rfl) kFair_staysSor (tb_in (i := 5) (j := 31) rfl rfl) (by decide) (by decide) rfl rfl rfl rfl rfl rfl rfl dX1_go_39 ?_
    refine r_if_eq 49 dX1_go_42 (by decide) (fun c8 => ?_) (fun c8 => ?_)
    · replace h := it_pos c8 h
      refine r_iconst (x := (0 : Int32)) dX1_go_49 (by decide) ?_
      refine r_istore (lv' := [(5, .int (0 : Int32)), (7, .int s0), (0, .ref (a0 0)), (1, .ref (a1 0)), (2, .int x2), (3, .int x3), (4, .int x4), (6, .int x6)]) dX1_go_50 (Nat.le_of_ble_eq_true rfl) rfl ?_
      refine r_iload 6 dX1_go_52 rfl ?_
      refine r_iload 1 dX1_go_54 rfl ?_
      refine r_iadd dX1_go_56 ?_
      obtain ⟨y9, e9, h⟩ := lt_some h
      refine r_top e9 ?_
      refine r_istore (lv' := [(4, .int y9), (5, .int (0 : Int32)), (7, .int s0), (0, .ref (a0 0)), (1, .ref (a1 0)), (2, .int x2), (3, .int x3), (6, .int x6)]) dX1_go_57 (Nat.le_of_ble_eq_true rfl) rfl ?_
      refine r_aload_n 3 dX1_go_59 rfl ?_
      obtain ⟨q10, h10, h⟩ := bd_some h
      refine b_callV (isC := [0]) (ci := 1)  (st := []) (bs1 := [bFair K a0 z0_lasts z0_keeps z0_stalls z0_buyers q10.1 z0_goods z0_price z0_tongue q10.2.1 q10.2.2 z0_sold z0_ring z0_grudges z0_purse z0_came z0_had z0_seller z0_praise z0_borne, bRule K a1 z1_steps z1_size z1_sumFrom z1_testFrom z1_testTo z1_clauses z1_parts z1_readsTime z1_words z1_stack]) (cFair_closeMinute (a0 := a0) (z0_lasts := z0_lasts) (z0_keeps := z0_keeps) (z0_stalls := z0_stalls) (z0_buyers := z0_buyers) (z0_minute := z0_minute) (z0_goods := z0_goods) (z0_price := z0_price) (z0_tongue := z0_tongue) (z0_till := z0_till) (z0_wealth := z0_wealth) (z0_sold := z0_sold) (z0_ring := z0_ring) (z0_grudges := z0_grudges) (z0_purse := z0_purse) (z0_came := z0_came) (z0_had := z0_had) (z0_seller := z0_seller) (z0_praise := z0_praise) (z0_borne := z0_borne) h10) rfl rfl (Nat.le_of_ble_eq_true rfl) kFair_closeMinute (tb_in (i := 6) (j := 2) rfl rfl) (by decide) (by decide) rfl rfl rfl rfl rfl rfl rfl dX1_go_60 ?_
      refine r_iinc (y := (x6 + (1 : Int32))) (lv' := [(6, .int (x6 + (1 : Int32))), (4, .int y9), (5, .int (0 : Int32)), (7, .int s0), (0, .ref (a0 0)), (1, .ref (a1 0)), (2, .int x2), (3, .int x3)]) 7 dX1_go_63 rfl rfl (Nat.le_of_ble_eq_true rfl) rfl ?_
      refine r_goto 9 dX1_go_66 (by decide) ?_
      refine r_sub (lv' := [(0, .ref (a0 0)), (1, .ref (a1 0)), (2, .int x2), (3, .int x3), (4, .int y9), (5, .int (0 : Int32)), (6, .int (x6 + (1 : Int32)))]) [4, 5, 6, 7, 1, 2, 0] rfl ?_
      exact hk9 y9 (0 : Int32) (x6 + (1 : Int32)) q10.1 z0_goods q10.2.1 q10.2.2 z0_sold z0_purse z0_had z1_words z1_stack h
    · replace h := it_neg c8 h
      refine r_iconst (x := (1 : Int32)) dX1_go_45 (by decide) ?_
      refine r_goto 50 dX1_go_46 (by decide) ?_
      refine r_istore (lv' := [(5, .int (1 : Int32)), (7, .int s0), (0, .ref (a0 0)), (1, .ref (a1 0)), (2, .int x2), (3, .int x3), (4, .int x4), (6, .int x6)]) dX1_go_50 (Nat.le_of_ble_eq_true rfl) rfl ?_
      refine r_iload 6 dX1_go_52 rfl ?_
      refine r_iload 1 dX1_go_54 rfl ?_
      refine r_iadd dX1_go_56 ?_
      obtain ⟨y11, e11, h⟩ := lt_some h
      refine r_top e11 ?_
      refine r_istore (lv' := [(4, .int y11), (5, .int (1 : Int32)), (7, .int s0), (0, .ref (a0 0)), (1, .ref (a1 0)), (2, .int x2), (3, .int x3), (6, .int x6)]) dX1_go_57 (Nat.le_of_ble_eq_true rfl) rfl ?_
      refine r_aload_n 3 dX1_go_59 rfl ?_
      obtain ⟨q12, h12, h⟩ := bd_some h
      refine b_callV (isC := [0]) (ci := 1)  (st := []) (bs1 := [bFair K a0 z0_lasts z0_keeps z0_stalls z0_buyers q12.1 z0_goods z0_price z0_tongue q12.2.1 q12.2.2 z0_sold z0_ring z0_grudges z0_purse z0_came z0_had z0_seller z0_praise z0_borne, bRule K a1 z1_steps z1_size z1_sumFrom z1_testFrom z1_testTo z1_clauses z1_parts z1_readsTime z1_words z1_stack]) (cFair_closeMinute (a0 := a0) (z0_lasts := z0_lasts) (z0_keeps := z0_keeps) (z0_stalls := z0_stalls) (z0_buyers := z0_buyers) (z0_minute := z0_minute) (z0_goods := z0_goods) (z0_price := z0_price) (z0_tongue := z0_tongue) (z0_till := z0_till) (z0_wealth := z0_wealth) (z0_sold := z0_sold) (z0_ring := z0_ring) (z0_grudges := z0_grudges) (z0_purse := z0_purse) (z0_came := z0_came) (z0_had := z0_had) (z0_seller := z0_seller) (z0_praise := z0_praise) (z0_borne := z0_borne) h12) rfl rfl (Nat.le_of_ble_eq_true rfl) kFair_closeMinute (tb_in (i := 6) (j := 2) rfl rfl) (by decide) (by decide) rfl rfl rfl rfl rfl rfl rfl dX1_go_60 ?_
      refine r_iinc (y := (x6 + (1 : Int32))) (lv' := [(6, .int (x6 + (1 : Int32))), (4, .int y11), (5, .int (1 : Int32)), (7, .int s0), (0, .ref (a0 0)), (1, .ref (a1 0)), (2, .int x2), (3, .int x3)]) 7 dX1_go_63 rfl rfl (Nat.le_of_ble_eq_true rfl) rfl ?_
      refine r_goto 9 dX1_go_66 (by decide) ?_
      refine r_sub (lv' := [(0, .ref (a0 0)), (1, .ref (a1 0)), (2, .int x2), (3, .int x3), (4, .int y11), (5, .int (1 : Int32)), (6, .int (x6 + (1 : Int32)))]) [4, 5, 6, 7, 1, 2, 0] rfl ?_
      exact hk9 y11 (1 : Int32) (x6 + (1 : Int32)) q12.1 z0_goods q12.2.1 q12.2.2 z0_sold z0_purse z0_had z1_words z1_stack h
def mFair_gor_l9 (z0_lasts : Int32) (z0_keeps : Int32) (z0_stalls : Int32) (z0_buyers : Int32) (z0_price : Nat → Int32) (z0_came : Nat → Int32) (z0_seller : Nat → Int32) (z0_praise : Nat → Int32) (z0_borne : Nat → Int32) (z1_steps : Nat → Int32) (z1_size : Int32) (z1_sumFrom : Nat → Int32) (z1_testFrom : Nat → Int32) (z1_testTo : Nat → Int32) (z1_clauses : Int32) (z1_readsTime : Int32) (x2 : Int32) (x3 : Int32) : Nat → Int32 → Int32 → Int32 → Int32 → (Nat → Int32) → (Nat → Int32) → (Nat → Int32) → (Nat → Int32) → (Nat → Int32) → (Nat → Int32) → (Nat → Int64) → (Nat → Int64) → Option (Int32 × Int32 × (Nat → Int32) × (Nat → Int32) × (Nat → Int32) × (Nat → Int32) × (Nat → Int32) × (Nat → Int32) × (Nat → Int64) × (Nat → Int64))
  | 0, _, _, _, _, _, _, _, _, _, _, _, _ => none
  | n + 1, x4, x5, x6, z0_minute, z0_goods, z0_till, z0_wealth, z0_sold, z0_purse, z0_had, z1_words, z1_stack => (if x2 ≤ x6 then some (x4, z0_minute, z0_goods, z0_till, z0_wealth, z0_sold, z0_purse, z0_had, z1_words, z1_stack) else (if x5 = 0 then (mFair_trader x3 z0_lasts z0_stalls z0_buyers z0_minute z0_goods z0_price z0_till z0_sold z0_purse z0_came z0_had z0_seller z0_praise z0_borne z1_steps z1_size z1_sumFrom z1_testFrom z1_testTo z1_clauses z1_words z1_stack).bind (fun q3 => mFair_gor_j30 (mFair_gor_l9 z0_lasts z0_keeps z0_stalls z0_buyers z0_price z0_came z0_seller z0_praise z0_borne z1_steps z1_size z1_sumFrom z1_testFrom z1_testTo z1_clauses z1_readsTime x2 x3 n) x2 x3 x4 x6 z0_lasts z0_keeps z0_stalls z0_buyers z0_minute q3.2.1 z0_price q3.2.2.1 z0_wealth q3.2.2.2.1 q3.2.2.2.2.1 z0_came q3.2.2.2.2.2.1 z0_seller z0_praise z0_borne z1_steps z1_size z1_sumFrom z1_testFrom z1_testTo z1_clauses z1_readsTime q3.2.2.2.2.2.2.1 q3.2.2.2.2.2.2.2 q3.1) else mFair_gor_j30 (mFair_gor_l9 z0_lasts z0_keeps z0_stalls z0_buyers z0_price z0_came z0_seller z0_praise z0_borne z1_steps z1_size z1_sumFrom z1_testFrom z1_testTo z1_clauses z1_readsTime x2 x3 n) x2 x3 x4 x6 z0_lasts z0_keeps z0_stalls z0_buyers z0_minute z0_goods z0_price z0_till z0_wealth z0_sold z0_purse z0_came z0_had z0_seller z0_praise z0_borne z1_steps z1_size z1_sumFrom z1_testFrom z1_testTo z1_clauses z1_readsTime z1_words z1_stack (0 : Int32)))
set_option maxHeartbeats 4000000 in
set_option maxRecDepth 20000 in
theorem cFair_gor_l9 {q : Int32 × Int32 × (Nat → Int32) × (Nat → Int32) × (Nat → Int32) × (Nat → Int32) × (Nat → Int32) × (Nat → Int32) × (Nat → Int64) × (Nat → Int64)} {x2 : Int32} {x3 : Int32}  : ∀ (n : Nat) (x4 : Int32) (x5 : Int32) (x6 : Int32) (z0_minute : Int32) (z0_goods : Nat → Int32) (z0_till : Nat → Int32) (z0_wealth : Nat → Int32) (z0_sold : Nat → Int32) (z0_purse : Nat → Int32) (z0_had : Nat → Int32) (z1_words : Nat → Int64) (z1_stack : Nat → Int64), mFair_gor_l9 z0_lasts z0_keeps z0_stalls z0_buyers z0_price z0_came z0_seller z0_praise z0_borne z1_steps z1_size z1_sumFrom z1_testFrom z1_testTo z1_clauses z1_readsTime x2 x3 n x4 x5 x6 z0_minute z0_goods z0_till z0_wealth z0_sold z0_purse z0_had z1_words z1_stack = some q → rW l D Z (ty7 K) MFair_gor 9 [(0, .ref (a0 0)), (1, .ref (a1 0)), (2, .int x2), (3, .int x3), (4, .int x4), (5, .int x5), (6, .int x6)] [] (List.flatten [bFair K a0 z0_lasts z0_keeps z0_stalls z0_buyers z0_minute z0_goods z0_price z0_tongue z0_till z0_wealth z0_sold z0_ring z0_grudges z0_purse z0_came z0_had z0_seller z0_praise z0_borne, bRule K a1 z1_steps z1_size z1_sumFrom z1_testFrom z1_testTo z1_clauses z1_parts z1_readsTime z1_words z1_stack]) (List.flatten [bFair K a0 z0_lasts z0_keeps z0_stalls z0_buyers q.2.1 q.2.2.1 z0_price z0_tongue q.2.2.2.1 q.2.2.2.2.1 q.2.2.2.2.2.1 z0_ring z0_grudges q.2.2.2.2.2.2.1 z0_came q.2.2.2.2.2.2.2.1 z0_seller z0_praise z0_borne, bRule K a1 z1_steps z1_size z1_sumFrom z1_testFrom z1_testTo z1_clauses z1_parts z1_readsTime q.2.2.2.2.2.2.2.2.1 q.2.2.2.2.2.2.2.2.2]) (some (.int q.1)) := by
  intro n
  induction n with
  | zero => intro x4 x5 x6 z0_minute z0_goods z0_till z0_wealth z0_sold z0_purse z0_had z1_words z1_stack h; unfold mFair_gor_l9 at h; cases h
  | succ n ih =>
    intro x4 x5 x6 z0_minute z0_goods z0_till z0_wealth z0_sold z0_purse z0_had z1_words z1_stack h
    unfold mFair_gor_l9 at h
    refine r_iload 6 dX1_go_9 rfl ?_
    refine r_iload_n 2 dX1_go_11 rfl ?_
    refine r_icmp_ge 69 dX1_go_12 (by decide) (fun c1 => ?_) (fun c1 => ?_)
    · replace h := it_pos c1 h
      refine r_iload 4 dX1_go_69 rfl ?_
      have hq := Option.some.inj h
      subst hq
      exact r_iret rfl dX1_go_71
    · replace h := it_neg c1 h
      refine r_iload 5 dX1_go_15 rfl ?_
      refine r_if_eq 24 dX1_go_17 (by decide) (fun c2 => ?_) (fun c2 => ?_)
      · replace h := it_pos c2 h
        refine r_aload_n 0 dX1_go_24 rfl ?_
        refine r_aload_n 1 dX1_go_25 rfl ?_
        refine r_iload_n 3 dX1_go_26 rfl ?_
        obtain ⟨q3, h3, h⟩ := bd_some h
        refine b_callV (isC := [0, 1]) (ci := 1)  (st := []) (bs1 := [bFair K a0 z0_lasts z0_keeps z0_stalls z0_buyers z0_minute q3.2.1 z0_price z0_tongue q3.2.2.1 z0_wealth q3.2.2.2.1 z0_ring z0_grudges q3.2.2.2.2.1 z0_came q3.2.2.2.2.2.1 z0_seller z0_praise z0_borne, bRule K a1 z1_steps z1_size z1_sumFrom z1_testFrom z1_testTo z1_clauses z1_parts z1_readsTime q3.2.2.2.2.2.2.1 q3.2.2.2.2.2.2.2]) (cFair_trader (a0 := a0) (a1 := a1) (z0_lasts := z0_lasts) (z0_keeps := z0_keeps) (z0_stalls := z0_stalls) (z0_buyers := z0_buyers) (z0_minute := z0_minute) (z0_goods := z0_goods) (z0_price := z0_price) (z0_tongue := z0_tongue) (z0_till := z0_till) (z0_wealth := z0_wealth) (z0_sold := z0_sold) (z0_ring := z0_ring) (z0_grudges := z0_grudges) (z0_purse := z0_purse) (z0_came := z0_came) (z0_had := z0_had) (z0_seller := z0_seller) (z0_praise := z0_praise) (z0_borne := z0_borne) (z1_steps := z1_steps) (z1_size := z1_size) (z1_sumFrom := z1_sumFrom) (z1_testFrom := z1_testFrom) (z1_testTo := z1_testTo) (z1_clauses := z1_clauses) (z1_parts := z1_parts) (z1_readsTime := z1_readsTime) (z1_words := z1_words) (z1_stack := z1_stack) h3) rfl rfl (Nat.le_of_ble_eq_true rfl) kFair_trader (tb_in (i := 5) (j := 28) rfl rfl) (by decide) (by decide) rfl rfl rfl rfl rfl rfl rfl dX1_go_27 ?_
        refine r_sub (lv' := [(0, .ref (a0 0)), (1, .ref (a1 0)), (2, .int x2), (3, .int x3), (4, .int x4), (6, .int x6)]) [0, 1, 2, 3, 4, 6] rfl ?_
        exact cFair_gor_j30  (ih) h
      · replace h := it_neg c2 h
        refine r_iconst (x := (0 : Int32)) dX1_go_20 (by decide) ?_
        refine r_goto 30 dX1_go_21 (by decide) ?_
        refine r_sub (lv' := [(0, .ref (a0 0)), (1, .ref (a1 0)), (2, .int x2), (3, .int x3), (4, .int x4), (6, .int x6)]) [0, 1, 2, 3, 4, 6] rfl ?_
        exact cFair_gor_j30  (ih) h
def mFair_gor (x2 : Int32) (x3 : Int32) (z0_lasts : Int32) (z0_keeps : Int32) (z0_stalls : Int32) (z0_buyers : Int32) (z0_minute : Int32) (z0_goods : Nat → Int32) (z0_price : Nat → Int32) (z0_till : Nat → Int32) (z0_wealth : Nat → Int32) (z0_sold : Nat → Int32) (z0_purse : Nat → Int32) (z0_came : Nat → Int32) (z0_had : Nat → Int32) (z0_seller : Nat → Int32) (z0_praise : Nat → Int32) (z0_borne : Nat → Int32) (z1_steps : Nat → Int32) (z1_size : Int32) (z1_sumFrom : Nat → Int32) (z1_testFrom : Nat → Int32) (z1_testTo : Nat → Int32) (z1_clauses : Int32) (z1_readsTime : Int32) (z1_words : Nat → Int64) (z1_stack : Nat → Int64) : Option (Int32 × Int32 × (Nat → Int32) × (Nat → Int32) × (Nat → Int32) × (Nat → Int32) × (Nat → Int32) × (Nat → Int32) × (Nat → Int64) × (Nat → Int64)) := mFair_gor_l9 z0_lasts z0_keeps z0_stalls z0_buyers z0_price z0_came z0_seller z0_praise z0_borne z1_steps z1_size z1_sumFrom z1_testFrom z1_testTo z1_clauses z1_readsTime x2 x3 FU (0 : Int32) (0 : Int32) (0 : Int32) z0_minute z0_goods z0_till z0_wealth z0_sold z0_purse z0_had z1_words z1_stack
set_option maxHeartbeats 4000000 in
set_option maxRecDepth 20000 in
theorem cFair_gor {q : Int32 × Int32 × (Nat → Int32) × (Nat → Int32) × (Nat → Int32) × (Nat → Int32) × (Nat → Int32) × (Nat → Int32) × (Nat → Int64) × (Nat → Int64)} {x2 : Int32} {x3 : Int32} (h : mFair_gor x2 x3 z0_lasts z0_keeps z0_stalls z0_buyers z0_minute z0_goods z0_price z0_till z0_wealth z0_sold z0_purse z0_came z0_had z0_seller z0_praise z0_borne z1_steps z1_size z1_sumFrom z1_testFrom z1_testTo z1_clauses z1_readsTime z1_words z1_stack = some q) : rMet l D Z (ty7 K) MFair_gor [.ref (a0 0), .ref (a1 0), .int x2, .int x3] (List.flatten [bFair K a0 z0_lasts z0_keeps z0_stalls z0_buyers z0_minute z0_goods z0_price z0_tongue z0_till z0_wealth z0_sold z0_ring z0_grudges z0_purse z0_came z0_had z0_seller z0_praise z0_borne, bRule K a1 z1_steps z1_size z1_sumFrom z1_testFrom z1_testTo z1_clauses z1_parts z1_readsTime z1_words z1_stack]) (List.flatten [bFair K a0 z0_lasts z0_keeps z0_stalls z0_buyers q.2.1 q.2.2.1 z0_price z0_tongue q.2.2.2.1 q.2.2.2.2.1 q.2.2.2.2.2.1 z0_ring z0_grudges q.2.2.2.2.2.2.1 z0_came q.2.2.2.2.2.2.2.1 z0_seller z0_praise z0_borne, bRule K a1 z1_steps z1_size z1_sumFrom z1_testFrom z1_testTo z1_clauses z1_parts z1_readsTime q.2.2.2.2.2.2.2.2.1 q.2.2.2.2.2.2.2.2.2]) (some (.int q.1)) := by
  refine rMet.of (by decide) rfl (Nat.le_of_ble_eq_true rfl) ?_
  refine r_sub (lv' := [(0, .ref (a0 0)), (1, .ref (a1 0)), (2, .int x2), (3, .int x3)]) [0, 1, 2, 3] rfl ?_
  unfold mFair_gor at h
  refine r_iconst (x := (0 : Int32)) dX1_go_0 (by decide) ?_
  refine r_istore (lv' := [(4, .int (0 : Int32)), (0, .ref (a0 0)), (1, .ref (a1 0)), (2, .int x2), (3, .int x3)]) dX1_go_1 (Nat.le_of_ble_eq_true rfl) rfl ?_
  refine r_iconst (x := (0 : Int32)) dX1_go_3 (by decide) ?_
  refine r_istore (lv' := [(5, .int (0 : Int32)), (4, .int (0 : Int32)), (0, .ref (a0 0)), (1, .ref (a1 0)), (2, .int x2), (3, .int x3)]) dX1_go_4 (Nat.le_of_ble_eq_true rfl) rfl ?_
  refine r_iconst (x := (0 : Int32)) dX1_go_6 (by decide) ?_
  refine r_istore (lv' := [(6, .int (0 : Int32)), (5, .int (0 : Int32)), (4, .int (0 : Int32)), (0, .ref (a0 0)), (1, .ref (a1 0)), (2, .int x2), (3, .int x3)]) dX1_go_7 (Nat.le_of_ble_eq_true rfl) rfl ?_
  refine r_sub (lv' := [(0, .ref (a0 0)), (1, .ref (a1 0)), (2, .int x2), (3, .int x3), (4, .int (0 : Int32)), (5, .int (0 : Int32)), (6, .int (0 : Int32))]) [3, 4, 5, 6, 2, 1, 0] rfl ?_
  exact cFair_gor_l9   FU (0 : Int32) (0 : Int32) (0 : Int32) z0_minute z0_goods z0_till z0_wealth z0_sold z0_purse z0_had z1_words z1_stack h
end
abbrev MFair_choicen : rx_M := (RX1, yX1_choice, cX1_choice, 9, (some .int), 2)
theorem kFair_choicen : rKv MFair_choicen 2 := ⟨tb_in (i := 5) (j := 16) rfl rfl, tb_in (i := 5) (j := 17) rfl rfl, tb_in (i := 3) (j := 26) rfl rfl, tb_in (i := 5) (j := 14) rfl rfl, ⟨by decide, by decide, by decide +kernel⟩, by decide⟩
section
variable {a0 : Nat → Nat} {z0_lasts : Int32} {z0_keeps : Int32} {z0_stalls : Int32} {z0_buyers : Int32} {z0_minute : Int32} {z0_goods : Nat → Int32} {z0_price : Nat → Int32} {z0_tongue : Nat → Int32} {z0_till : Nat → Int32} {z0_wealth : Nat → Int32} {z0_sold : Nat → Int32} {z0_ring : Nat → Int32} {z0_grudges : Nat → Int32} {z0_purse : Nat → Int32} {z0_came : Nat → Int32} {z0_had : Nat → Int32} {z0_seller : Nat → Int32} {z0_praise : Nat → Int32} {z0_borne : Nat → Int32}
def mFair_choicen_l8 (z0_stalls : Int32) (z0_goods : Nat → Int32) (z0_price : Nat → Int32) (z0_purse : Nat → Int32) (z0_came : Nat → Int32) (z0_praise : Nat → Int32) (x2 : Int32) : Nat → Int32 → Int64 → Int32 → Option (Int32)
  | 0, _, _, _ => none
  | n + 1, x3, x4, x6 => (if z0_stalls ≤ x6 then some (x3) else (mFair_can x2 x6 z0_goods z0_price z0_purse).bind (fun q2 => (if q2 = 0 then mFair_choicen_l8 z0_stalls z0_goods z0_price z0_purse z0_came z0_praise x2 n x3 x4 (x6 + (1 : Int32)) else rq (inb x6 6) (rq (inb x2 6) ((if (z0_came x2.toNatClampNeg) = x6 then lt ((((1 : Int32) + (z0_praise x6.toNatClampNeg)) + (3 : Int32)).toInt64) (fun y9 => (if (lg_cmp y9 x4) ≤ 0 then mFair_choicen_l8 z0_stalls z0_goods z0_price z0_purse z0_came z0_praise x2 n x3 x4 (x6 + (1 : Int32)) else mFair_choicen_l8 z0_stalls z0_goods z0_price z0_purse z0_came z0_praise x2 n x6 y9 (x6 + (1 : Int32)))) else lt ((((1 : Int32) + (z0_praise x6.toNatClampNeg)) + (0 : Int32)).toInt64) (fun y7 => (if (lg_cmp y7 x4) ≤ 0 then mFair_choicen_l8 z0_stalls z0_goods z0_price z0_purse z0_came z0_praise x2 n x3 x4 (x6 + (1 : Int32)) else mFair_choicen_l8 z0_stalls z0_goods z0_price z0_purse z0_came z0_praise x2 n x6 y7 (x6 + (1 : Int32))))))))))
set_option maxHeartbeats 4000000 in
set_option maxRecDepth 20000 in
theorem cFair_choicen_l8 {q : Int32} {x2 : Int32}  : ∀ (n : Nat) (x3 : Int32) (x4 : Int64) (x6 : Int32), mFair_choicen_l8 z0_stalls z0_goods z0_price z0_purse z0_came z0_praise x2 n x3 x4 x6 = some q → rW l D Z (ty7 K) MFair_choicen 8 [(0, .ref (a0 0)), (1, .null), (2, .int x2), (3, .int x3), (4, .long x4), (6, .int x6)] [] (List.flatten [bFair K a0 z0_lasts z0_keeps z0_stalls z0_buyers z0_minute z0_goods z0_price z0_tongue z0_till z0_wealth z0_sold z0_ring z0_grudges z0_purse z0_came z0_had z0_seller z0_praise z0_borne]) (List.flatten [bFair K a0 z0_lasts z0_keeps z0_stalls z0_buyers z0_minute z0_goods z0_price z0_tongue z0_till z0_wealth z0_sold z0_ring z0_grudges z0_purse z0_came z0_had z0_seller z0_praise z0_borne]) (some (.int q)) := by
  intro n
  induction n with
  | zero => intro x3 x4 x6 h; unfold mFair_choicen_l8 at h; cases h
  | succ n ih =>
    intro x3 x4 x6 h
    unfold mFair_choicen_l8 at h
    refine r_iload 5 dX1_choice_8 rfl ?_
    refine r_aload_n 0 dX1_choice_10 rfl ?_
    refine gFair_stalls 0 rfl (tb_in (i := 2) (j := 31) rfl rfl) dX1_choice_11 ?_
    refine r_icmp_ge 95 dX1_choice_14 (by decide) (fun c1 => ?_) (fun c1 => ?_)
    · replace h := it_pos c1 h
      refine r_iload_n 3 dX1_choice_95 rfl ?_
      have hq := Option.some.inj h
      subst hq
      exact r_iret rfl dX1_choice_96
    · replace h := it_neg c1 h
      refine r_aload_n 0 dX1_choice_17 rfl ?_
      refine r_iload_n 2 dX1_choice_18 rfl ?_
      refine r_iload 5 dX1_choice_19 rfl ?_
      obtain ⟨q2, h2, h⟩ := bd_some h
      refine b_callV (isC := [0]) (ci := 1)  (st := []) (bs1 := [bFair K a0 z0_lasts z0_keeps z0_stalls z0_buyers z0_minute z0_goods z0_price z0_tongue z0_till z0_wealth z0_sold z0_ring z0_grudges z0_purse z0_came z0_had z0_seller z0_praise z0_borne]) (cFair_can (a0 := a0) (z0_lasts := z0_lasts) (z0_keeps := z0_keeps) (z0_stalls := z0_stalls) (z0_buyers := z0_buyers) (z0_minute := z0_minute) (z0_goods := z0_goods) (z0_price := z0_price) (z0_tongue := z0_tongue) (z0_till := z0_till) (z0_wealth := z0_wealth) (z0_sold := z0_sold) (z0_ring := z0_ring) (z0_grudges := z0_grudges) (z0_purse := z0_purse) (z0_came := z0_came) (z0_had := z0_had) (z0_seller := z0_seller) (z0_praise := z0_praise) (z0_borne := z0_borne) h2) rfl rfl (Nat.le_of_ble_eq_true rfl) kFair_can (tb_in (i := 4) (j := 15) rfl rfl) (by decide) (by decide) rfl rfl rfl rfl rfl rfl rfl dX1_choice_21 ?_
      refine r_if_ne 30 dX1_choice_24 (by decide) (fun c3 => ?_) (fun c3 => ?_)
      · replace h := it_neg c3 h
        refine r_aload_nN 1 dX1_choice_30 rfl ?_
        refine r_ifnull_nil 45 dX1_choice_31 (by decide) ?_
        refine r_iconst (x := (1 : Int32)) dX1_choice_45 (by decide) ?_
        refine r_aload_n 0 dX1_choice_46 rfl ?_
        refine gFair_praise 0 rfl (tb_in (i := 3) (j := 15) rfl rfl) dX1_choice_47 ?_
        refine r_iload 5 dX1_choice_50 rfl ?_
        obtain ⟨h4, h⟩ := rq_some h
        refine lFair_praise 0 rfl (inb_in h4) dX1_choice_52 ?_
        refine r_iadd dX1_choice_53 ?_
        refine r_aload_n 0 dX1_choice_54 rfl ?_
        refine gFair_came 0 rfl (tb_in (i := 3) (j := 12) rfl rfl) dX1_choice_55 ?_
        refine r_iload_n 2 dX1_choice_58 rfl ?_
        obtain ⟨h5, h⟩ := rq_some h
        refine lFair_came 0 rfl (inb_in h5) dX1_choice_59 ?_
        refine r_iload 5 dX1_choice_60 rfl ?_
        refine r_icmp_ne 69 dX1_choice_62 (by decide) (fun c6 => ?_) (fun c6 => ?_)
        · replace h := it_neg c6 h
          refine r_iconst (x := (0 : Int32)) dX1_choice_69 (by decide) ?_
          refine r_iadd dX1_choice_70 ?_
          refine r_i2l dX1_choice_71 ?_
          obtain ⟨y7, e7, h⟩ := lt_some h
          refine r_topl e7 ?_
          refine r_lstore (lv' := [(7, .long y7), (0, .ref (a0 0)), (1, .null), (2, .int x2), (3, .int x3), (4, .long x4), (6, .int x6)]) dX1_choice_72 (Nat.le_of_ble_eq_true rfl) rfl ?_
          refine r_lload 0 dX1_choice_74 rfl ?_
          refine r_lload 5 dX1_choice_76 rfl ?_
          refine r_lcmp dX1_choice_78 ?_
          refine r_if_le 89 dX1_choice_79 (by decide) (fun c8 => ?_) (fun c8 => ?_)
          · replace h := it_pos c8 h
            refine r_iinc (y := (x6 + (1 : Int32))) (lv' := [(6, .int (x6 + (1 : Int32))), (7, .long y7), (0, .ref (a0 0)), (1, .null), (2, .int x2), (3, .int x3), (4, .long x4)]) 6 dX1_choice_89 rfl rfl (Nat.le_of_ble_eq_true rfl) rfl ?_
            refine r_goto 8 dX1_choice_92 (by decide) ?_
            refine r_sub (lv' := [(0, .ref (a0 0)), (1, .null), (2, .int x2), (3, .int x3), (4, .long x4), (6, .int (x6 + (1 : Int32)))]) [2, 3, 4, 5, 6, 0] rfl ?_
            exact ih x3 x4 (x6 + (1 : Int32)) h
          · replace h := it_neg c8 h
            refine r_lload 0 dX1_choice_82 rfl ?_
            refine r_lstore (lv' := [(4, .long y7), (7, .long y7), (0, .ref (a0 0)), (1, .null), (2, .int x2), (3, .int x3), (6, .int x6)]) dX1_choice_84 (Nat.le_of_ble_eq_true rfl) rfl ?_
            refine r_iload 6 dX1_choice_86 rfl ?_
            refine r_istore_n (lv' := [(3, .int x6), (4, .long y7), (7, .long y7), (0, .ref (a0 0)), (1, .null), (2, .int x2), (6, .int x6)]) dX1_choice_88 (Nat.le_of_ble_eq_true rfl) rfl ?_
            refine r_iinc (y := (x6 + (1 : Int32))) (lv' := [(6, .int (x6 + (1 : Int32))), (3, .int x6), (4, .long y7), (7, .long y7), (0, .ref (a0 0)), (1, .null), (2, .int x2)]) 6 dX1_choice_89 rfl rfl (Nat.le_of_ble_eq_true rfl) rfl ?_
            refine r_goto 8 dX1_choice_92 (by decide) ?_
            refine r_sub (lv' := [(0, .ref (a0 0)), (1, .null), (2, .int x2), (3, .int x6), (4, .long y7), (6, .int (x6 + (1 : Int32)))]) [4, 5, 6, 1, 2, 0] rfl ?_
            exact ih x6 y7 (x6 + (1 : Int32)) h
        · replace h := it_pos c6 h
          refine r_iconst (x := (3 : Int32)) dX1_choice_65 (by decide) ?_
          refine r_goto 70 dX1_choice_66 (by decide) ?_
          refine r_iadd dX1_choice_70 ?_
          refine r_i2l dX1_choice_71 ?_
          obtain ⟨y9, e9, h⟩ := lt_some h
          refine r_topl e9 ?_
          refine r_lstore (lv' := [(7, .long y9), (0, .ref (a0 0)), (1, .null), (2, .int x2), (3, .int x3), (4, .long x4), (6, .int x6)]) dX1_choice_72 (Nat.le_of_ble_eq_true rfl) rfl ?_
          refine r_lload 0 dX1_choice_74 rfl ?_
          refine r_lload 5 dX1_choice_76 rfl ?_
          refine r_lcmp dX1_choice_78 ?_
          refine r_if_le 89 dX1_choice_79 (by decide) (fun c10 => ?_) (fun c10 => ?_)
          · replace h := it_pos c10 h
            refine r_iinc (y := (x6 + (1 : Int32))) (lv' := [(6, .int (x6 + (1 : Int32))), (7, .long y9), (0, .ref (a0 0)), (1, .null), (2, .int x2), (3, .int x3), (4, .long x4)]) 6 dX1_choice_89 rfl rfl (Nat.le_of_ble_eq_true rfl) rfl ?_
            refine r_goto 8 dX1_choice_92 (by decide) ?_
            refine r_sub (lv' := [(0, .ref (a0 0)), (1, .null), (2, .int x2), (3, .int x3), (4, .long x4), (6, .int (x6 + (1 : Int32)))]) [2, 3, 4, 5, 6, 0] rfl ?_
            exact ih x3 x4 (x6 + (1 : Int32)) h
          · replace h := it_neg c10 h
            refine r_lload 0 dX1_choice_82 rfl ?_
            refine r_lstore (lv' := [(4, .long y9), (7, .long y9), (0, .ref (a0 0)), (1, .null), (2, .int x2), (3, .int x3), (6, .int x6)]) dX1_choice_84 (Nat.le_of_ble_eq_true rfl) rfl ?_
            refine r_iload 6 dX1_choice_86 rfl ?_
            refine r_istore_n (lv' := [(3, .int x6), (4, .long y9), (7, .long y9), (0, .ref (a0 0)), (1, .null), (2, .int x2), (6, .int x6)]) dX1_choice_88 (Nat.le_of_ble_eq_true rfl) rfl ?_
            refine r_iinc (y := (x6 + (1 : Int32))) (lv' := [(6, .int (x6 + (1 : Int32))), (3, .int x6), (4, .long y9), (7, .long y9), (0, .ref (a0 0)), (1, .null), (2, .int x2)]) 6 dX1_choice_89 rfl rfl (Nat.le_of_ble_eq_true rfl) rfl ?_
            refine r_goto 8 dX1_choice_92 (by decide) ?_
            refine r_sub (lv' := [(0, .ref (a0 0)), (1, .null), (2, .int x2), (3, .int x6), (4, .long y9), (6, .int (x6 + (1 : Int32)))]) [4, 5, 6, 1, 2, 0] rfl ?_
            exact ih x6 y9 (x6 + (1 : Int32)) h
      · replace h := it_pos c3 h
        refine r_goto 89 dX1_choice_27 (by decide) ?_
        refine r_iinc (y := (x6 + (1 : Int32))) (lv' := [(6, .int (x6 + (1 : Int32))), (0, .ref (a0 0)), (1, .null), (2, .int x2), (3, .int x3), (4, .long x4)]) 5 dX1_choice_89 rfl rfl (Nat.le_of_ble_eq_true rfl) rfl ?_
        refine r_goto 8 dX1_choice_92 (by decide) ?_
        refine r_sub (lv' := [(0, .ref (a0 0)), (1, .null), (2, .int x2), (3, .int x3), (4, .long x4), (6, .int (x6 + (1 : Int32)))]) [1, 2, 3, 4, 5, 0] rfl ?_
        exact ih x3 x4 (x6 + (1 : Int32)) h
def mFair_choicen (x2 : Int32) (z0_stalls : Int32) (z0_goods : Nat → Int32) (z0_price : Nat → Int32) (z0_purse : Nat → Int32) (z0_came : Nat → Int32) (z0_praise : Nat → Int32) : Option (Int32) := mFair_choicen_l8 z0_stalls z0_goods z0_price z0_purse z0_came z0_praise x2 FU (-1 : Int32) (0 : Int64) (0 : Int32)
set_option maxHeartbeats 4000000 in
set_option maxRecDepth 20000 in
theorem cFair_choicen {q : Int32} {x2 : Int32} (h : mFair_choicen x2 z0_stalls z0_goods z0_price z0_purse z0_came z0_praise = some q) : rMet l D Z (ty7 K) MFair_choicen [.ref (a0 0), .null, .int x2] (List.flatten [bFair K a0 z0_lasts z0_keeps z0_stalls z0_buyers z0_minute z0_goods z0_price z0_tongue z0_till z0_wealth z0_sold z0_ring z0_grudges z0_purse z0_came z0_had z0_seller z0_praise z0_borne]) (List.flatten [bFair K a0 z0_lasts z0_keeps z0_stalls z0_buyers z0_minute z0_goods z0_price z0_tongue z0_till z0_wealth z0_sold z0_ring z0_grudges z0_purse z0_came z0_had z0_seller z0_praise z0_borne]) (some (.int q)) := by
  refine rMet.of (by decide) rfl (Nat.le_of_ble_eq_true rfl) ?_
  refine r_sub (lv' := [(0, .ref (a0 0)), (1, .null), (2, .int x2)]) [0, 1, 2] rfl ?_
  unfold mFair_choicen at h
  refine r_iconst (x := (-1 : Int32)) dX1_choice_0 (by decide) ?_
  refine r_istore_n (lv' := [(3, .int (-1 : Int32)), (0, .ref (a0 0)), (1, .null), (2, .int x2)]) dX1_choice_1 (Nat.le_of_ble_eq_true rfl) rfl ?_
  refine r_lconst (x := (0 : Int64)) dX1_choice_2 (by decide) ?_
  refine r_lstore (lv' := [(4, .long (0 : Int64)), (3, .int (-1 : Int32)), (0, .ref (a0 0)), (1, .null), (2, .int x2)]) dX1_choice_3 (Nat.le_of_ble_eq_true rfl) rfl ?_
  refine r_iconst (x := (0 : Int32)) dX1_choice_5 (by decide) ?_
  refine r_istore (lv' := [(6, .int (0 : Int32)), (4, .long (0 : Int64)), (3, .int (-1 : Int32)), (0, .ref (a0 0)), (1, .null), (2, .int x2)]) dX1_choice_6 (Nat.le_of_ble_eq_true rfl) rfl ?_
  refine r_sub (lv' := [(0, .ref (a0 0)), (1, .null), (2, .int x2), (3, .int (-1 : Int32)), (4, .long (0 : Int64)), (6, .int (0 : Int32))]) [3, 4, 5, 2, 1, 0] rfl ?_
  exact cFair_choicen_l8   FU (-1 : Int32) (0 : Int64) (0 : Int32) h
end
abbrev MFair_traden : rx_M := (RX1, yX1_trade, cX1_trade, 6, (some .int), 3)
theorem kFair_traden : rKv MFair_traden 2 := ⟨tb_in (i := 5) (j := 29) rfl rfl, tb_in (i := 5) (j := 30) rfl rfl, tb_in (i := 3) (j := 26) rfl rfl, tb_in (i := 5) (j := 18) rfl rfl, ⟨by decide, by decide, by decide +kernel⟩, by decide⟩
section
variable {a0 : Nat → Nat} {z0_lasts : Int32} {z0_keeps : Int32} {z0_stalls : Int32} {z0_buyers : Int32} {z0_minute : Int32} {z0_goods : Nat → Int32} {z0_price : Nat → Int32} {z0_tongue : Nat → Int32} {z0_till : Nat → Int32} {z0_wealth : Nat → Int32} {z0_sold : Nat → Int32} {z0_ring : Nat → Int32} {z0_grudges : Nat → Int32} {z0_purse : Nat → Int32} {z0_came : Nat → Int32} {z0_had : Nat → Int32} {z0_seller : Nat → Int32} {z0_praise : Nat → Int32} {z0_borne : Nat → Int32}
def mFair_traden_j31 (k5 : Int32 → Int32 → (Nat → Int32) → (Nat → Int32) → (Nat → Int32) → (Nat → Int32) → (Nat → Int32) → Option (Int32 × (Nat → Int32) × (Nat → Int32) × (Nat → Int32) × (Nat → Int32) × (Nat → Int32))) (x2 : Int32) (x3 : Int32) (x4 : Int32) (z0_stalls : Int32) (z0_buyers : Int32) (z0_goods : Nat → Int32) (z0_price : Nat → Int32) (z0_till : Nat → Int32) (z0_sold : Nat → Int32) (z0_purse : Nat → Int32) (z0_came : Nat → Int32) (z0_had : Nat → Int32) (z0_seller : Nat → Int32) (z0_praise : Nat → Int32) (s0 : Int32) : Option (Int32 × (Nat → Int32) × (Nat → Int32) × (Nat → Int32) × (Nat → Int32) × (Nat → Int32)) := (if s0 = (-1 : Int32) then k5 x3 (x4 + (1 : Int32)) z0_goods z0_till z0_sold z0_purse z0_had else rq (inb s0 6) (rq (inb s0 6) (lt (upd z0_goods s0.toNatClampNeg ((z0_goods s0.toNatClampNeg) - (1 : Int32))) (fun u6 => rq (inb s0 6) (rq (inb s0 6) (lt (upd z0_sold s0.toNatClampNeg ((z0_sold s0.toNatClampNeg) + (1 : Int32))) (fun u8 => lt ((x4 * (6 : Int32)) + s0) (fun y9 => rq (inb y9 36) (rq (inb y9 36) (lt (upd z0_had y9.toNatClampNeg ((z0_had y9.toNatClampNeg) + (1 : Int32))) (fun u11 => rq (inb x4 6) (rq (inb s0 6) (rq (inb x4 6) (lt (upd z0_purse x4.toNatClampNeg ((z0_purse x4.toNatClampNeg) - (z0_price s0.toNatClampNeg))) (fun u14 => rq (inb s0 6) (lt (z0_seller s0.toNatClampNeg) (fun y16 => rq (inb y16 6) (rq (inb s0 6) (rq (inb y16 6) (lt (upd z0_till y16.toNatClampNeg ((z0_till y16.toNatClampNeg) + (z0_price s0.toNatClampNeg))) (fun u19 => rq (inb s0 6) (lt (x3 + (z0_price s0.toNatClampNeg)) (fun y21 => k5 y21 (x4 + (1 : Int32)) u6 u19 u8 u14 u11)))))))))))))))))))))))
set_option maxHeartbeats 4000000 in
set_option maxRecDepth 20000 in
theorem cFair_traden_j31 {q : Int32 × (Nat → Int32) × (Nat → Int32) × (Nat → Int32) × (Nat → Int32) × (Nat → Int32)} {x2 : Int32} {x3 : Int32} {x4 : Int32} {s0 : Int32} {k5 : Int32 → Int32 → (Nat → Int32) → (Nat → Int32) → (Nat → Int32) → (Nat → Int32) → (Nat → Int32) → Option (Int32 × (Nat → Int32) × (Nat → Int32) × (Nat → Int32) × (Nat → Int32) × (Nat → Int32))} (hk5 : ∀ (x3 : Int32) (x4 : Int32) (z0_goods : Nat → Int32) (z0_till : Nat → Int32) (z0_sold : Nat → Int32) (z0_purse : Nat → Int32) (z0_had : Nat → Int32), k5 x3 x4 z0_goods z0_till z0_sold z0_purse z0_had = some q → rW l D Z (ty7 K) MFair_traden 5 [(0, .ref (a0 0)), (1, .null), (2, .int x2), (3, .int x3), (4, .int x4)] [] (List.flatten [bFair K a0 z0_lasts z0_keeps z0_stalls z0_buyers z0_minute z0_goods z0_price z0_tongue z0_till z0_wealth z0_sold z0_ring z0_grudges z0_purse z0_came z0_had z0_seller z0_praise z0_borne]) (List.flatten [bFair K a0 z0_lasts z0_keeps z0_stalls z0_buyers z0_minute q.2.1 z0_price z0_tongue q.2.2.1 z0_wealth q.2.2.2.1 z0_ring z0_grudges q.2.2.2.2.1 z0_came q.2.2.2.2.2 z0_seller z0_praise z0_borne]) (some (.int q.1))) (h : mFair_traden_j31 k5 x2 x3 x4 z0_stalls z0_buyers z0_goods z0_price z0_till z0_sold z0_purse z0_came z0_had z0_seller z0_praise s0 = some q) : rW l D Z (ty7 K) MFair_traden 31 [(0, .ref (a0 0)), (1, .null), (2, .int x2), (3, .int x3), (4, .int x4)] [.int s0] (List.flatten [bFair K a0 z0_lasts z0_keeps z0_stalls z0_buyers z0_minute z0_goods z0_price z0_tongue z0_till z0_wealth z0_sold z0_ring z0_grudges z0_purse z0_came z0_had z0_seller z0_praise z0_borne]) (List.flatten [bFair K a0 z0_lasts z0_keeps z0_stalls z0_buyers z0_minute q.2.1 z0_price z0_tongue q.2.2.1 z0_wealth q.2.2.2.1 z0_ring z0_grudges q.2.2.2.2.1 z0_came q.2.2.2.2.2 z0_seller z0_praise z0_borne]) (some (.int q.1)) := by
  unfold mFair_traden_j31 at h
  refine r_istore (lv' := [(5, .int s0), (0, .ref (a0 0)), (1, .null), (2, .int x2), (3, .int x3), (4, .int x4)]) dX1_trade_31 (Nat.le_of_ble_eq_true rfl) rfl ?_
  refine r_iload 0 dX1_trade_33 rfl ?_
  refine r_iconst (x := (-1 : Int32)) dX1_trade_35 (by decide) ?_
  refine r_icmp_ne 42 dX1_trade_36 (by decide) (fun c4 => ?_) (fun c4 => ?_)
  · replace h := it_neg c4 h
    refine r_aload_n 1 dX1_trade_42 rfl ?_
    refine gFair_goods 0 rfl (tb_in (i := 3) (j := 3) rfl rfl) dX1_trade_43 ?_
    refine r_iload 0 dX1_trade_46 rfl ?_
    refine r_dup2 dX1_trade_48 rfl rfl ?_
    obtain ⟨h5, h⟩ := rq_some h
    refine lFair_goods 0 rfl (inb_in h5) dX1_trade_49 ?_
    refine r_iconst (x := (1 : Int32)) dX1_trade_50 (by decide) ?_
    refine r_isub dX1_trade_51 ?_
    obtain ⟨h6, h⟩ := rq_some h
    obtain ⟨u6, e6, h⟩ := lt_some h
    refine sFair_goods (bs1 := [bFair K a0 z0_lasts z0_keeps z0_stalls z0_buyers z0_minute u6 z0_price z0_tongue z0_till z0_wealth z0_sold z0_ring z0_grudges z0_purse z0_came z0_had z0_seller z0_praise z0_borne]) 0 e6 rfl (inb_in h6) rfl dX1_trade_52 ?_
    refine r_aload_n 1 dX1_trade_53 rfl ?_
    refine gFair_sold 0 rfl (tb_in (i := 3) (j := 8) rfl rfl) dX1_trade_54 ?_
    refine r_iload 0 dX1_trade_57 rfl ?_
    refine r_dup2 dX1_trade_59 rfl rfl ?_
    obtain ⟨h7, h⟩ := rq_some h
    refine lFair_sold 0 rfl (inb_in h7) dX1_trade_60 ?_
    refine r_iconst (x := (1 : Int32)) dX1_trade_61 (by decide) ?_
    refine r_iadd dX1_trade_62 ?_
    obtain ⟨h8, h⟩ := rq_some h
    obtain ⟨u8, e8, h⟩ := lt_some h
    refine sFair_sold (bs1 := [bFair K a0 z0_lasts z0_keeps z0_stalls z0_buyers z0_minute u6 z0_price z0_tongue z0_till z0_wealth u8 z0_ring z0_grudges z0_purse z0_came z0_had z0_seller z0_praise z0_borne]) 0 e8 rfl (inb_in h8) rfl dX1_trade_63 ?_
    refine r_aload_n 1 dX1_trade_64 rfl ?_
    refine gFair_had 0 rfl (tb_in (i := 3) (j := 13) rfl rfl) dX1_trade_65 ?_
    refine r_iload 5 dX1_trade_68 rfl ?_
    refine r_bipush (x := (6 : Int32)) dX1_trade_70 (by decide) ?_
    refine r_imul dX1_trade_72 ?_
    refine r_iload 0 dX1_trade_73 rfl ?_
    refine r_iadd dX1_trade_75 ?_
    obtain ⟨y9, e9, h⟩ := lt_some h
    refine r_top e9 ?_
    refine r_dup2 dX1_trade_76 rfl rfl ?_
    obtain ⟨h10, h⟩ := rq_some h
    refine lFair_had 0 rfl (inb_in h10) dX1_trade_77 ?_
    refine r_iconst (x := (1 : Int32)) dX1_trade_78 (by decide) ?_
    refine r_iadd dX1_trade_79 ?_
    obtain ⟨h11, h⟩ := rq_some h
    obtain ⟨u11, e11, h⟩ := lt_some h
    refine sFair_had (bs1 := [bFair K a0 z0_lasts z0_keeps z0_stalls z0_buyers z0_minute u6 z0_price z0_tongue z0_till z0_wealth u8 z0_ring z0_grudges z0_purse z0_came u11 z0_seller z0_praise z0_borne]) 0 e11 rfl (inb_in h11) rfl dX1_trade_80 ?_
    refine r_aload_n 1 dX1_trade_81 rfl ?_
    refine gFair_purse 0 rfl (tb_in (i := 3) (j := 11) rfl rfl) dX1_trade_82 ?_
    refine r_iload 5 dX1_trade_85 rfl ?_
    refine r_dup2 dX1_trade_87 rfl rfl ?_
    obtain ⟨h12, h⟩ := rq_some h
    refine lFair_purse 0 rfl (inb_in h12) dX1_trade_88 ?_
    refine r_aload_n 1 dX1_trade_89 rfl ?_
    refine gFair_price 0 rfl (tb_in (i := 3) (j := 4) rfl rfl) dX1_trade_90 ?_
    refine r_iload 0 dX1_trade_93 rfl ?_
    obtain ⟨h13, h⟩ := rq_some h
    refine lFair_price 0 rfl (inb_in h13) dX1_trade_95 ?_
    refine r_isub dX1_trade_96 ?_
    obtain ⟨h14, h⟩ := rq_some h
    obtain ⟨u14, e14, h⟩ := lt_some h
    refine sFair_purse (bs1 := [bFair K a0 z0_lasts z0_keeps z0_stalls z0_buyers z0_minute u6 z0_price z0_tongue z0_till z0_wealth u8 z0_ring z0_grudges u14 z0_came u11 z0_seller z0_praise z0_borne]) 0 e14 rfl (inb_in h14) rfl dX1_trade_97 ?_
    refine r_aload_n 1 dX1_trade_98 rfl ?_
    refine gFair_till 0 rfl (tb_in (i := 3) (j := 6) rfl rfl) dX1_trade_99 ?_
    refine r_aload_n 1 dX1_trade_102 rfl ?_
    refine gFair_seller 0 rfl (tb_in (i := 3) (j := 14) rfl rfl) dX1_trade_103 ?_
    refine r_iload 0 dX1_trade_106 rfl ?_
    obtain ⟨h15, h⟩ := rq_some h
    refine lFair_seller 0 rfl (inb_in h15) dX1_trade_108 ?_
    obtain ⟨y16, e16, h⟩ := lt_some h
    refine r_top e16 ?_
    refine r_dup2 dX1_trade_109 rfl rfl ?_
    obtain ⟨h17, h⟩ := rq_some h
    refine lFair_till 0 rfl (inb_in h17) dX1_trade_110 ?_
    refine r_aload_n 1 dX1_trade_111 rfl ?_
    refine gFair_price 0 rfl (tb_in (i := 3) (j := 4) rfl rfl) dX1_trade_112 ?_
    refine r_iload 0 dX1_trade_115 rfl ?_
    obtain ⟨h18, h⟩ := rq_some h
    refine lFair_price 0 rfl (inb_in h18) dX1_trade_117 ?_
    refine r_iadd dX1_trade_118 ?_
    obtain ⟨h19, h⟩ := rq_some h
    obtain ⟨u19, e19, h⟩ := lt_some h
    refine sFair_till (bs1 := [bFair K a0 z0_lasts z0_keeps z0_stalls z0_buyers z0_minute u6 z0_price z0_tongue u19 z0_wealth u8 z0_ring z0_grudges u14 z0_came u11 z0_seller z0_praise z0_borne]) 0 e19 rfl (inb_in h19) rfl dX1_trade_119 ?_
    refine r_iload_n 4 dX1_trade_120 rfl ?_
    refine r_aload_n 1 dX1_trade_121 rfl ?_
    refine gFair_price 0 rfl (tb_in (i := 3) (j := 4) rfl rfl) dX1_trade_122 ?_
    refine r_iload 0 dX1_trade_125 rfl ?_
    obtain ⟨h20, h⟩ := rq_some h
    refine lFair_price 0 rfl (inb_in h20) dX1_trade_127 ?_
    refine r_iadd dX1_trade_128 ?_
    obtain ⟨y21, e21, h⟩ := lt_some h
    refine r_top e21 ?_
    refine r_istore_n (lv' := [(3, .int y21), (5, .int s0), (0, .ref (a0 0)), (1, .null), (2, .int x2), (4, .int x4)]) dX1_trade_129 (Nat.le_of_ble_eq_true rfl) rfl ?_
    refine r_iinc (y := (x4 + (1 : Int32))) (lv' := [(4, .int (x4 + (1 : Int32))), (3, .int y21), (5, .int s0), (0, .ref (a0 0)), (1, .null), (2, .int x2)]) 5 dX1_trade_130 rfl rfl (Nat.le_of_ble_eq_true rfl) rfl ?_
    refine r_goto 5 dX1_trade_133 (by decide) ?_
    refine r_sub (lv' := [(0, .ref (a0 0)), (1, .null), (2, .int x2), (3, .int y21), (4, .int (x4 + (1 : Int32)))]) [3, 4, 5, 1, 0] rfl ?_
    exact hk5 y21 (x4 + (1 : Int32)) u6 u19 u8 u14 u11 h
  · replace h := it_pos c4 h
    refine r_goto 130 dX1_trade_39 (by decide) ?_
    refine r_iinc (y := (x4 + (1 : Int32))) (lv' := [(4, .int (x4 + (1 : Int32))), (5, .int s0), (0, .ref (a0 0)), (1, .null), (2, .int x2), (3, .int x3)]) 5 dX1_trade_130 rfl rfl (Nat.le_of_ble_eq_true rfl) rfl ?_
    refine r_goto 5 dX1_trade_133 (by decide) ?_
    refine r_sub (lv' := [(0, .ref (a0 0)), (1, .null), (2, .int x2), (3, .int x3), (4, .int (x4 + (1 : Int32)))]) [2, 3, 4, 5, 0] rfl ?_
    exact hk5 x3 (x4 + (1 : Int32)) z0_goods z0_till z0_sold z0_purse z0_had h
def mFair_traden_l5 (z0_stalls : Int32) (z0_buyers : Int32) (z0_price : Nat → Int32) (z0_came : Nat → Int32) (z0_seller : Nat → Int32) (z0_praise : Nat → Int32) (x2 : Int32) : Nat → Int32 → Int32 → (Nat → Int32) → (Nat → Int32) → (Nat → Int32) → (Nat → Int32) → (Nat → Int32) → Option (Int32 × (Nat → Int32) × (Nat → Int32) × (Nat → Int32) × (Nat → Int32) × (Nat → Int32))
  | 0, _, _, _, _, _, _, _ => none
  | n + 1, x3, x4, z0_goods, z0_till, z0_sold, z0_purse, z0_had => (if z0_buyers ≤ x4 then some (x3, z0_goods, z0_till, z0_sold, z0_purse, z0_had) else (if x4 = x2 then mFair_traden_j31 (mFair_traden_l5 z0_stalls z0_buyers z0_price z0_came z0_seller z0_praise x2 n) x2 x3 x4 z0_stalls z0_buyers z0_goods z0_price z0_till z0_sold z0_purse z0_came z0_had z0_seller z0_praise (-1 : Int32) else (mFair_choicen x4 z0_stalls z0_goods z0_price z0_purse z0_came z0_praise).bind (fun q3 => mFair_traden_j31 (mFair_traden_l5 z0_stalls z0_buyers z0_price z0_came z0_seller z0_praise x2 n) x2 x3 x4 z0_stalls z0_buyers z0_goods z0_price z0_till z0_sold z0_purse z0_came z0_had z0_seller z0_praise q3)))
set_option maxHeartbeats 4000000 in
set_option maxRecDepth 20000 in
theorem cFair_traden_l5 {q : Int32 × (Nat → Int32) × (Nat → Int32) × (Nat → Int32) × (Nat → Int32) × (Nat → Int32)} {x2 : Int32}  : ∀ (n : Nat) (x3 : Int32) (x4 : Int32) (z0_goods : Nat → Int32) (z0_till : Nat → Int32) (z0_sold : Nat → Int32) (z0_purse : Nat → Int32) (z0_had : Nat → Int32), mFair_traden_l5 z0_stalls z0_buyers z0_price z0_came z0_seller z0_praise x2 n x3 x4 z0_goods z0_till z0_sold z0_purse z0_had = some q → rW l D Z (ty7 K) MFair_traden 5 [(0, .ref (a0 0)), (1, .null), (2, .int x2), (3, .int x3), (4, .int x4)] [] (List.flatten [bFair K a0 z0_lasts z0_keeps z0_stalls z0_buyers z0_minute z0_goods z0_price z0_tongue z0_till z0_wealth z0_sold z0_ring z0_grudges z0_purse z0_came z0_had z0_seller z0_praise z0_borne]) (List.flatten [bFair K a0 z0_lasts z0_keeps z0_stalls z0_buyers z0_minute q.2.1 z0_price z0_tongue q.2.2.1 z0_wealth q.2.2.2.1 z0_ring z0_grudges q.2.2.2.2.1 z0_came q.2.2.2.2.2 z0_seller z0_praise z0_borne]) (some (.int q.1)) := by
  intro n
  induction n with
  | zero => intro x3 x4 z0_goods z0_till z0_sold z0_purse z0_had h; unfold mFair_traden_l5 at h; cases h
  | succ n ih =>
    intro x3 x4 z0_goods z0_till z0_sold z0_purse z0_had h
    unfold mFair_traden_l5 at h
    refine r_iload 4 dX1_trade_5 rfl ?_
    refine r_aload_n 0 dX1_trade_7 rfl ?_
    refine gFair_buyers 0 rfl (tb_in (i := 3) (j := 0) rfl rfl) dX1_trade_8 ?_
    refine r_icmp_ge 136 dX1_trade_11 (by decide) (fun c1 => ?_) (fun c1 => ?_)
    · replace h := it_pos c1 h
      refine r_iload_n 3 dX1_trade_136 rfl ?_
      have hq := Option.some.inj h
      subst hq
      exact r_iret rfl dX1_trade_137
    · replace h := it_neg c1 h
      refine r_iload 4 dX1_trade_14 rfl ?_
      refine r_iload_n 2 dX1_trade_16 rfl ?_
      refine r_icmp_ne 24 dX1_trade_17 (by decide) (fun c2 => ?_) (fun c2 => ?_)
      · replace h := it_neg c2 h
        refine r_aload_n 0 dX1_trade_24 rfl ?_
        refine r_aload_nN 1 dX1_trade_25 rfl ?_
        refine r_iload 4 dX1_trade_26 rfl ?_
        obtain ⟨q3, h3, h⟩ := bd_some h
        refine b_callV (isC := [0]) (ci := 1)  (st := []) (bs1 := [bFair K a0 z0_lasts z0_keeps z0_stalls z0_buyers z0_minute z0_goods z0_price z0_tongue z0_till z0_wealth z0_sold z0_ring z0_grudges z0_purse z0_came z0_had z0_seller z0_praise z0_borne]) (cFair_choicen (a0 := a0) (z0_lasts := z0_lasts) (z0_keeps := z0_keeps) (z0_stalls := z0_stalls) (z0_buyers := z0_buyers) (z0_minute := z0_minute) (z0_goods := z0_goods) (z0_price := z0_price) (z0_tongue := z0_tongue) (z0_till := z0_till) (z0_wealth := z0_wealth) (z0_sold := z0_sold) (z0_ring := z0_ring) (z0_grudges := z0_grudges) (z0_purse := z0_purse) (z0_came := z0_came) (z0_had := z0_had) (z0_seller := z0_seller) (z0_praise := z0_praise) (z0_borne := z0_borne) h3) rfl rfl (Nat.le_of_ble_eq_true rfl) kFair_choicen (tb_in (i := 5) (j := 15) rfl rfl) (by decide) (by decide) rfl rfl rfl rfl rfl rfl rfl dX1_trade_28 ?_
        exact cFair_traden_j31  (ih) h
      · replace h := it_pos c2 h
        refine r_iconst (x := (-1 : Int32)) dX1_trade_20 (by decide) ?_
        refine r_goto 31 dX1_trade_21 (by decide) ?_
        exact cFair_traden_j31  (ih) h
def mFair_traden (x2 : Int32) (z0_stalls : Int32) (z0_buyers : Int32) (z0_goods : Nat → Int32) (z0_price : Nat → Int32) (z0_till : Nat → Int32) (z0_sold : Nat → Int32) (z0_purse : Nat → Int32) (z0_came : Nat → Int32) (z0_had : Nat → Int32) (z0_seller : Nat → Int32) (z0_praise : Nat → Int32) : Option (Int32 × (Nat → Int32) × (Nat → Int32) × (Nat → Int32) × (Nat → Int32) × (Nat → Int32)) := mFair_traden_l5 z0_stalls z0_buyers z0_price z0_came z0_seller z0_praise x2 FU (0 : Int32) (0 : Int32) z0_goods z0_till z0_sold z0_purse z0_had
set_option maxHeartbeats 4000000 in
set_option maxRecDepth 20000 in
theorem cFair_traden {q : Int32 × (Nat → Int32) × (Nat → Int32) × (Nat → Int32) × (Nat → Int32) × (Nat → Int32)} {x2 : Int32} (h : mFair_traden x2 z0_stalls z0_buyers z0_goods z0_price z0_till z0_sold z0_purse z0_came z0_had z0_seller z0_praise = some q) : rMet l D Z (ty7 K) MFair_traden [.ref (a0 0), .null, .int x2] (List.flatten [bFair K a0 z0_lasts z0_keeps z0_stalls z0_buyers z0_minute z0_goods z0_price z0_tongue z0_till z0_wealth z0_sold z0_ring z0_grudges z0_purse z0_came z0_had z0_seller z0_praise z0_borne]) (List.flatten [bFair K a0 z0_lasts z0_keeps z0_stalls z0_buyers z0_minute q.2.1 z0_price z0_tongue q.2.2.1 z0_wealth q.2.2.2.1 z0_ring z0_grudges q.2.2.2.2.1 z0_came q.2.2.2.2.2 z0_seller z0_praise z0_borne]) (some (.int q.1)) := by
  refine rMet.of (by decide) rfl (Nat.le_of_ble_eq_true rfl) ?_
  refine r_sub (lv' := [(0, .ref (a0 0)), (1, .null), (2, .int x2)]) [0, 1, 2] rfl ?_
  unfold mFair_traden at h
  refine r_iconst (x := (0 : Int32)) dX1_trade_0 (by decide) ?_
  refine r_istore_n (lv' := [(3, .int (0 : Int32)), (0, .ref (a0 0)), (1, .null), (2, .int x2)]) dX1_trade_1 (Nat.le_of_ble_eq_true rfl) rfl ?_
  refine r_iconst (x := (0 : Int32)) dX1_trade_2 (by decide) ?_
  refine r_istore (lv' := [(4, .int (0 : Int32)), (3, .int (0 : Int32)), (0, .ref (a0 0)), (1, .null), (2, .int x2)]) dX1_trade_3 (Nat.le_of_ble_eq_true rfl) rfl ?_
  refine r_sub (lv' := [(0, .ref (a0 0)), (1, .null), (2, .int x2), (3, .int (0 : Int32)), (4, .int (0 : Int32))]) [2, 3, 4, 1, 0] rfl ?_
  exact cFair_traden_l5   FU (0 : Int32) (0 : Int32) z0_goods z0_till z0_sold z0_purse z0_had h
end
end PC1
