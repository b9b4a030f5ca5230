section PC1
variable {l : Launch} {D : va_G} {Z : (Nat → Nat) × (Nat → Nat)} {K : Nat → ClassId}
theorem dX6_work_0 : decode cX6_work 0 = .ok (.iconst 0, 1) := by decide +kernel
theorem dX6_work_1 : decode cX6_work 1 = .ok (.istore_n 3, 1) := by decide +kernel
theorem dX6_work_2 : decode cX6_work 2 = .ok (.iload_n 1, 1) := by decide +kernel
theorem dX6_work_3 : decode cX6_work 3 = .ok (.istore 4, 2) := by decide +kernel
theorem dX6_work_5 : decode cX6_work 5 = .ok (.iload 4, 2) := by decide +kernel
theorem dX6_work_7 : decode cX6_work 7 = .ok (.iload_n 2, 1) := by decide +kernel
theorem dX6_work_8 : decode cX6_work 8 = .ok (.if_icmp .ge 342, 3) := by decide +kernel
theorem dX6_work_11 : decode cX6_work 11 = .ok (.iload 4, 2) := by decide +kernel
theorem dX6_work_13 : decode cX6_work 13 = .ok (.aload_n 0, 1) := by decide +kernel
theorem dX6_work_14 : decode cX6_work 14 = .ok (.getfield 15, 3) := by decide +kernel
theorem dX6_work_17 : decode cX6_work 17 = .ok (.if_icmp .ge 333, 3) := by decide +kernel
theorem dX6_work_20 : decode cX6_work 20 = .ok (.aload_n 0, 1) := by decide +kernel
theorem dX6_work_21 : decode cX6_work 21 = .ok (.getfield 9, 3) := by decide +kernel
theorem dX6_work_24 : decode cX6_work 24 = .ok (.iload 4, 2) := by decide +kernel
theorem dX6_work_26 : decode cX6_work 26 = .ok (.iaload, 1) := by decide +kernel
theorem dX6_work_27 : decode cX6_work 27 = .ok (.bipush 15, 2) := by decide +kernel
theorem dX6_work_29 : decode cX6_work 29 = .ok (.iand, 1) := by decide +kernel
theorem dX6_work_30 : decode cX6_work 30 = .ok (.istore 5, 2) := by decide +kernel
theorem dX6_work_32 : decode cX6_work 32 = .ok (.aload_n 0, 1) := by decide +kernel
theorem dX6_work_33 : decode cX6_work 33 = .ok (.getfield 9, 3) := by decide +kernel
theorem dX6_work_36 : decode cX6_work 36 = .ok (.iload 4, 2) := by decide +kernel
theorem dX6_work_38 : decode cX6_work 38 = .ok (.iaload, 1) := by decide +kernel
theorem dX6_work_39 : decode cX6_work 39 = .ok (.iconst 4, 1) := by decide +kernel
theorem dX6_work_40 : decode cX6_work 40 = .ok (.ishr, 1) := by decide +kernel
theorem dX6_work_41 : decode cX6_work 41 = .ok (.istore 6, 2) := by decide +kernel
theorem dX6_work_43 : decode cX6_work 43 = .ok (.iload 5, 2) := by decide +kernel
theorem dX6_work_45 : decode cX6_work 45 = .ok (.ifCond .eq 9, 3) := by decide +kernel
theorem dX6_work_48 : decode cX6_work 48 = .ok (.iload 5, 2) := by decide +kernel
theorem dX6_work_50 : decode cX6_work 50 = .ok (.iconst 1, 1) := by decide +kernel
theorem dX6_work_51 : decode cX6_work 51 = .ok (.if_icmp .ne 57, 3) := by decide +kernel
theorem dX6_work_54 : decode cX6_work 54 = .ok (.iload_n 3, 1) := by decide +kernel
theorem dX6_work_55 : decode cX6_work 55 = .ok (.aload_n 0, 1) := by decide +kernel
theorem dX6_work_56 : decode cX6_work 56 = .ok (.getfield 44, 3) := by decide +kernel
theorem dX6_work_59 : decode cX6_work 59 = .ok (.arraylength, 1) := by decide +kernel
theorem dX6_work_60 : decode cX6_work 60 = .ok (.if_icmp .ge 16, 3) := by decide +kernel
theorem dX6_work_63 : decode cX6_work 63 = .ok (.iload 5, 2) := by decide +kernel
theorem dX6_work_65 : decode cX6_work 65 = .ok (.iconst 1, 1) := by decide +kernel
theorem dX6_work_66 : decode cX6_work 66 = .ok (.if_icmp .ne 12, 3) := by decide +kernel
theorem dX6_work_69 : decode cX6_work 69 = .ok (.iload 6, 2) := by decide +kernel
theorem dX6_work_71 : decode cX6_work 71 = .ok (.bipush 12, 2) := by decide +kernel
theorem dX6_work_73 : decode cX6_work 73 = .ok (.if_icmp .lt 5, 3) := by decide +kernel
theorem dX6_work_76 : decode cX6_work 76 = .ok (.lconst 0, 1) := by decide +kernel
theorem dX6_work_77 : decode cX6_work 77 = .ok (.lreturn, 1) := by decide +kernel
theorem dX6_work_78 : decode cX6_work 78 = .ok (.aload_n 0, 1) := by decide +kernel
theorem dX6_work_79 : decode cX6_work 79 = .ok (.getfield 44, 3) := by decide +kernel
theorem dX6_work_82 : decode cX6_work 82 = .ok (.iload_n 3, 1) := by decide +kernel
theorem dX6_work_83 : decode cX6_work 83 = .ok (.iload 5, 2) := by decide +kernel
theorem dX6_work_85 : decode cX6_work 85 = .ok (.ifCond .ne 9, 3) := by decide +kernel
theorem dX6_work_88 : decode cX6_work 88 = .ok (.iload 6, 2) := by decide +kernel
theorem dX6_work_90 : decode cX6_work 90 = .ok (.i2l, 1) := by decide +kernel
theorem dX6_work_91 : decode cX6_work 91 = .ok (.goto 10, 3) := by decide +kernel
theorem dX6_work_94 : decode cX6_work 94 = .ok (.aload_n 0, 1) := by decide +kernel
theorem dX6_work_95 : decode cX6_work 95 = .ok (.getfield 40, 3) := by decide +kernel
theorem dX6_work_98 : decode cX6_work 98 = .ok (.iload 6, 2) := by decide +kernel
theorem dX6_work_100 : decode cX6_work 100 = .ok (.laload, 1) := by decide +kernel
theorem dX6_work_101 : decode cX6_work 101 = .ok (.lastore, 1) := by decide +kernel
theorem dX6_work_102 : decode cX6_work 102 = .ok (.iinc 3 1, 3) := by decide +kernel
theorem dX6_work_105 : decode cX6_work 105 = .ok (.goto 239, 3) := by decide +kernel
theorem dX6_work_108 : decode cX6_work 108 = .ok (.iload 5, 2) := by decide +kernel
theorem dX6_work_110 : decode cX6_work 110 = .ok (.iconst 2, 1) := by decide +kernel
theorem dX6_work_111 : decode cX6_work 111 = .ok (.if_icmp .eq 6, 3) := by decide +kernel
theorem dX6_work_114 : decode cX6_work 114 = .ok (.iinc 3 (-1), 3) := by decide +kernel
theorem dX6_work_117 : decode cX6_work 117 = .ok (.iload_n 3, 1) := by decide +kernel
theorem dX6_work_118 : decode cX6_work 118 = .ok (.iconst 1, 1) := by decide +kernel
theorem dX6_work_119 : decode cX6_work 119 = .ok (.if_icmp .lt 12, 3) := by decide +kernel
theorem dX6_work_122 : decode cX6_work 122 = .ok (.iload_n 3, 1) := by decide +kernel
theorem dX6_work_123 : decode cX6_work 123 = .ok (.aload_n 0, 1) := by decide +kernel
theorem dX6_work_124 : decode cX6_work 124 = .ok (.getfield 44, 3) := by decide +kernel
theorem dX6_work_127 : decode cX6_work 127 = .ok (.arraylength, 1) := by decide +kernel
theorem dX6_work_128 : decode cX6_work 128 = .ok (.if_icmp .lt 5, 3) := by decide +kernel
theorem dX6_work_131 : decode cX6_work 131 = .ok (.lconst 0, 1) := by decide +kernel
theorem dX6_work_132 : decode cX6_work 132 = .ok (.lreturn, 1) := by decide +kernel
theorem dX6_work_133 : decode cX6_work 133 = .ok (.aload_n 0, 1) := by decide +kernel
theorem dX6_work_134 : decode cX6_work 134 = .ok (.getfield 44, 3) := by decide +kernel
theorem dX6_work_137 : decode cX6_work 137 = .ok (.iload_n 3, 1) := by decide +kernel
theorem dX6_work_138 : decode cX6_work 138 = .ok (.iconst 1, 1) := by decide +kernel
theorem dX6_work_139 : decode cX6_work 139 = .ok (.isub, 1) := by decide +kernel
theorem dX6_work_140 : decode cX6_work 140 = .ok (.laload, 1) := by decide +kernel
theorem dX6_work_141 : decode cX6_work 141 = .ok (.lstore 7, 2) := by decide +kernel
theorem dX6_work_143 : decode cX6_work 143 = .ok (.aload_n 0, 1) := by decide +kernel
theorem dX6_work_144 : decode cX6_work 144 = .ok (.getfield 44, 3) := by decide +kernel
theorem dX6_work_147 : decode cX6_work 147 = .ok (.iload_n 3, 1) := by decide +kernel
theorem dX6_work_148 : decode cX6_work 148 = .ok (.laload, 1) := by decide +kernel
theorem dX6_work_149 : decode cX6_work 149 = .ok (.lstore 9, 2) := by decide +kernel
theorem dX6_work_151 : decode cX6_work 151 = .ok (.iload 5, 2) := by decide +kernel
theorem dX6_work_153 : decode cX6_work 153 = .ok (.tableswitch 148 2 9 #[47, 56, 66, 76, 86, 96, 106, 127], 47) := by decide +kernel
theorem dX6_work_200 : decode cX6_work 200 = .ok (.lconst 1, 1) := by decide +kernel
theorem dX6_work_201 : decode cX6_work 201 = .ok (.lload 7, 2) := by decide +kernel
theorem dX6_work_203 : decode cX6_work 203 = .ok (.lsub, 1) := by decide +kernel
theorem dX6_work_204 : decode cX6_work 204 = .ok (.lstore 7, 2) := by decide +kernel
theorem dX6_work_206 : decode cX6_work 206 = .ok (.goto 128, 3) := by decide +kernel
theorem dX6_work_209 : decode cX6_work 209 = .ok (.lload 7, 2) := by decide +kernel
theorem dX6_work_211 : decode cX6_work 211 = .ok (.lload 9, 2) := by decide +kernel
theorem dX6_work_213 : decode cX6_work 213 = .ok (.land, 1) := by decide +kernel
theorem dX6_work_214 : decode cX6_work 214 = .ok (.lstore 7, 2) := by decide +kernel
theorem dX6_work_216 : decode cX6_work 216 = .ok (.goto 118, 3) := by decide +kernel
theorem dX6_work_219 : decode cX6_work 219 = .ok (.lload 7, 2) := by decide +kernel
theorem dX6_work_221 : decode cX6_work 221 = .ok (.lload 9, 2) := by decide +kernel
theorem dX6_work_223 : decode cX6_work 223 = .ok (.lor, 1) := by decide +kernel
theorem dX6_work_224 : decode cX6_work 224 = .ok (.lstore 7, 2) := by decide +kernel
theorem dX6_work_226 : decode cX6_work 226 = .ok (.goto 108, 3) := by decide +kernel
theorem dX6_work_229 : decode cX6_work 229 = .ok (.lload 7, 2) := by decide +kernel
theorem dX6_work_231 : decode cX6_work 231 = .ok (.lload 9, 2) := by decide +kernel
theorem dX6_work_233 : decode cX6_work 233 = .ok (.ladd, 1) := by decide +kernel
theorem dX6_work_234 : decode cX6_work 234 = .ok (.lstore 7, 2) := by decide +kernel
theorem dX6_work_236 : decode cX6_work 236 = .ok (.goto 98, 3) := by decide +kernel
theorem dX6_work_239 : decode cX6_work 239 = .ok (.lload 7, 2) := by decide +kernel
theorem dX6_work_241 : decode cX6_work 241 = .ok (.lload 9, 2) := by decide +kernel
theorem dX6_work_243 : decode cX6_work 243 = .ok (.lsub, 1) := by decide +kernel
theorem dX6_work_244 : decode cX6_work 244 = .ok (.lstore 7, 2) := by decide +kernel
theorem dX6_work_246 : decode cX6_work 246 = .ok (.goto 88, 3) := by decide +kernel
theorem dX6_work_249 : decode cX6_work 249 = .ok (.lload 7, 2) := by decide +kernel
theorem dX6_work_251 : decode cX6_work 251 = .ok (.lload 9, 2) := by decide +kernel
theorem dX6_work_253 : decode cX6_work 253 = .ok (.lmul, 1) := by decide +kernel
theorem dX6_work_254 : decode cX6_work 254 = .ok (.lstore 7, 2) := by decide +kernel
theorem dX6_work_256 : decode cX6_work 256 = .ok (.goto 78, 3) := by decide +kernel
theorem dX6_work_259 : decode cX6_work 259 = .ok (.lload 9, 2) := by decide +kernel
theorem dX6_work_261 : decode cX6_work 261 = .ok (.lconst 0, 1) := by decide +kernel
theorem dX6_work_262 : decode cX6_work 262 = .ok (.lcmp, 1) := by decide +kernel
theorem dX6_work_263 : decode cX6_work 263 = .ok (.ifCond .ne 7, 3) := by decide +kernel
theorem dX6_work_266 : decode cX6_work 266 = .ok (.lconst 0, 1) := by decide +kernel
theorem dX6_work_267 : decode cX6_work 267 = .ok (.goto 8, 3) := by decide +kernel
theorem dX6_work_270 : decode cX6_work 270 = .ok (.lload 7, 2) := by decide +kernel
theorem dX6_work_272 : decode cX6_work 272 = .ok (.lload 9, 2) := by decide +kernel
theorem dX6_work_274 : decode cX6_work 274 = .ok (.ldiv, 1) := by decide +kernel
theorem dX6_work_275 : decode cX6_work 275 = .ok (.lstore 7, 2) := by decide +kernel
theorem dX6_work_277 : decode cX6_work 277 = .ok (.goto 57, 3) := by decide +kernel
theorem dX6_work_280 : decode cX6_work 280 = .ok (.lload 9, 2) := by decide +kernel
theorem dX6_work_282 : decode cX6_work 282 = .ok (.lconst 0, 1) := by decide +kernel
theorem dX6_work_283 : decode cX6_work 283 = .ok (.lcmp, 1) := by decide +kernel
theorem dX6_work_284 : decode cX6_work 284 = .ok (.ifCond .ne 7, 3) := by decide +kernel
theorem dX6_work_287 : decode cX6_work 287 = .ok (.lconst 0, 1) := by decide +kernel
theorem dX6_work_288 : decode cX6_work 288 = .ok (.goto 8, 3) := by decide +kernel
theorem dX6_work_291 : decode cX6_work 291 = .ok (.lload 7, 2) := by decide +kernel
theorem dX6_work_293 : decode cX6_work 293 = .ok (.lload 9, 2) := by decide +kernel
theorem dX6_work_295 : decode cX6_work 295 = .ok (.lrem, 1) := by decide +kernel
theorem dX6_work_296 : decode cX6_work 296 = .ok (.lstore 7, 2) := by decide +kernel
theorem dX6_work_298 : decode cX6_work 298 = .ok (.goto 36, 3) := by decide +kernel
theorem dX6_work_301 : decode cX6_work 301 = .ok (.iload 6, 2) := by decide +kernel
theorem dX6_work_303 : decode cX6_work 303 = .ok (.lload 7, 2) := by decide +kernel
theorem dX6_work_305 : decode cX6_work 305 = .ok (.lload 9, 2) := by decide +kernel
theorem dX6_work_307 : decode cX6_work 307 = .ok (.lcmp, 1) := by decide +kernel
theorem dX6_work_308 : decode cX6_work 308 = .ok (.ifCond .ge 7, 3) := by decide +kernel
theorem dX6_work_311 : decode cX6_work 311 = .ok (.iconst 0, 1) := by decide +kernel
theorem dX6_work_312 : decode cX6_work 312 = .ok (.goto 16, 3) := by decide +kernel
theorem dX6_work_315 : decode cX6_work 315 = .ok (.lload 7, 2) := by decide +kernel
theorem dX6_work_317 : decode cX6_work 317 = .ok (.lload 9, 2) := by decide +kernel
theorem dX6_work_319 : decode cX6_work 319 = .ok (.lcmp, 1) := by decide +kernel
theorem dX6_work_320 : decode cX6_work 320 = .ok (.ifCond .ne 7, 3) := by decide +kernel
theorem dX6_work_323 : decode cX6_work 323 = .ok (.iconst 1, 1) := by decide +kernel
theorem dX6_work_324 : decode cX6_work 324 = .ok (.goto 4, 3) := by decide +kernel
theorem dX6_work_327 : decode cX6_work 327 = .ok (.iconst 2, 1) := by decide +kernel
theorem dX6_work_328 : decode cX6_work 328 = .ok (.ishr, 1) := by decide +kernel
theorem dX6_work_329 : decode cX6_work 329 = .ok (.iconst 1, 1) := by decide +kernel
theorem dX6_work_330 : decode cX6_work 330 = .ok (.iand, 1) := by decide +kernel
theorem dX6_work_331 : decode cX6_work 331 = .ok (.i2l, 1) := by decide +kernel
theorem dX6_work_332 : decode cX6_work 332 = .ok (.lstore 7, 2) := by decide +kernel
theorem dX6_work_334 : decode cX6_work 334 = .ok (.aload_n 0, 1) := by decide +kernel
theorem dX6_work_335 : decode cX6_work 335 = .ok (.getfield 44, 3) := by decide +kernel
theorem dX6_work_338 : decode cX6_work 338 = .ok (.iload_n 3, 1) := by decide +kernel
theorem dX6_work_339 : decode cX6_work 339 = .ok (.iconst 1, 1) := by decide +kernel
theorem dX6_work_340 : decode cX6_work 340 = .ok (.isub, 1) := by decide +kernel
theorem dX6_work_341 : decode cX6_work 341 = .ok (.lload 7, 2) := by decide +kernel
theorem dX6_work_343 : decode cX6_work 343 = .ok (.lastore, 1) := by decide +kernel
theorem dX6_work_344 : decode cX6_work 344 = .ok (.iinc 4 1, 3) := by decide +kernel
theorem dX6_work_347 : decode cX6_work 347 = .ok (.goto (-342), 3) := by decide +kernel
theorem dX6_work_350 : decode cX6_work 350 = .ok (.iload_n 3, 1) := by decide +kernel
theorem dX6_work_351 : decode cX6_work 351 = .ok (.ifCond .le 14, 3) := by decide +kernel
theorem dX6_work_354 : decode cX6_work 354 = .ok (.aload_n 0, 1) := by decide +kernel
theorem dX6_work_355 : decode cX6_work 355 = .ok (.getfield 44, 3) := by decide +kernel
theorem dX6_work_358 : decode cX6_work 358 = .ok (.iload_n 3, 1) := by decide +kernel
theorem dX6_work_359 : decode cX6_work 359 = .ok (.iconst 1, 1) := by decide +kernel
theorem dX6_work_360 : decode cX6_work 360 = .ok (.isub, 1) := by decide +kernel
theorem dX6_work_361 : decode cX6_work 361 = .ok (.laload, 1) := by decide +kernel
theorem dX6_work_362 : decode cX6_work 362 = .ok (.goto 4, 3) := by decide +kernel
theorem dX6_work_365 : decode cX6_work 365 = .ok (.lconst 0, 1) := by decide +kernel
theorem dX6_work_366 : decode cX6_work 366 = .ok (.lreturn, 1) := by decide +kernel
abbrev MRule_work : rx_M := (RX6, yX6_work, cX6_work, 11, (some .long), 1)
theorem kRule_work : rKv MRule_work 2 := ⟨tb_in (i := 5) (j := 3) rfl rfl, tb_in (i := 5) (j := 4) rfl rfl, tb_in (i := 5) (j := 1) rfl rfl, tb_in (i := 4) (j := 21) rfl rfl, ⟨by decide, by decide, by decide +kernel⟩, by decide⟩
section
variable {a0 : Nat → Nat} {z0_steps : Nat → Int32} {z0_size : Int32} {z0_sumFrom : Nat → Int32} {z0_testFrom : Nat → Int32} {z0_testTo : Nat → Int32} {z0_clauses : Int32} {z0_parts : Int32} {z0_readsTime : Int32} {z0_words : Nat → Int64} {z0_stack : Nat → Int64}
def mRule_work_j78 (k5 : Int32 → Int32 → (Nat → Int64) → Option (Int64 × (Nat → Int64))) (x2 : Int32) (x3 : Int32) (x4 : Int32) (x5 : Int32) (x6 : Int32) (z0_steps : Nat → Int32) (z0_size : Int32) (z0_words : Nat → Int64) (z0_stack : Nat → Int64) : Option (Int64 × (Nat → Int64)) := (if x5 = 0 then rq (inb x3 61) (lt (vp_updL z0_stack x3.toNatClampNeg (x6.toInt64)) (fun u17 => k5 (x3 + (1 : Int32)) (x4 + (1 : Int32)) u17)) else rq (inb x6 12) (rq (inb x3 61) (lt (vp_updL z0_stack x3.toNatClampNeg (z0_words x6.toNatClampNeg)) (fun u16 => k5 (x3 + (1 : Int32)) (x4 + (1 : Int32)) u16))))
set_option maxHeartbeats 4000000 in
set_option maxRecDepth 20000 in
theorem cRule_work_j78 {q : Int64 × (Nat → Int64)} {x2 : Int32} {x3 : Int32} {x4 : Int32} {x5 : Int32} {x6 : Int32} {k5 : Int32 → Int32 → (Nat → Int64) → Option (Int64 × (Nat → Int64))} (hk5 : ∀ (x3 : Int32) (x4 : Int32) (z0_stack : Nat → Int64), k5 x3 x4 z0_stack = some q → rW l D Z (ty7 K) MRule_work 5 [(0, .ref (a0 0)), (2, .int x2), (3, .int x3), (4, .int x4)] [] (List.flatten [bRule K a0 z0_steps z0_size z0_sumFrom z0_testFrom z0_testTo z0_clauses z0_parts z0_readsTime z0_words z0_stack]) (List.flatten [bRule K a0 z0_steps z0_size z0_sumFrom z0_testFrom z0_testTo z0_clauses z0_parts z0_readsTime z0_words q.2]) (some (.long q.1))) (h : mRule_work_j78 k5 x2 x3 x4 x5 x6 z0_steps z0_size z0_words z0_stack = some q) : rW l D Z (ty7 K) MRule_work 78 [(0, .ref (a0 0)), (2, .int x2), (3, .int x3), (4, .int x4), (5, .int x5), (6, .int x6)] [] (List.flatten [bRule K a0 z0_steps z0_size z0_sumFrom z0_testFrom z0_testTo z0_clauses z0_parts z0_readsTime z0_words z0_stack]) (List.flatten [bRule K a0 z0_steps z0_size z0_sumFrom z0_testFrom z0_testTo z0_clauses z0_parts z0_readsTime z0_words q.2]) (some (.long q.1)) := by
  unfold mRule_work_j78 at h
  refine r_aload_n 0 dX6_work_78 rfl ?_
  refine gRule_stack 0 rfl (tb_in (i := 4) (j := 24) rfl rfl) dX6_work_79 ?_
  refine r_iload_n 2 dX6_work_82 rfl ?_
  refine r_iload 4 dX6_work_83 rfl ?_
  refine r_if_ne 94 dX6_work_85 (by decide) (fun c14 => ?_) (fun c14 => ?_)
  · replace h := it_neg c14 h
    refine r_aload_n 0 dX6_work_94 rfl ?_
    refine gRule_words 0 rfl (tb_in (i := 4) (j := 20) rfl rfl) dX6_work_95 ?_
    refine r_iload 5 dX6_work_98 rfl ?_
    obtain ⟨h15, h⟩ := rq_some h
    refine lRule_words 0 rfl (inb_in h15) dX6_work_100 ?_
    obtain ⟨h16, h⟩ := rq_some h
    obtain ⟨u16, e16, h⟩ := lt_some h
    refine sRule_stack (bs1 := [bRule K a0 z0_steps z0_size z0_sumFrom z0_testFrom z0_testTo z0_clauses z0_parts z0_readsTime z0_words u16]) 0 e16 rfl (inb_in h16) rfl dX6_work_101 ?_
    refine r_iinc (y := (x3 + (1 : Int32))) (lv' := [(3, .int (x3 + (1 : Int32))), (0, .ref (a0 0)), (2, .int x2), (4, .int x4), (5, .int x5), (6, .int x6)]) 2 dX6_work_102 rfl rfl (Nat.le_of_ble_eq_true rfl) rfl ?_
    refine r_goto 344 dX6_work_105 (by decide) ?_
    refine r_iinc (y := (x4 + (1 : Int32))) (lv' := [(4, .int (x4 + (1 : Int32))), (3, .int (x3 + (1 : Int32))), (0, .ref (a0 0)), (2, .int x2), (5, .int x5), (6, .int x6)]) 3 dX6_work_344 rfl rfl (Nat.le_of_ble_eq_true rfl) rfl ?_
    refine r_goto 5 dX6_work_347 (by decide) ?_
    refine r_sub (lv' := [(0, .ref (a0 0)), (2, .int x2), (3, .int (x3 + (1 : Int32))), (4, .int (x4 + (1 : Int32)))]) [2, 3, 1, 0] rfl ?_
    exact hk5 (x3 + (1 : Int32)) (x4 + (1 : Int32)) u16 h
  · replace h := it_pos c14 h
    refine r_iload 5 dX6_work_88 rfl ?_
    refine r_i2l dX6_work_90 ?_
    refine r_goto 101 dX6_work_91 (by decide) ?_
    obtain ⟨h17, h⟩ := rq_some h
    obtain ⟨u17, e17, h⟩ := lt_some h
    refine sRule_stack (bs1 := [bRule K a0 z0_steps z0_size z0_sumFrom z0_testFrom z0_testTo z0_clauses z0_parts z0_readsTime z0_words u17]) 0 e17 rfl (inb_in h17) rfl dX6_work_101 ?_
    refine r_iinc (y := (x3 + (1 : Int32))) (lv' := [(3, .int (x3 + (1 : Int32))), (0, .ref (a0 0)), (2, .int x2), (4, .int x4), (5, .int x5), (6, .int x6)]) 2 dX6_work_102 rfl rfl (Nat.le_of_ble_eq_true rfl) rfl ?_
    refine r_goto 344 dX6_work_105 (by decide) ?_
    refine r_iinc (y := (x4 + (1 : Int32))) (lv' := [(4, .int (x4 + (1 : Int32))), (3, .int (x3 + (1 : Int32))), (0, .ref (a0 0)), (2, .int x2), (5, .int x5), (6, .int x6)]) 3 dX6_work_344 rfl rfl (Nat.le_of_ble_eq_true rfl) rfl ?_
    refine r_goto 5 dX6_work_347 (by decide) ?_
    refine r_sub (lv' := [(0, .ref (a0 0)), (2, .int x2), (3, .int (x3 + (1 : Int32))), (4, .int (x4 + (1 : Int32)))]) [2, 3, 1, 0] rfl ?_
    exact hk5 (x3 + (1 : Int32)) (x4 + (1 : Int32)) u17 h
def mRule_work_j54 (k5 : Int32 → Int32 → (Nat → Int64) → Option (Int64 × (Nat → Int64))) (x2 : Int32) (x3 : Int32) (x4 : Int32) (x5 : Int32) (x6 : Int32) (z0_steps : Nat → Int32) (z0_size : Int32) (z0_words : Nat → Int64) (z0_stack : Nat → Int64) : Option (Int64 × (Nat → Int64)) := (if (61 : Int32) ≤ x3 then some ((0 : Int64), z0_stack) else (if x5 = (1 : Int32) then (if x6 < (12 : Int32) then mRule_work_j78 k5 x2 x3 x4 x5 x6 z0_steps z0_size z0_words z0_stack else some ((0 : Int64), z0_stack)) else mRule_work_j78 k5 x2 x3 x4 x5 x6 z0_steps z0_size z0_words z0_stack))
set_option maxHeartbeats 4000000 in
set_option maxRecDepth 20000 in
theorem cRule_work_j54 {q : Int64 × (Nat → Int64)} {x2 : Int32} {x3 : Int32} {x4 : Int32} {x5 : Int32} {x6 : Int32} {k5 : Int32 → Int32 → (Nat → Int64) → Option (Int64 × (Nat → Int64))} (hk5 : ∀ (x3 : Int32) (x4 : Int32) (z0_stack : Nat → Int64), k5 x3 x4 z0_stack = some q → rW l D Z (ty7 K) MRule_work 5 [(0, .ref (a0 0)), (2, .int x2), (3, .int x3), (4, .int x4)] [] (List.flatten [bRule K a0 z0_steps z0_size z0_sumFrom z0_testFrom z0_testTo z0_clauses z0_parts z0_readsTime z0_words z0_stack]) (List.flatten [bRule K a0 z0_steps z0_size z0_sumFrom z0_testFrom z0_testTo z0_clauses z0_parts z0_readsTime z0_words q.2]) (some (.long q.1))) (h : mRule_work_j54 k5 x2 x3 x4 x5 x6 z0_steps z0_size z0_words z0_stack = some q) : rW l D Z (ty7 K) MRule_work 54 [(0, .ref (a0 0)), (2, .int x2), (3, .int x3), (4, .int x4), (5, .int x5), (6, .int x6)] [] (List.flatten [bRule K a0 z0_steps z0_size z0_sumFrom z0_testFrom z0_testTo z0_clauses z0_parts z0_readsTime z0_words z0_stack]) (List.flatten [bRule K a0 z0_steps z0_size z0_sumFrom z0_testFrom z0_testTo z0_clauses z0_parts z0_readsTime z0_words q.2]) (some (.long q.1)) := by
  unfold mRule_work_j54 at h
  refine r_iload_n 2 dX6_work_54 rfl ?_
  refine r_aload_n 0 dX6_work_55 rfl ?_
  refine gRule_stack 0 rfl (tb_in (i := 4) (j := 24) rfl rfl) dX6_work_56 ?_
  refine b_alen (n := (61 : Int32)) 0 6 2 rfl rfl rfl rfl dX6_work_59 ?_
  refine r_icmp_ge 76 dX6_work_60 (by decide) (fun c12 => ?_) (fun c12 => ?_)
  · replace h := it_pos c12 h
    refine r_lconst (x := (0 : Int64)) dX6_work_76 (by decide) ?_
    have hq := Option.some.inj h
    subst hq
    exact r_lret rfl dX6_work_77
  · replace h := it_neg c12 h
    refine r_iload 4 dX6_work_63 rfl ?_
    refine r_iconst (x := (1 : Int32)) dX6_work_65 (by decide) ?_
    refine r_icmp_ne 78 dX6_work_66 (by decide) (fun c13 => ?_) (fun c13 => ?_)
    · replace h := it_neg c13 h
      exact cRule_work_j78  (hk5) h
    · replace h := it_pos c13 h
      refine r_iload 5 dX6_work_69 rfl ?_
      refine r_bipush (x := (12 : Int32)) dX6_work_71 (by decide) ?_
      refine r_icmp_lt 78 dX6_work_73 (by decide) (fun c18 => ?_) (fun c18 => ?_)
      · replace h := it_pos c18 h
        exact cRule_work_j78  (hk5) h
      · replace h := it_neg c18 h
        refine r_lconst (x := (0 : Int64)) dX6_work_76 (by decide) ?_
        have hq := Option.some.inj h
        subst hq
        exact r_lret rfl dX6_work_77
def mRule_work_j117 (k5 : Int32 → Int32 → (Nat → Int64) → Option (Int64 × (Nat → Int64))) (x2 : Int32) (x3 : Int32) (x4 : Int32) (x5 : Int32) (x6 : Int32) (z0_steps : Nat → Int32) (z0_size : Int32) (z0_words : Nat → Int64) (z0_stack : Nat → Int64) : Option (Int64 × (Nat → Int64)) := (if x3 < (1 : Int32) then some ((0 : Int64), z0_stack) else (if x3 < (61 : Int32) then rq (inb (x3 - (1 : Int32)) 61) (lt (z0_stack (x3 - (1 : Int32)).toNatClampNeg) (fun y24 => rq (inb x3 61) (lt (z0_stack x3.toNatClampNeg) (fun y26 => (if x5 = (2 : Int32) then lt ((1 : Int64) - y24) (fun y28 => rq (inb (x3 - (1 : Int32)) 61) (lt (vp_updL z0_stack (x3 - (1 : Int32)).toNatClampNeg y28) (fun u29 => k5 x3 (x4 + (1 : Int32)) u29))) else if x5 = (3 : Int32) then lt (y24 &&& y26) (fun y31 => rq (inb (x3 - (1 : Int32)) 61) (lt (vp_updL z0_stack (x3 - (1 : Int32)).toNatClampNeg y31) (fun u32 => k5 x3 (x4 + (1 : Int32)) u32))) else if x5 = (4 : Int32) then lt (y24 ||| y26) (fun y34 => rq (inb (x3 - (1 : Int32)) 61) (lt (vp_updL z0_stack (x3 - (1 : Int32)).toNatClampNeg y34) (fun u35 => k5 x3 (x4 + (1 : Int32)) u35))) else if x5 = (5 : Int32) then lt (y24 + y26) (fun y37 => rq (inb (x3 - (1 : Int32)) 61) (lt (vp_updL z0_stack (x3 - (1 : Int32)).toNatClampNeg y37) (fun u38 => k5 x3 (x4 + (1 : Int32)) u38))) else if x5 = (6 : Int32) then lt (y24 - y26) (fun y40 => rq (inb (x3 - (1 : Int32)) 61) (lt (vp_updL z0_stack (x3 - (1 : Int32)).toNatClampNeg y40) (fun u41 => k5 x3 (x4 + (1 : Int32)) u41))) else if x5 = (7 : Int32) then lt (y24 * y26) (fun y43 => rq (inb (x3 - (1 : Int32)) 61) (lt (vp_updL z0_stack (x3 - (1 : Int32)).toNatClampNeg y43) (fun u44 => k5 x3 (x4 + (1 : Int32)) u44))) else if x5 = (8 : Int32) then (if (lg_cmp y26 (0 : Int64)) = 0 then rq (inb (x3 - (1 : Int32)) 61) (lt (vp_updL z0_stack (x3 - (1 : Int32)).toNatClampNeg (0 : Int64)) (fun u50 => k5 x3 (x4 + (1 : Int32)) u50)) else rq (decide (¬ y26 = 0)) (lt (y24 / y26) (fun y48 => rq (inb (x3 - (1 : Int32)) 61) (lt (vp_updL z0_stack (x3 - (1 : Int32)).toNatClampNeg y48) (fun u49 => k5 x3 (x4 + (1 : Int32)) u49))))) else if x5 = (9 : Int32) then (if (lg_cmp y26 (0 : Int64)) = 0 then rq (inb (x3 - (1 : Int32)) 61) (lt (vp_updL z0_stack (x3 - (1 : Int32)).toNatClampNeg (0 : Int64)) (fun u56 => k5 x3 (x4 + (1 : Int32)) u56)) else rq (decide (¬ y26 = 0)) (lt (y24 - y24 / y26 * y26) (fun y54 => rq (inb (x3 - (1 : Int32)) 61) (lt (vp_updL z0_stack (x3 - (1 : Int32)).toNatClampNeg y54) (fun u55 => k5 x3 (x4 + (1 : Int32)) u55))))) else (if 0 ≤ (lg_cmp y24 y26) then (if (lg_cmp y24 y26) = 0 then lt (((x6 >>> ((1 : Int32) &&& 31)) &&& (1 : Int32)).toInt64) (fun y61 => rq (inb (x3 - (1 : Int32)) 61) (lt (vp_updL z0_stack (x3 - (1 : Int32)).toNatClampNeg y61) (fun u62 => k5 x3 (x4 + (1 : Int32)) u62))) else lt (((x6 >>> ((2 : Int32) &&& 31)) &&& (1 : Int32)).toInt64) (fun y59 => rq (inb (x3 - (1 : Int32)) 61) (lt (vp_updL z0_stack (x3 - (1 : Int32)).toNatClampNeg y59) (fun u60 => k5 x3 (x4 + (1 : Int32)) u60)))) else lt (((x6 >>> ((0 : Int32) &&& 31)) &&& (1 : Int32)).toInt64) (fun y63 => rq (inb (x3 - (1 : Int32)) 61) (lt (vp_updL z0_stack (x3 - (1 : Int32)).toNatClampNeg y63) (fun u64 => k5 x3 (x4 + (1 : Int32)) u64))))))))) else some ((0 : Int64), z0_stack)))
set_option maxHeartbeats 4000000 in
set_option maxRecDepth 20000 in
theorem cRule_work_j117 {q : Int64 × (Nat → Int64)} {x2 : Int32} {x3 : Int32} {x4 : Int32} {x5 : Int32} {x6 : Int32} {k5 : Int32 → Int32 → (Nat → Int64) → Option (Int64 × (Nat → Int64))} (hk5 : ∀ (x3 : Int32) (x4 : Int32) (z0_stack : Nat → Int64), k5 x3 x4 z0_stack = some q → rW l D Z (ty7 K) MRule_work 5 [(0, .ref (a0 0)), (2, .int x2), (3, .int x3), (4, .int x4)] [] (List.flatten [bRule K a0 z0_steps z0_size z0_sumFrom z0_testFrom z0_testTo z0_clauses z0_parts z0_readsTime z0_words z0_stack]) (List.flatten [bRule K a0 z0_steps z0_size z0_sumFrom z0_testFrom z0_testTo z0_clauses z0_parts z0_readsTime z0_words q.2]) (some (.long q.1))) (h : mRule_work_j117 k5 x2 x3 x4 x5 x6 z0_steps z0_size z0_words z0_stack = some q) : rW l D Z (ty7 K) MRule_work 117 [(0, .ref (a0 0)), (2, .int x2), (3, .int x3), (4, .int x4), (5, .int x5), (6, .int x6)] [] (List.flatten [bRule K a0 z0_steps z0_size z0_sumFrom z0_testFrom z0_testTo z0_clauses z0_parts z0_readsTime z0_words z0_stack]) (List.flatten [bRule K a0 z0_steps z0_size z0_sumFrom z0_testFrom z0_testTo z0_clauses z0_parts z0_readsTime z0_words q.2]) (some (.long q.1)) := by
  unfold mRule_work_j117 at h
  refine r_iload_n 2 dX6_work_117 rfl ?_
  refine r_iconst (x := (1 : Int32)) dX6_work_118 (by decide) ?_
  refine r_icmp_lt 131 dX6_work_119 (by decide) (fun c21 => ?_) (fun c21 => ?_)
  · replace h := it_pos c21 h
    refine r_lconst (x := (0 : Int64)) dX6_work_131 (by decide) ?_
    have hq := Option.some.inj h
    subst hq
    exact r_lret rfl dX6_work_132
  · replace h := it_neg c21 h
    refine r_iload_n 2 dX6_work_122 rfl ?_
    refine r_aload_n 0 dX6_work_123 rfl ?_
    refine gRule_stack 0 rfl (tb_in (i := 4) (j := 24) rfl rfl) dX6_work_124 ?_
    refine b_alen (n := (61 : Int32)) 0 6 2 rfl rfl rfl rfl dX6_work_127 ?_
    refine r_icmp_lt 133 dX6_work_128 (by decide) (fun c22 => ?_) (fun c22 => ?_)
    · replace h := it_pos c22 h
      refine r_aload_n 0 dX6_work_133 rfl ?_
      refine gRule_stack 0 rfl (tb_in (i := 4) (j := 24) rfl rfl) dX6_work_134 ?_
      refine r_iload_n 2 dX6_work_137 rfl ?_
      refine r_iconst (x := (1 : Int32)) dX6_work_138 (by decide) ?_
      refine r_isub dX6_work_139 ?_
      obtain ⟨h23, h⟩ := rq_some h
      refine lRule_stack 0 rfl (inb_in h23) dX6_work_140 ?_
      obtain ⟨y24, e24, h⟩ := lt_some h
      refine r_topl e24 ?_
      refine r_lstore (lv' := [(7, .long y24), (0, .ref (a0 0)), (2, .int x2), (3, .int x3), (4, .int x4), (5, .int x5), (6, .int x6)]) dX6_work_141 (Nat.le_of_ble_eq_true rfl) rfl ?_
      refine r_aload_n 1 dX6_work_143 rfl ?_
      refine gRule_stack 0 rfl (tb_in (i := 4) (j := 24) rfl rfl) dX6_work_144 ?_
      refine r_iload_n 3 dX6_work_147 rfl ?_
      obtain ⟨h25, h⟩ := rq_some h
      refine lRule_stack 0 rfl (inb_in h25) dX6_work_148 ?_
      obtain ⟨y26, e26, h⟩ := lt_some h
      refine r_topl e26 ?_
      refine r_lstore (lv' := [(9, .long y26), (7, .long y24), (0, .ref (a0 0)), (2, .int x2), (3, .int x3), (4, .int x4), (5, .int x5), (6, .int x6)]) dX6_work_149 (Nat.le_of_ble_eq_true rfl) rfl ?_
      refine r_iload 6 dX6_work_151 rfl ?_
      by_cases c27 : x5 = (2 : Int32)
      · replace h := it_pos c27 h
        refine r_tableIn 200 dX6_work_153 (by rw [c27]; decide) (by rw [c27]; decide) (by rw [c27]; rfl) (by decide) ?_
        refine r_lconst (x := (1 : Int64)) dX6_work_200 (by decide) ?_
        refine r_lload 1 dX6_work_201 rfl ?_
        refine r_lsub dX6_work_203 ?_
        obtain ⟨y28, e28, h⟩ := lt_some h
        refine r_topl e28 ?_
        refine r_lstore (lv' := [(7, .long y28), (9, .long y26), (0, .ref (a0 0)), (2, .int x2), (3, .int x3), (4, .int x4), (5, .int x5), (6, .int x6)]) dX6_work_204 (Nat.le_of_ble_eq_true rfl) rfl ?_
        refine r_goto 334 dX6_work_206 (by decide) ?_
        refine r_aload_n 2 dX6_work_334 rfl ?_
        refine gRule_stack 0 rfl (tb_in (i := 4) (j := 24) rfl rfl) dX6_work_335 ?_
        refine r_iload_n 4 dX6_work_338 rfl ?_
        refine r_iconst (x := (1 : Int32)) dX6_work_339 (by decide) ?_
        refine r_isub dX6_work_340 ?_
        refine r_lload 0 dX6_work_341 rfl ?_
        obtain ⟨h29, h⟩ := rq_some h
        obtain ⟨u29, e29, h⟩ := lt_some h
        refine sRule_stack (bs1 := [bRule K a0 z0_steps z0_size z0_sumFrom z0_testFrom z0_testTo z0_clauses z0_parts z0_readsTime z0_words u29]) 0 e29 rfl (inb_in h29) rfl dX6_work_343 ?_
        refine r_iinc (y := (x4 + (1 : Int32))) (lv' := [(4, .int (x4 + (1 : Int32))), (7, .long y28), (9, .long y26), (0, .ref (a0 0)), (2, .int x2), (3, .int x3), (5, .int x5), (6, .int x6)]) 5 dX6_work_344 rfl rfl (Nat.le_of_ble_eq_true rfl) rfl ?_
        refine r_goto 5 dX6_work_347 (by decide) ?_
        refine r_sub (lv' := [(0, .ref (a0 0)), (2, .int x2), (3, .int x3), (4, .int (x4 + (1 : Int32)))]) [3, 4, 5, 0] rfl ?_
        exact hk5 x3 (x4 + (1 : Int32)) u29 h
      replace h := it_neg c27 h
      by_cases c30 : x5 = (3 : Int32)
      · replace h := it_pos c30 h
        refine r_tableIn 209 dX6_work_153 (by rw [c30]; decide) (by rw [c30]; decide) (by rw [c30]; rfl) (by decide) ?_
        refine r_lload 1 dX6_work_209 rfl ?_
        refine r_lload 0 dX6_work_211 rfl ?_
        refine r_land dX6_work_213 ?_
        obtain ⟨y31, e31, h⟩ := lt_some h
        refine r_topl e31 ?_
        refine r_lstore (lv' := [(7, .long y31), (9, .long y26), (0, .ref (a0 0)), (2, .int x2), (3, .int x3), (4, .int x4), (5, .int x5), (6, .int x6)]) dX6_work_214 (Nat.le_of_ble_eq_true rfl) rfl ?_
        refine r_goto 334 dX6_work_216 (by decide) ?_
        refine r_aload_n 2 dX6_work_334 rfl ?_
        refine gRule_stack 0 rfl (tb_in (i := 4) (j := 24) rfl rfl) dX6_work_335 ?_
        refine r_iload_n 4 dX6_work_338 rfl ?_
        refine r_iconst (x := (1 : Int32)) dX6_work_339 (by decide) ?_
        refine r_isub dX6_work_340 ?_
        refine r_lload 0 dX6_work_341 rfl ?_
        obtain ⟨h32, h⟩ := rq_some h
        obtain ⟨u32, e32, h⟩ := lt_some h
        refine sRule_stack (bs1 := [bRule K a0 z0_steps z0_size z0_sumFrom z0_testFrom z0_testTo z0_clauses z0_parts z0_readsTime z0_words u32]) 0 e32 rfl (inb_in h32) rfl dX6_work_343 ?_
        refine r_iinc (y := (x4 + (1 : Int32))) (lv' := [(4, .int (x4 + (1 : Int32))), (7, .long y31), (9, .long y26), (0, .ref (a0 0)), (2, .int x2), (3, .int x3), (5, .int x5), (6, .int x6)]) 5 dX6_work_344 rfl rfl (Nat.le_of_ble_eq_true rfl) rfl ?_
        refine r_goto 5 dX6_work_347 (by decide) ?_
        refine r_sub (lv' := [(0, .ref (a0 0)), (2, .int x2), (3, .int x3), (4, .int (x4 + (1 : Int32)))]) [3, 4, 5, 0] rfl ?_
        exact hk5 x3 (x4 + (1 : Int32)) u32 h
      replace h := it_neg c30 h
      by_cases c33 : x5 = (4 : Int32)
      · replace h := it_pos c33 h
        refine r_tableIn 219 dX6_work_153 (by rw [c33]; decide) (by rw [c33]; decide) (by rw [c33]; rfl) (by decide) ?_
        refine r_lload 1 dX6_work_219 rfl ?_
        refine r_lload 0 dX6_work_221 rfl ?_
        refine r_lor dX6_work_223 ?_
        obtain ⟨y34, e34, h⟩ := lt_some h
        refine r_topl e34 ?_
        refine r_lstore (lv' := [(7, .long y34), (9, .long y26), (0, .ref (a0 0)), (2, .int x2), (3, .int x3), (4, .int x4), (5, .int x5), (6, .int x6)]) dX6_work_224 (Nat.le_of_ble_eq_true rfl) rfl ?_
        refine r_goto 334 dX6_work_226 (by decide) ?_
        refine r_aload_n 2 dX6_work_334 rfl ?_
        refine gRule_stack 0 rfl (tb_in (i := 4) (j := 24) rfl rfl) dX6_work_335 ?_
        refine r_iload_n 4 dX6_work_338 rfl ?_
        refine r_iconst (x := (1 : Int32)) dX6_work_339 (by decide) ?_
        refine r_isub dX6_work_340 ?_
        refine r_lload 0 dX6_work_341 rfl ?_
        obtain ⟨h35, h⟩ := rq_some h
        obtain ⟨u35, e35, h⟩ := lt_some h
        refine sRule_stack (bs1 := [bRule K a0 z0_steps z0_size z0_sumFrom z0_testFrom z0_testTo z0_clauses z0_parts z0_readsTime z0_words u35]) 0 e35 rfl (inb_in h35) rfl dX6_work_343 ?_
        refine r_iinc (y := (x4 + (1 : Int32))) (lv' := [(4, .int (x4 + (1 : Int32))), (7, .long y34), (9, .long y26), (0, .ref (a0 0)), (2, .int x2), (3, .int x3), (5, .int x5), (6, .int x6)]) 5 dX6_work_344 rfl rfl (Nat.le_of_ble_eq_true rfl) rfl ?_
        refine r_goto 5 dX6_work_347 (by decide) ?_
        refine r_sub (lv' := [(0, .ref (a0 0)), (2, .int x2), (3, .int x3), (4, .int (x4 + (1 : Int32)))]) [3, 4, 5, 0] rfl ?_
        exact hk5 x3 (x4 + (1 : Int32)) u35 h
      replace h := it_neg c33 h
      by_cases c36 : x5 = (5 : Int32)
      · replace h := it_pos c36 h
        refine r_tableIn 229 dX6_work_153 (by rw [c36]; decide) (by rw [c36]; decide) (by rw [c36]; rfl) (by decide) ?_
        refine r_lload 1 dX6_work_229 rfl ?_
        refine r_lload 0 dX6_work_231 rfl ?_
        refine r_ladd dX6_work_233 ?_
        obtain ⟨y37, e37, h⟩ := lt_some h
        refine r_topl e37 ?_
        refine r_lstore (lv' := [(7, .long y37), (9, .long y26), (0, .ref (a0 0)), (2, .int x2), (3, .int x3), (4, .int x4), (5, .int x5), (6, .int x6)]) dX6_work_234 (Nat.le_of_ble_eq_true rfl) rfl ?_
        refine r_goto 334 dX6_work_236 (by decide) ?_
        refine r_aload_n 2 dX6_work_334 rfl ?_
        refine gRule_stack 0 rfl (tb_in (i := 4) (j := 24) rfl rfl) dX6_work_335 ?_
        refine r_iload_n 4 dX6_work_338 rfl ?_
        refine r_iconst (x := (1 : Int32)) dX6_work_339 (by decide) ?_
        refine r_isub dX6_work_340 ?_
        refine r_lload 0 dX6_work_341 rfl ?_
        obtain ⟨h38, h⟩ := rq_some h
        obtain ⟨u38, e38, h⟩ := lt_some h
        refine sRule_stack (bs1 := [bRule K a0 z0_steps z0_size z0_sumFrom z0_testFrom z0_testTo z0_clauses z0_parts z0_readsTime z0_words u38]) 0 e38 rfl (inb_in h38) rfl dX6_work_343 ?_
        refine r_iinc (y := (x4 + (1 : Int32))) (lv' := [(4, .int (x4 + (1 : Int32))), (7, .long y37), (9, .long y26), (0, .ref (a0 0)), (2, .int x2), (3, .int x3), (5, .int x5), (6, .int x6)]) 5 dX6_work_344 rfl rfl (Nat.le_of_ble_eq_true rfl) rfl ?_
        refine r_goto 5 dX6_work_347 (by decide) ?_
        refine r_sub (lv' := [(0, .ref (a0 0)), (2, .int x2), (3, .int x3), (4, .int (x4 + (1 : Int32)))]) [3, 4, 5, 0] rfl ?_
        exact hk5 x3 (x4 + (1 : Int32)) u38 h
      replace h := it_neg c36 h
      by_cases c39 : x5 = (6 : Int32)
      · replace h := it_pos c39 h
        refine r_tableIn 239 dX6_work_153 (by rw [c39]; decide) (by rw [c39]; decide) (by rw [c39]; rfl) (by decide) ?_
        refine r_lload 1 dX6_work_239 rfl ?_
        refine r_lload 0 dX6_work_241 rfl ?_
        refine r_lsub dX6_work_243 ?_
        obtain ⟨y40, e40, h⟩ := lt_some h
        refine r_topl e40 ?_
        refine r_lstore (lv' := [(7, .long y40), (9, .long y26), (0, .ref (a0 0)), (2, .int x2), (3, .int x3), (4, .int x4), (5, .int x5), (6, .int x6)]) dX6_work_244 (Nat.le_of_ble_eq_true rfl) rfl ?_
        refine r_goto 334 dX6_work_246 (by decide) ?_
        refine r_aload_n 2 dX6_work_334 rfl ?_
        refine gRule_stack 0 rfl (tb_in (i := 4) (j := 24) rfl rfl) dX6_work_335 ?_
        refine r_iload_n 4 dX6_work_338 rfl ?_
        refine r_iconst (x := (1 : Int32)) dX6_work_339 (by decide) ?_
        refine r_isub dX6_work_340 ?_
        refine r_lload 0 dX6_work_341 rfl ?_
        obtain ⟨h41, h⟩ := rq_some h
        obtain ⟨u41, e41, h⟩ := lt_some h
        refine sRule_stack (bs1 := [bRule K a0 z0_steps z0_size z0_sumFrom z0_testFrom z0_testTo z0_clauses z0_parts z0_readsTime z0_words u41]) 0 e41 rfl (inb_in h41) rfl dX6_work_343 ?_
        refine r_iinc (y := (x4 + (1 : Int32))) (lv' := [(4, .int (x4 + (1 : Int32))), (7, .long y40), (9, .long y26), (0, .ref (a0 0)), (2, .int x2), (3, .int x3), (5, .int x5), (6, .int x6)]) 5 dX6_work_344 rfl rfl (Nat.le_of_ble_eq_true rfl) rfl ?_
        refine r_goto 5 dX6_work_347 (by decide) ?_
        refine r_sub (lv' := [(0, .ref (a0 0)), (2, .int x2), (3, .int x3), (4, .int (x4 + (1 : Int32)))]) [3, 4, 5, 0] rfl ?_
        exact hk5 x3 (x4 + (1 : Int32)) u41 h
      replace h := it_neg c39 h
      by_cases c42 : x5 = (7 : Int32)
      · replace h := it_pos c42 h
        refine r_tableIn 249 dX6_work_153 (by rw [c42]; decide) (by rw [c42]; decide) (by rw [c42]; rfl) (by decide) ?_
        refine r_lload 1 dX6_work_249 rfl ?_
        refine r_lload 0 dX6_work_251 rfl ?_
        refine r_lmul dX6_work_253 ?_
        obtain ⟨y43, e43, h⟩ := lt_some h
        refine r_topl e43 ?_
        refine r_lstore (lv' := [(7, .long y43), (9, .long y26), (0, .ref (a0 0)), (2, .int x2), (3, .int x3), (4, .int x4), (5, .int x5), (6, .int x6)]) dX6_work_254 (Nat.le_of_ble_eq_true rfl) rfl ?_
        refine r_goto 334 dX6_work_256 (by decide) ?_
        refine r_aload_n 2 dX6_work_334 rfl ?_
        refine gRule_stack 0 rfl (tb_in (i := 4) (j := 24) rfl rfl) dX6_work_335 ?_
        refine r_iload_n 4 dX6_work_338 rfl ?_
        refine r_iconst (x := (1 : Int32)) dX6_work_339 (by decide) ?_
        refine r_isub dX6_work_340 ?_
        refine r_lload 0 dX6_work_341 rfl ?_
        obtain ⟨h44, h⟩ := rq_some h
        obtain ⟨u44, e44, h⟩ := lt_some h
        refine sRule_stack (bs1 := [bRule K a0 z0_steps z0_size z0_sumFrom z0_testFrom z0_testTo z0_clauses z0_parts z0_readsTime z0_words u44]) 0 e44 rfl (inb_in h44) rfl dX6_work_343 ?_
        refine r_iinc (y := (x4 + (1 : Int32))) (lv' := [(4, .int (x4 + (1 : Int32))), (7, .long y43), (9, .long y26), (0, .ref (a0 0)), (2, .int x2), (3, .int x3), (5, .int x5), (6, .int x6)]) 5 dX6_work_344 rfl rfl (Nat.le_of_ble_eq_true rfl) rfl ?_
        refine r_goto 5 dX6_work_347 (by decide) ?_
        refine r_sub (lv' := [(0, .ref (a0 0)), (2, .int x2), (3, .int x3), (4, .int (x4 + (1 : Int32)))]) [3, 4, 5, 0] rfl ?_
        exact hk5 x3 (x4 + (1 : Int32)) u44 h
      replace h := it_neg c42 h
      by_cases c45 : x5 = (8 : Int32)
      · replace h := it_pos c45 h
        refine r_tableIn 259 dX6_work_153 (by rw [c45]; decide) (by rw [c45]; decide) (by rw [c45]; rfl) (by decide) ?_
        refine r_lload 0 dX6_work_259 rfl ?_
        refine r_lconst (x := (0 : Int64)) dX6_work_261 (by decide) ?_
        refine r_lcmp dX6_work_262 ?_
        refine r_if_ne 270 dX6_work_263 (by decide) (fun c46 => ?_) (fun c46 => ?_)
        · replace h := it_neg c46 h
          refine r_lload 1 dX6_work_270 rfl ?_
          refine r_lload 0 dX6_work_272 rfl ?_
          obtain ⟨h47, h⟩ := rq_some h
          refine r_ldiv dX6_work_274 (of_decide_eq_true h47) ?_
          obtain ⟨y48, e48, h⟩ := lt_some h
          refine r_topl e48 ?_
          refine r_lstore (lv' := [(7, .long y48), (9, .long y26), (0, .ref (a0 0)), (2, .int x2), (3, .int x3), (4, .int x4), (5, .int x5), (6, .int x6)]) dX6_work_275 (Nat.le_of_ble_eq_true rfl) rfl ?_
          refine r_goto 334 dX6_work_277 (by decide) ?_
          refine r_aload_n 2 dX6_work_334 rfl ?_
          refine gRule_stack 0 rfl (tb_in (i := 4) (j := 24) rfl rfl) dX6_work_335 ?_
          refine r_iload_n 4 dX6_work_338 rfl ?_
          refine r_iconst (x := (1 : Int32)) dX6_work_339 (by decide) ?_
          refine r_isub dX6_work_340 ?_
          refine r_lload 0 dX6_work_341 rfl ?_
          obtain ⟨h49, h⟩ := rq_some h
          obtain ⟨u49, e49, h⟩ := lt_some h
          refine sRule_stack (bs1 := [bRule K a0 z0_steps z0_size z0_sumFrom z0_testFrom z0_testTo z0_clauses z0_parts z0_readsTime z0_words u49]) 0 e49 rfl (inb_in h49) rfl dX6_work_343 ?_
          refine r_iinc (y := (x4 + (1 : Int32))) (lv' := [(4, .int (x4 + (1 : Int32))), (7, .long y48), (9, .long y26), (0, .ref (a0 0)), (2, .int x2), (3, .int x3), (5, .int x5), (6, .int x6)]) 5 dX6_work_344 rfl rfl (Nat.le_of_ble_eq_true rfl) rfl ?_
          refine r_goto 5 dX6_work_347 (by decide) ?_
          refine r_sub (lv' := [(0, .ref (a0 0)), (2, .int x2), (3, .int x3), (4, .int (x4 + (1 : Int32)))]) [3, 4, 5, 0] rfl ?_
          exact hk5 x3 (x4 + (1 : Int32)) u49 h
        · replace h := it_pos c46 h
          refine r_lconst (x := (0 : Int64)) dX6_work_266 (by decide) ?_
          refine r_goto 275 dX6_work_267 (by decide) ?_
          refine r_lstore (lv' := [(7, .long (0 : Int64)), (9, .long y26), (0, .ref (a0 0)), (2, .int x2), (3, .int x3), (4, .int x4), (5, .int x5), (6, .int x6)]) dX6_work_275 (Nat.le_of_ble_eq_true rfl) rfl ?_
          refine r_goto 334 dX6_work_277 (by decide) ?_
          refine r_aload_n 2 dX6_work_334 rfl ?_
          refine gRule_stack 0 rfl (tb_in (i := 4) (j := 24) rfl rfl) dX6_work_335 ?_
          refine r_iload_n 4 dX6_work_338 rfl ?_
          refine r_iconst (x := (1 : Int32)) dX6_work_339 (by decide) ?_
          refine r_isub dX6_work_340 ?_
          refine r_lload 0 dX6_work_341 rfl ?_
          obtain ⟨h50, h⟩ := rq_some h
          obtain ⟨u50, e50, h⟩ := lt_some h
          refine sRule_stack (bs1 := [bRule K a0 z0_steps z0_size z0_sumFrom z0_testFrom z0_testTo z0_clauses z0_parts z0_readsTime z0_words u50]) 0 e50 rfl (inb_in h50) rfl dX6_work_343 ?_
          refine r_iinc (y := (x4 + (1 : Int32))) (lv' := [(4, .int (x4 + (1 : Int32))), (7, .long (0 : Int64)), (9, .long y26), (0, .ref (a0 0)), (2, .int x2), (3, .int x3), (5, .int x5), (6, .int x6)]) 5 dX6_work_344 rfl rfl (Nat.le_of_ble_eq_true rfl) rfl ?_
          refine r_goto 5 dX6_work_347 (by decide) ?_
          refine r_sub (lv' := [(0, .ref (a0 0)), (2, .int x2), (3, .int x3), (4, .int (x4 + (1 : Int32)))]) [3, 4, 5, 0] rfl ?_
          exact hk5 x3 (x4 + (1 : Int32)) u50 h
      replace h := it_neg c45 h
      by_cases c51 : x5 = (9 : Int32)
      · replace h := it_pos c51 h
        refine r_tableIn 280 dX6_work_153 (by rw [c51]; decide) (by rw [c51]; decide) (by rw [c51]; rfl) (by decide) ?_
        refine r_lload 0 dX6_work_280 rfl ?_
        refine r_lconst (x := (0 : Int64)) dX6_work_282 (by decide) ?_
        refine r_lcmp dX6_work_283 ?_
        refine r_if_ne 291 dX6_work_284 (by decide) (fun c52 => ?_) (fun c52 => ?_)
        · replace h := it_neg c52 h
          refine r_lload 1 dX6_work_291 rfl ?_
          refine r_lload 0 dX6_work_293 rfl ?_
          obtain ⟨h53, h⟩ := rq_some h
          refine r_lrem dX6_work_295 (of_decide_eq_true h53) ?_
          obtain ⟨y54, e54, h⟩ := lt_some h
          refine r_topl e54 ?_
          refine r_lstore (lv' := [(7, .long y54), (9, .long y26), (0, .ref (a0 0)), (2, .int x2), (3, .int x3), (4, .int x4), (5, .int x5), (6, .int x6)]) dX6_work_296 (Nat.le_of_ble_eq_true rfl) rfl ?_
          refine r_goto 334 dX6_work_298 (by decide) ?_
          refine r_aload_n 2 dX6_work_334 rfl ?_
          refine gRule_stack 0 rfl (tb_in (i := 4) (j := 24) rfl rfl) dX6_work_335 ?_
          refine r_iload_n 4 dX6_work_338 rfl ?_
          refine r_iconst (x := (1 : Int32)) dX6_work_339 (by decide) ?_
          refine r_isub dX6_work_340 ?_
          refine r_lload 0 dX6_work_341 rfl ?_
          obtain ⟨h55, h⟩ := rq_some h
          obtain ⟨u55, e55, h⟩ := lt_some h
          refine sRule_stack (bs1 := [bRule K a0 z0_steps z0_size z0_sumFrom z0_testFrom z0_testTo z0_clauses z0_parts z0_readsTime z0_words u55]) 0 e55 rfl (inb_in h55) rfl dX6_work_343 ?_
          refine r_iinc (y := (x4 + (1 : Int32))) (lv' := [(4, .int (x4 + (1 : Int32))), (7, .long y54), (9, .long y26), (0, .ref (a0 0)), (2, .int x2), (3, .int x3), (5, .int x5), (6, .int x6)]) 5 dX6_work_344 rfl rfl (Nat.le_of_ble_eq_true rfl) rfl ?_
          refine r_goto 5 dX6_work_347 (by decide) ?_
          refine r_sub (lv' := [(0, .ref (a0 0)), (2, .int x2), (3, .int x3), (4, .int (x4 + (1 : Int32)))]) [3, 4, 5, 0] rfl ?_
          exact hk5 x3 (x4 + (1 : Int32)) u55 h
        · replace h := it_pos c52 h
          refine r_lconst (x := (0 : Int64)) dX6_work_287 (by decide) ?_
          refine r_goto 296 dX6_work_288 (by decide) ?_
          refine r_lstore (lv' := [(7, .long (0 : Int64)), (9, .long y26), (0, .ref (a0 0)), (2, .int x2), (3, .int x3), (4, .int x4), (5, .int x5), (6, .int x6)]) dX6_work_296 (Nat.le_of_ble_eq_true rfl) rfl ?_
          refine r_goto 334 dX6_work_298 (by decide) ?_
          refine r_aload_n 2 dX6_work_334 rfl ?_
          refine gRule_stack 0 rfl (tb_in (i := 4) (j := 24) rfl rfl) dX6_work_335 ?_
          refine r_iload_n 4 dX6_work_338 rfl ?_
          refine r_iconst (x := (1 : Int32)) dX6_work_339 (by decide) ?_
          refine r_isub dX6_work_340 ?_
          refine r_lload 0 dX6_work_341 rfl ?_
          obtain ⟨h56, h⟩ := rq_some h
          obtain ⟨u56, e56, h⟩ := lt_some h
          refine sRule_stack (bs1 := [bRule K a0 z0_steps z0_size z0_sumFrom z0_testFrom z0_testTo z0_clauses z0_parts z0_readsTime z0_words u56]) 0 e56 rfl (inb_in h56) rfl dX6_work_343 ?_
          refine r_iinc (y := (x4 + (1 : Int32))) (lv' := [(4, .int (x4 + (1 : Int32))), (7, .long (0 : Int64)), (9, .long y26), (0, .ref (a0 0)), (2, .int x2), (3, .int x3), (5, .int x5), (6, .int x6)]) 5 dX6_work_344 rfl rfl (Nat.le_of_ble_eq_true rfl) rfl ?_
          refine r_goto 5 dX6_work_347 (by decide) ?_
          refine r_sub (lv' := [(0, .ref (a0 0)), (2, .int x2), (3, .int x3), (4, .int (x4 + (1 : Int32)))]) [3, 4, 5, 0] rfl ?_
          exact hk5 x3 (x4 + (1 : Int32)) u56 h
      replace h := it_neg c51 h
      refine r_tableOut 301 dX6_work_153 (tbl_out (by decide) (by decide) (fun k h1 h2 => by
        rcases (show k = 2 ∨ k = 3 ∨ k = 4 ∨ k = 5 ∨ k = 6 ∨ k = 7 ∨ k = 8 ∨ k = 9 by omega) with rfl | rfl | rfl | rfl | rfl | rfl | rfl | rfl
        · exact c27
        · exact c30
        · exact c33
        · exact c36
        · exact c39
        · exact c42
        · exact c45
        · exact c51
        )) (by decide) ?_
      refine r_iload 7 dX6_work_301 rfl ?_
      refine r_lload 1 dX6_work_303 rfl ?_
      refine r_lload 0 dX6_work_305 rfl ?_
      refine r_lcmp dX6_work_307 ?_
      refine r_if_ge 315 dX6_work_308 (by decide) (fun c57 => ?_) (fun c57 => ?_)
      · replace h := it_pos c57 h
        refine r_lload 1 dX6_work_315 rfl ?_
        refine r_lload 0 dX6_work_317 rfl ?_
        refine r_lcmp dX6_work_319 ?_
        refine r_if_ne 327 dX6_work_320 (by decide) (fun c58 => ?_) (fun c58 => ?_)
        · replace h := it_neg c58 h
          refine r_iconst (x := (2 : Int32)) dX6_work_327 (by decide) ?_
          refine r_ishr dX6_work_328 ?_
          refine r_iconst (x := (1 : Int32)) dX6_work_329 (by decide) ?_
          refine r_iand dX6_work_330 ?_
          refine r_i2l dX6_work_331 ?_
          obtain ⟨y59, e59, h⟩ := lt_some h
          refine r_topl e59 ?_
          refine r_lstore (lv' := [(7, .long y59), (9, .long y26), (0, .ref (a0 0)), (2, .int x2), (3, .int x3), (4, .int x4), (5, .int x5), (6, .int x6)]) dX6_work_332 (Nat.le_of_ble_eq_true rfl) rfl ?_
          refine r_aload_n 2 dX6_work_334 rfl ?_
          refine gRule_stack 0 rfl (tb_in (i := 4) (j := 24) rfl rfl) dX6_work_335 ?_
          refine r_iload_n 4 dX6_work_338 rfl ?_
          refine r_iconst (x := (1 : Int32)) dX6_work_339 (by decide) ?_
          refine r_isub dX6_work_340 ?_
          refine r_lload 0 dX6_work_341 rfl ?_
          obtain ⟨h60, h⟩ := rq_some h
          obtain ⟨u60, e60, h⟩ := lt_some h
          refine sRule_stack (bs1 := [bRule K a0 z0_steps z0_size z0_sumFrom z0_testFrom z0_testTo z0_clauses z0_parts z0_readsTime z0_words u60]) 0 e60 rfl (inb_in h60) rfl dX6_work_343 ?_
          refine r_iinc (y := (x4 + (1 : Int32))) (lv' := [(4, .int (x4 + (1 : Int32))), (7, .long y59), (9, .long y26), (0, .ref (a0 0)), (2, .int x2), (3, .int x3), (5, .int x5), (6, .int x6)]) 5 dX6_work_344 rfl rfl (Nat.le_of_ble_eq_true rfl) rfl ?_
          refine r_goto 5 dX6_work_347 (by decide) ?_
          refine r_sub (lv' := [(0, .ref (a0 0)), (2, .int x2), (3, .int x3), (4, .int (x4 + (1 : Int32)))]) [3, 4, 5, 0] rfl ?_
          exact hk5 x3 (x4 + (1 : Int32)) u60 h
        · replace h := it_pos c58 h
          refine r_iconst (x := (1 : Int32)) dX6_work_323 (by decide) ?_
          refine r_goto 328 dX6_work_324 (by decide) ?_
          refine r_ishr dX6_work_328 ?_
          refine r_iconst (x := (1 : Int32)) dX6_work_329 (by decide) ?_
          refine r_iand dX6_work_330 ?_
          refine r_i2l dX6_work_331 ?_
          obtain ⟨y61, e61, h⟩ := lt_some h
          refine r_topl e61 ?_
          refine r_lstore (lv' := [(7, .long y61), (9, .long y26), (0, .ref (a0 0)), (2, .int x2), (3, .int x3), (4, .int x4), (5, .int x5), (6, .int x6)]) dX6_work_332 (Nat.le_of_ble_eq_true rfl) rfl ?_
          refine r_aload_n 2 dX6_work_334 rfl ?_
          refine gRule_stack 0 rfl (tb_in (i := 4) (j := 24) rfl rfl) dX6_work_335 ?_
          refine r_iload_n 4 dX6_work_338 rfl ?_
          refine r_iconst (x := (1 : Int32)) dX6_work_339 (by decide) ?_
          refine r_isub dX6_work_340 ?_
          refine r_lload 0 dX6_work_341 rfl ?_
          obtain ⟨h62, h⟩ := rq_some h
          obtain ⟨u62, e62, h⟩ := lt_some h
          refine sRule_stack (bs1 := [bRule K a0 z0_steps z0_size z0_sumFrom z0_testFrom z0_testTo z0_clauses z0_parts z0_readsTime z0_words u62]) 0 e62 rfl (inb_in h62) rfl dX6_work_343 ?_
          refine r_iinc (y := (x4 + (1 : Int32))) (lv' := [(4, .int (x4 + (1 : Int32))), (7, .long y61), (9, .long y26), (0, .ref (a0 0)), (2, .int x2), (3, .int x3), (5, .int x5), (6, .int x6)]) 5 dX6_work_344 rfl rfl (Nat.le_of_ble_eq_true rfl) rfl ?_
          refine r_goto 5 dX6_work_347 (by decide) ?_
          refine r_sub (lv' := [(0, .ref (a0 0)), (2, .int x2), (3, .int x3), (4, .int (x4 + (1 : Int32)))]) [3, 4, 5, 0] rfl ?_
          exact hk5 x3 (x4 + (1 : Int32)) u62 h
      · replace h := it_neg c57 h
        refine r_iconst (x := (0 : Int32)) dX6_work_311 (by decide) ?_
        refine r_goto 328 dX6_work_312 (by decide) ?_
        refine r_ishr dX6_work_328 ?_
        refine r_iconst (x := (1 : Int32)) dX6_work_329 (by decide) ?_
        refine r_iand dX6_work_330 ?_
        refine r_i2l dX6_work_331 ?_
        obtain ⟨y63, e63, h⟩ := lt_some h
        refine r_topl e63 ?_
        refine r_lstore (lv' := [(7, .long y63), (9, .long y26), (0, .ref (a0 0)), (2, .int x2), (3, .int x3), (4, .int x4), (5, .int x5), (6, .int x6)]) dX6_work_332 (Nat.le_of_ble_eq_true rfl) rfl ?_
        refine r_aload_n 2 dX6_work_334 rfl ?_
        refine gRule_stack 0 rfl (tb_in (i := 4) (j := 24) rfl rfl) dX6_work_335 ?_
        refine r_iload_n 4 dX6_work_338 rfl ?_
        refine r_iconst (x := (1 : Int32)) dX6_work_339 (by decide) ?_
        refine r_isub dX6_work_340 ?_
        refine r_lload 0 dX6_work_341 rfl ?_
        obtain ⟨h64, h⟩ := rq_some h
        obtain ⟨u64, e64, h⟩ := lt_some h
        refine sRule_stack (bs1 := [bRule K a0 z0_steps z0_size z0_sumFrom z0_testFrom z0_testTo z0_clauses z0_parts z0_readsTime z0_words u64]) 0 e64 rfl (inb_in h64) rfl dX6_work_343 ?_
        refine r_iinc (y := (x4 + (1 : Int32))) (lv' := [(4, .int (x4 + (1 : Int32))), (7, .long y63), (9, .long y26), (0, .ref (a0 0)), (2, .int x2), (3, .int x3), (5, .int x5), (6, .int x6)]) 5 dX6_work_344 rfl rfl (Nat.le_of_ble_eq_true rfl) rfl ?_
        refine r_goto 5 dX6_work_347 (by decide) ?_
        refine r_sub (lv' := [(0, .ref (a0 0)), (2, .int x2), (3, .int x3), (4, .int (x4 + (1 : Int32)))]) [3, 4, 5, 0] rfl ?_
        exact hk5 x3 (x4 + (1 : Int32)) u64 h
    · replace h := it_neg c22 h
      refine r_lconst (x := (0 : Int64)) dX6_work_131 (by decide) ?_
      have hq := Option.some.inj h
      subst hq
      exact r_lret rfl dX6_work_132
def mRule_work_l5 (z0_steps : Nat → Int32) (z0_size : Int32) (z0_words : Nat → Int64) (x2 : Int32) : Nat → Int32 → Int32 → (Nat → Int64) → Option (Int64 × (Nat → Int64))
  | 0, _, _, _ => none
  | n + 1, x3, x4, z0_stack => (if x2 ≤ x4 then (if x3 ≤ 0 then some ((0 : Int64), z0_stack) else rq (inb (x3 - (1 : Int32)) 61) (some ((z0_stack (x3 - (1 : Int32)).toNatClampNeg), z0_stack))) else (if z0_size ≤ x4 then (if x3 ≤ 0 then some ((0 : Int64), z0_stack) else rq (inb (x3 - (1 : Int32)) 61) (some ((z0_stack (x3 - (1 : Int32)).toNatClampNeg), z0_stack))) else rq (inb x4 400) (lt ((z0_steps x4.toNatClampNeg) &&& (15 : Int32)) (fun y8 => rq (inb x4 400) (lt ((z0_steps x4.toNatClampNeg) >>> ((4 : Int32) &&& 31)) (fun y10 => (if y8 = 0 then mRule_work_j54 (mRule_work_l5 z0_steps z0_size z0_words x2 n) x2 x3 x4 y8 y10 z0_steps z0_size z0_words z0_stack else (if y8 = (1 : Int32) then mRule_work_j54 (mRule_work_l5 z0_steps z0_size z0_words x2 n) x2 x3 x4 y8 y10 z0_steps z0_size z0_words z0_stack else (if y8 = (2 : Int32) then mRule_work_j117 (mRule_work_l5 z0_steps z0_size z0_words x2 n) x2 x3 x4 y8 y10 z0_steps z0_size z0_words z0_stack else mRule_work_j117 (mRule_work_l5 z0_steps z0_size z0_words x2 n) x2 (x3 + (-1 : Int32)) x4 y8 y10 z0_steps z0_size z0_words z0_stack)))))))))
set_option maxHeartbeats 4000000 in
set_option maxRecDepth 20000 in
theorem cRule_work_l5 {q : Int64 × (Nat → Int64)} {x2 : Int32}  : ∀ (n : Nat) (x3 : Int32) (x4 : Int32) (z0_stack : Nat → Int64), mRule_work_l5 z0_steps z0_size z0_words x2 n x3 x4 z0_stack = some q → rW l D Z (ty7 K) MRule_work 5 [(0, .ref (a0 0)), (2, .int x2), (3, .int x3), (4, .int x4)] [] (List.flatten [bRule K a0 z0_steps z0_size z0_sumFrom z0_testFrom z0_testTo z0_clauses z0_parts z0_readsTime z0_words z0_stack]) (List.flatten [bRule K a0 z0_steps z0_size z0_sumFrom z0_testFrom z0_testTo z0_clauses z0_parts z0_readsTime z0_words q.2]) (some (.long q.1)) := by
  intro n
  induction n with
  | zero => intro x3 x4 z0_stack h; unfold mRule_work_l5 at h; cases h
  | succ n ih =>
    intro x3 x4 z0_stack h
    unfold mRule_work_l5 at h
    refine r_iload 3 dX6_work_5 rfl ?_
    refine r_iload_n 1 dX6_work_7 rfl ?_
    refine r_icmp_ge 350 dX6_work_8 (by decide) (fun c1 => ?_) (fun c1 => ?_)
    · replace h := it_pos c1 h
      refine r_iload_n 2 dX6_work_350 rfl ?_
      refine r_if_le 365 dX6_work_351 (by decide) (fun c2 => ?_) (fun c2 => ?_)
      · replace h := it_pos c2 h
        refine r_lconst (x := (0 : Int64)) dX6_work_365 (by decide) ?_
        have hq := Option.some.inj h
        subst hq
        exact r_lret rfl dX6_work_366
      · replace h := it_neg c2 h
        refine r_aload_n 0 dX6_work_354 rfl ?_
        refine gRule_stack 0 rfl (tb_in (i := 4) (j := 24) rfl rfl) dX6_work_355 ?_
        refine r_iload_n 2 dX6_work_358 rfl ?_
        refine r_iconst (x := (1 : Int32)) dX6_work_359 (by decide) ?_
        refine r_isub dX6_work_360 ?_
        obtain ⟨h3, h⟩ := rq_some h
        refine lRule_stack 0 rfl (inb_in h3) dX6_work_361 ?_
        refine r_goto 366 dX6_work_362 (by decide) ?_
        have hq := Option.some.inj h
        subst hq
        exact r_lret rfl dX6_work_366
    · replace h := it_neg c1 h
      refine r_iload 3 dX6_work_11 rfl ?_
      refine r_aload_n 0 dX6_work_13 rfl ?_
      refine gRule_size 0 rfl (tb_in (i := 4) (j := 22) rfl rfl) dX6_work_14 ?_
      refine r_icmp_ge 350 dX6_work_17 (by decide) (fun c4 => ?_) (fun c4 => ?_)
      · replace h := it_pos c4 h
        refine r_iload_n 2 dX6_work_350 rfl ?_
        refine r_if_le 365 dX6_work_351 (by decide) (fun c5 => ?_) (fun c5 => ?_)
        · replace h := it_pos c5 h
          refine r_lconst (x := (0 : Int64)) dX6_work_365 (by decide) ?_
          have hq := Option.some.inj h
          subst hq
          exact r_lret rfl dX6_work_366
        · replace h := it_neg c5 h
          refine r_aload_n 0 dX6_work_354 rfl ?_
          refine gRule_stack 0 rfl (tb_in (i := 4) (j := 24) rfl rfl) dX6_work_355 ?_
          refine r_iload_n 2 dX6_work_358 rfl ?_
          refine r_iconst (x := (1 : Int32)) dX6_work_359 (by decide) ?_
          refine r_isub dX6_work_360 ?_
          obtain ⟨h6, h⟩ := rq_some h
          refine lRule_stack 0 rfl (inb_in h6) dX6_work_361 ?_
          refine r_goto 366 dX6_work_362 (by decide) ?_
          have hq := Option.some.inj h
          subst hq
          exact r_lret rfl dX6_work_366
      · replace h := it_neg c4 h
        refine r_aload_n 0 dX6_work_20 rfl ?_
        refine gRule_steps 0 rfl (tb_in (i := 4) (j := 23) rfl rfl) dX6_work_21 ?_
        refine r_iload 3 dX6_work_24 rfl ?_
        obtain ⟨h7, h⟩ := rq_some h
        refine lRule_steps 0 rfl (inb_in h7) dX6_work_26 ?_
        refine r_bipush (x := (15 : Int32)) dX6_work_27 (by decide) ?_
        refine r_iand dX6_work_29 ?_
        obtain ⟨y8, e8, h⟩ := lt_some h
        refine r_top e8 ?_
        refine r_istore (lv' := [(5, .int y8), (0, .ref (a0 0)), (2, .int x2), (3, .int x3), (4, .int x4)]) dX6_work_30 (Nat.le_of_ble_eq_true rfl) rfl ?_
        refine r_aload_n 1 dX6_work_32 rfl ?_
        refine gRule_steps 0 rfl (tb_in (i := 4) (j := 23) rfl rfl) dX6_work_33 ?_
        refine r_iload 4 dX6_work_36 rfl ?_
        obtain ⟨h9, h⟩ := rq_some h
        refine lRule_steps 0 rfl (inb_in h9) dX6_work_38 ?_
        refine r_iconst (x := (4 : Int32)) dX6_work_39 (by decide) ?_
        refine r_ishr dX6_work_40 ?_
        obtain ⟨y10, e10, h⟩ := lt_some h
        refine r_top e10 ?_
        refine r_istore (lv' := [(6, .int y10), (5, .int y8), (0, .ref (a0 0)), (2, .int x2), (3, .int x3), (4, .int x4)]) dX6_work_41 (Nat.le_of_ble_eq_true rfl) rfl ?_
        refine r_iload 1 dX6_work_43 rfl ?_
        refine r_if_eq 54 dX6_work_45 (by decide) (fun c11 => ?_) (fun c11 => ?_)
        · replace h := it_pos c11 h
          refine r_sub (lv' := [(0, .ref (a0 0)), (2, .int x2), (3, .int x3), (4, .int x4), (5, .int y8), (6, .int y10)]) [2, 3, 4, 5, 1, 0] rfl ?_
          exact cRule_work_j54  (ih) h
        · replace h := it_neg c11 h
          refine r_iload 1 dX6_work_48 rfl ?_
          refine r_iconst (x := (1 : Int32)) dX6_work_50 (by decide) ?_
          refine r_icmp_ne 108 dX6_work_51 (by decide) (fun c19 => ?_) (fun c19 => ?_)
          · replace h := it_neg c19 h
            refine r_iload 1 dX6_work_108 rfl ?_
            refine r_iconst (x := (2 : Int32)) dX6_work_110 (by decide) ?_
            refine r_icmp_eq 117 dX6_work_111 (by decide) (fun c20 => ?_) (fun c20 => ?_)
            · replace h := it_pos c20 h
              refine r_sub (lv' := [(0, .ref (a0 0)), (2, .int x2), (3, .int x3), (4, .int x4), (5, .int y8), (6, .int y10)]) [2, 3, 4, 5, 1, 0] rfl ?_
              exact cRule_work_j117  (ih) h
            · replace h := it_neg c20 h
              refine r_iinc (y := (x3 + (-1 : Int32))) (lv' := [(3, .int (x3 + (-1 : Int32))), (6, .int y10), (5, .int y8), (0, .ref (a0 0)), (2, .int x2), (4, .int x4)]) 4 dX6_work_114 rfl rfl (Nat.le_of_ble_eq_true rfl) rfl ?_
              refine r_sub (lv' := [(0, .ref (a0 0)), (2, .int x2), (3, .int (x3 + (-1 : Int32))), (4, .int x4), (5, .int y8), (6, .int y10)]) [3, 4, 0, 5, 2, 1] rfl ?_
              exact cRule_work_j117  (ih) h
          · replace h := it_pos c19 h
            refine r_sub (lv' := [(0, .ref (a0 0)), (2, .int x2), (3, .int x3), (4, .int x4), (5, .int y8), (6, .int y10)]) [2, 3, 4, 5, 1, 0] rfl ?_
            exact cRule_work_j54  (ih) h
def mRule_work (x1 : Int32) (x2 : Int32) (z0_steps : Nat → Int32) (z0_size : Int32) (z0_words : Nat → Int64) (z0_stack : Nat → Int64) : Option (Int64 × (Nat → Int64)) := mRule_work_l5 z0_steps z0_size z0_words x2 FU (0 : Int32) x1 z0_stack
set_option maxHeartbeats 4000000 in
set_option maxRecDepth 20000 in
theorem cRule_work {q : Int64 × (Nat → Int64)} {x1 : Int32} {x2 : Int32} (h : mRule_work x1 x2 z0_steps z0_size z0_words z0_stack = some q) : rMet l D Z (ty7 K) MRule_work [.ref (a0 0), .int x1, .int x2] (List.flatten [bRule K a0 z0_steps z0_size z0_sumFrom z0_testFrom z0_testTo z0_clauses z0_parts z0_readsTime z0_words z0_stack]) (List.flatten [bRule K a0 z0_steps z0_size z0_sumFrom z0_testFrom z0_testTo z0_clauses z0_parts z0_readsTime z0_words q.2]) (some (.long q.1)) := by
  refine rMet.of (by decide) rfl (Nat.le_of_ble_eq_true rfl) ?_
  refine r_sub (lv' := [(0, .ref (a0 0)), (1, .int x1), (2, .int x2)]) [0, 1, 2] rfl ?_
  unfold mRule_work at h
  refine r_iconst (x := (0 : Int32)) dX6_work_0 (by decide) ?_
  refine r_istore_n (lv' := [(3, .int (0 : Int32)), (0, .ref (a0 0)), (1, .int x1), (2, .int x2)]) dX6_work_1 (Nat.le_of_ble_eq_true rfl) rfl ?_
  refine r_iload_n 2 dX6_work_2 rfl ?_
  refine r_istore (lv' := [(4, .int x1), (3, .int (0 : Int32)), (0, .ref (a0 0)), (1, .int x1), (2, .int x2)]) dX6_work_3 (Nat.le_of_ble_eq_true rfl) rfl ?_
  refine r_sub (lv' := [(0, .ref (a0 0)), (2, .int x2), (3, .int (0 : Int32)), (4, .int x1)]) [2, 4, 1, 0] rfl ?_
  exact cRule_work_l5   FU (0 : Int32) x1 z0_stack h
end
theorem dX6_worth_0 : decode cX6_worth 0 = .ok (.aload_n 0, 1) := by decide +kernel
theorem dX6_worth_1 : decode cX6_worth 1 = .ok (.aload_n 1, 1) := by decide +kernel
theorem dX6_worth_2 : decode cX6_worth 2 = .ok (.iload_n 2, 1) := by decide +kernel
theorem dX6_worth_3 : decode cX6_worth 3 = .ok (.iload_n 3, 1) := by decide +kernel
theorem dX6_worth_4 : decode cX6_worth 4 = .ok (.invokevirtual 47, 3) := by decide +kernel
theorem dX6_worth_7 : decode cX6_worth 7 = .ok (.iconst 0, 1) := by decide +kernel
theorem dX6_worth_8 : decode cX6_worth 8 = .ok (.istore 4, 2) := by decide +kernel
theorem dX6_worth_10 : decode cX6_worth 10 = .ok (.iload 4, 2) := by decide +kernel
theorem dX6_worth_12 : decode cX6_worth 12 = .ok (.aload_n 0, 1) := by decide +kernel
theorem dX6_worth_13 : decode cX6_worth 13 = .ok (.getfield 30, 3) := by decide +kernel
theorem dX6_worth_16 : decode cX6_worth 16 = .ok (.if_icmp .ge 80, 3) := by decide +kernel
theorem dX6_worth_19 : decode cX6_worth 19 = .ok (.aload_n 0, 1) := by decide +kernel
theorem dX6_worth_20 : decode cX6_worth 20 = .ok (.getfield 24, 3) := by decide +kernel
theorem dX6_worth_23 : decode cX6_worth 23 = .ok (.iload 4, 2) := by decide +kernel
theorem dX6_worth_25 : decode cX6_worth 25 = .ok (.iaload, 1) := by decide +kernel
theorem dX6_worth_26 : decode cX6_worth 26 = .ok (.aload_n 0, 1) := by decide +kernel
theorem dX6_worth_27 : decode cX6_worth 27 = .ok (.getfield 27, 3) := by decide +kernel
theorem dX6_worth_30 : decode cX6_worth 30 = .ok (.iload 4, 2) := by decide +kernel
theorem dX6_worth_32 : decode cX6_worth 32 = .ok (.iaload, 1) := by decide +kernel
theorem dX6_worth_33 : decode cX6_worth 33 = .ok (.if_icmp .eq 26, 3) := by decide +kernel
theorem dX6_worth_36 : decode cX6_worth 36 = .ok (.aload_n 0, 1) := by decide +kernel
theorem dX6_worth_37 : decode cX6_worth 37 = .ok (.aload_n 0, 1) := by decide +kernel
theorem dX6_worth_38 : decode cX6_worth 38 = .ok (.getfield 24, 3) := by decide +kernel
theorem dX6_worth_41 : decode cX6_worth 41 = .ok (.iload 4, 2) := by decide +kernel
theorem dX6_worth_43 : decode cX6_worth 43 = .ok (.iaload, 1) := by decide +kernel
theorem dX6_worth_44 : decode cX6_worth 44 = .ok (.aload_n 0, 1) := by decide +kernel
theorem dX6_worth_45 : decode cX6_worth 45 = .ok (.getfield 27, 3) := by decide +kernel
theorem dX6_worth_48 : decode cX6_worth 48 = .ok (.iload 4, 2) := by decide +kernel
theorem dX6_worth_50 : decode cX6_worth 50 = .ok (.iaload, 1) := by decide +kernel
theorem dX6_worth_51 : decode cX6_worth 51 = .ok (.invokevirtual 51, 3) := by decide +kernel
theorem dX6_worth_54 : decode cX6_worth 54 = .ok (.lconst 0, 1) := by decide +kernel
theorem dX6_worth_55 : decode cX6_worth 55 = .ok (.lcmp, 1) := by decide +kernel
theorem dX6_worth_56 : decode cX6_worth 56 = .ok (.ifCond .eq 7, 3) := by decide +kernel
theorem dX6_worth_59 : decode cX6_worth 59 = .ok (.iconst 1, 1) := by decide +kernel
theorem dX6_worth_60 : decode cX6_worth 60 = .ok (.goto 4, 3) := by decide +kernel
theorem dX6_worth_63 : decode cX6_worth 63 = .ok (.iconst 0, 1) := by decide +kernel
theorem dX6_worth_64 : decode cX6_worth 64 = .ok (.istore 5, 2) := by decide +kernel
theorem dX6_worth_66 : decode cX6_worth 66 = .ok (.iload 5, 2) := by decide +kernel
theorem dX6_worth_68 : decode cX6_worth 68 = .ok (.ifCond .eq 22, 3) := by decide +kernel
theorem dX6_worth_71 : decode cX6_worth 71 = .ok (.aload_n 0, 1) := by decide +kernel
theorem dX6_worth_72 : decode cX6_worth 72 = .ok (.aload_n 0, 1) := by decide +kernel
theorem dX6_worth_73 : decode cX6_worth 73 = .ok (.getfield 21, 3) := by decide +kernel
theorem dX6_worth_76 : decode cX6_worth 76 = .ok (.iload 4, 2) := by decide +kernel
theorem dX6_worth_78 : decode cX6_worth 78 = .ok (.iaload, 1) := by decide +kernel
theorem dX6_worth_79 : decode cX6_worth 79 = .ok (.aload_n 0, 1) := by decide +kernel
theorem dX6_worth_80 : decode cX6_worth 80 = .ok (.getfield 24, 3) := by decide +kernel
theorem dX6_worth_83 : decode cX6_worth 83 = .ok (.iload 4, 2) := by decide +kernel
theorem dX6_worth_85 : decode cX6_worth 85 = .ok (.iaload, 1) := by decide +kernel
theorem dX6_worth_86 : decode cX6_worth 86 = .ok (.invokevirtual 51, 3) := by decide +kernel
theorem dX6_worth_89 : decode cX6_worth 89 = .ok (.lreturn, 1) := by decide +kernel
theorem dX6_worth_90 : decode cX6_worth 90 = .ok (.iinc 4 1, 3) := by decide +kernel
theorem dX6_worth_93 : decode cX6_worth 93 = .ok (.goto (-83), 3) := by decide +kernel
theorem dX6_worth_96 : decode cX6_worth 96 = .ok (.lconst 0, 1) := by decide +kernel
theorem dX6_worth_97 : decode cX6_worth 97 = .ok (.lreturn, 1) := by decide +kernel
abbrev MRule_worth : rx_M := (RX6, yX6_worth, cX6_worth, 6, (some .long), 2)
theorem kRule_worth : rKv MRule_worth 3 := ⟨tb_in (i := 5) (j := 5) rfl rfl, tb_in (i := 5) (j := 6) rfl rfl, tb_in (i := 5) (j := 1) rfl rfl, tb_in (i := 4) (j := 25) rfl rfl, ⟨by decide, by decide, by decide +kernel⟩, by decide⟩
section
variable {a0 : Nat → Nat} {a1 : Nat → Nat} {z0_steps : Nat → Int32} {z0_size : Int32} {z0_sumFrom : Nat → Int32} {z0_testFrom : Nat → Int32} {z0_testTo : Nat → Int32} {z0_clauses : Int32} {z0_parts : Int32} {z0_readsTime : Int32} {z0_words : Nat → Int64} {z0_stack : Nat → Int64} {z1_lasts : Int32} {z1_keeps : Int32} {z1_stalls : Int32} {z1_buyers : Int32} {z1_minute : Int32} {z1_goods : Nat → Int32} {z1_price : Nat → Int32} {z1_tongue : Nat → Int32} {z1_till : Nat → Int32} {z1_wealth : Nat → Int32} {z1_sold : Nat → Int32} {z1_ring : Nat → Int32} {z1_grudges : Nat → Int32} {z1_purse : Nat → Int32} {z1_came : Nat → Int32} {z1_had : Nat → Int32} {z1_seller : Nat → Int32} {z1_praise : Nat → Int32} {z1_borne : Nat → Int32}
def mRule_worth_l10 (z0_steps : Nat → Int32) (z0_size : Int32) (z0_sumFrom : Nat → Int32) (z0_testFrom : Nat → Int32) (z0_testTo : Nat → Int32) (z0_clauses : Int32) (z0_words : Nat → Int64) (z1_lasts : Int32) (z1_minute : Int32) (z1_goods : Nat → Int32) (z1_price : Nat → Int32) (z1_sold : Nat → Int32) (z1_purse : Nat → Int32) (z1_came : Nat → Int32) (z1_had : Nat → Int32) (z1_praise : Nat → Int32) (z1_borne : Nat → Int32) : Nat → Int32 → (Nat → Int64) → Option (Int64 × (Nat → Int64) × (Nat → Int64))
  | 0, _, _ => none
  | n + 1, x4, z0_stack => (if z0_clauses ≤ x4 then some ((0 : Int64), z0_words, z0_stack) else rq (inb x4 12) (rq (inb x4 12) ((if (z0_testFrom x4.toNatClampNeg) = (z0_testTo x4.toNatClampNeg) then (if (1 : Int32) = 0 then mRule_worth_l10 z0_steps z0_size z0_sumFrom z0_testFrom z0_testTo z0_clauses z0_words z1_lasts z1_minute z1_goods z1_price z1_sold z1_purse z1_came z1_had z1_praise z1_borne n (x4 + (1 : Int32)) z0_stack else rq (inb x4 12) (rq (inb x4 12) ((mRule_work (z0_sumFrom x4.toNatClampNeg) (z0_testFrom x4.toNatClampNeg) z0_steps z0_size z0_words z0_stack).bind (fun q9 => some (q9.1, z0_words, q9.2))))) else rq (inb x4 12) (rq (inb x4 12) ((mRule_work (z0_testFrom x4.toNatClampNeg) (z0_testTo x4.toNatClampNeg) z0_steps z0_size z0_words z0_stack).bind (fun q12 => (if (lg_cmp q12.1 (0 : Int64)) = 0 then (if (0 : Int32) = 0 then mRule_worth_l10 z0_steps z0_size z0_sumFrom z0_testFrom z0_testTo z0_clauses z0_words z1_lasts z1_minute z1_goods z1_price z1_sold z1_purse z1_came z1_had z1_praise z1_borne n (x4 + (1 : Int32)) q12.2 else rq (inb x4 12) (rq (inb x4 12) ((mRule_work (z0_sumFrom x4.toNatClampNeg) (z0_testFrom x4.toNatClampNeg) z0_steps z0_size z0_words q12.2).bind (fun q17 => some (q17.1, z0_words, q17.2))))) else (if (1 : Int32) = 0 then mRule_worth_l10 z0_steps z0_size z0_sumFrom z0_testFrom z0_testTo z0_clauses z0_words z1_lasts z1_minute z1_goods z1_price z1_sold z1_purse z1_came z1_had z1_praise z1_borne n (x4 + (1 : Int32)) q12.2 else rq (inb x4 12) (rq (inb x4 12) ((mRule_work (z0_sumFrom x4.toNatClampNeg) (z0_testFrom x4.toNatClampNeg) z0_steps z0_size z0_words q12.2).bind (fun q21 => some (q21.1, z0_words, q21.2)))))))))))))
set_option maxHeartbeats 4000000 in
set_option maxRecDepth 20000 in
theorem cRule_worth_l10 {q : Int64 × (Nat → Int64) × (Nat → Int64)}   : ∀ (n : Nat) (x4 : Int32) (z0_stack : Nat → Int64), mRule_worth_l10 z0_steps z0_size z0_sumFrom z0_testFrom z0_testTo z0_clauses z0_words z1_lasts z1_minute z1_goods z1_price z1_sold z1_purse z1_came z1_had z1_praise z1_borne n x4 z0_stack = some q → rW l D Z (ty7 K) MRule_worth 10 [(0, .ref (a0 0)), (4, .int x4)] [] (List.flatten [bRule K a0 z0_steps z0_size z0_sumFrom z0_testFrom z0_testTo z0_clauses z0_parts z0_readsTime z0_words z0_stack, bFair K a1 z1_lasts z1_keeps z1_stalls z1_buyers z1_minute z1_goods z1_price z1_tongue z1_till z1_wealth z1_sold z1_ring z1_grudges z1_purse z1_came z1_had z1_seller z1_praise z1_borne]) (List.flatten [bRule K a0 z0_steps z0_size z0_sumFrom z0_testFrom z0_testTo z0_clauses z0_parts z0_readsTime q.2.1 q.2.2, bFair K a1 z1_lasts z1_keeps z1_stalls z1_buyers z1_minute z1_goods z1_price z1_tongue z1_till z1_wealth z1_sold z1_ring z1_grudges z1_purse z1_came z1_had z1_seller z1_praise z1_borne]) (some (.long q.1)) := by
  intro n
  induction n with
  | zero => intro x4 z0_stack h; unfold mRule_worth_l10 at h; cases h
  | succ n ih =>
    intro x4 z0_stack h
    unfold mRule_worth_l10 at h
    refine r_iload 1 dX6_worth_10 rfl ?_
    refine r_aload_n 0 dX6_worth_12 rfl ?_
    refine gRule_clauses 0 rfl (tb_in (i := 4) (j := 26) rfl rfl) dX6_worth_13 ?_
    refine r_icmp_ge 96 dX6_worth_16 (by decide) (fun c2 => ?_) (fun c2 => ?_)
    · replace h := it_pos c2 h
      refine r_lconst (x := (0 : Int64)) dX6_worth_96 (by decide) ?_
      have hq := Option.some.inj h
      subst hq
      exact r_lret rfl dX6_worth_97
    · replace h := it_neg c2 h
      refine r_aload_n 0 dX6_worth_19 rfl ?_
      refine gRule_testFrom 0 rfl (tb_in (i := 4) (j := 27) rfl rfl) dX6_worth_20 ?_
      refine r_iload 1 dX6_worth_23 rfl ?_
      obtain ⟨h3, h⟩ := rq_some h
      refine lRule_testFrom 0 rfl (inb_in h3) dX6_worth_25 ?_
      refine r_aload_n 0 dX6_worth_26 rfl ?_
      refine gRule_testTo 0 rfl (tb_in (i := 4) (j := 28) rfl rfl) dX6_worth_27 ?_
      refine r_iload 1 dX6_worth_30 rfl ?_
      obtain ⟨h4, h⟩ := rq_some h
      refine lRule_testTo 0 rfl (inb_in h4) dX6_worth_32 ?_
      refine r_icmp_eq 59 dX6_worth_33 (by decide) (fun c5 => ?_) (fun c5 => ?_)
      · replace h := it_pos c5 h
        refine r_iconst (x := (1 : Int32)) dX6_worth_59 (by decide) ?_
        refine r_goto 64 dX6_worth_60 (by decide) ?_
        refine r_istore (lv' := [(5, .int (1 : Int32)), (0, .ref (a0 0)), (4, .int x4)]) dX6_worth_64 (Nat.le_of_ble_eq_true rfl) rfl ?_
        refine r_iload 0 dX6_worth_66 rfl ?_
        refine r_if_eq 90 dX6_worth_68 (by decide) (fun c6 => ?_) (fun c6 => ?_)
        · replace h := it_pos c6 h
          refine r_iinc (y := (x4 + (1 : Int32))) (lv' := [(4, .int (x4 + (1 : Int32))), (5, .int (1 : Int32)), (0, .ref (a0 0))]) 2 dX6_worth_90 rfl rfl (Nat.le_of_ble_eq_true rfl) rfl ?_
          refine r_goto 10 dX6_worth_93 (by decide) ?_
          refine r_sub (lv' := [(0, .ref (a0 0)), (4, .int (x4 + (1 : Int32)))]) [2, 0] rfl ?_
          exact ih (x4 + (1 : Int32)) z0_stack h
        · replace h := it_neg c6 h
          refine r_aload_n 1 dX6_worth_71 rfl ?_
          refine r_aload_n 1 dX6_worth_72 rfl ?_
          refine gRule_sumFrom 0 rfl (tb_in (i := 4) (j := 29) rfl rfl) dX6_worth_73 ?_
          refine r_iload 2 dX6_worth_76 rfl ?_
          obtain ⟨h7, h⟩ := rq_some h
          refine lRule_sumFrom 0 rfl (inb_in h7) dX6_worth_78 ?_
          refine r_aload_n 1 dX6_worth_79 rfl ?_
          refine gRule_testFrom 0 rfl (tb_in (i := 4) (j := 27) rfl rfl) dX6_worth_80 ?_
          refine r_iload 2 dX6_worth_83 rfl ?_
          obtain ⟨h8, h⟩ := rq_some h
          refine lRule_testFrom 0 rfl (inb_in h8) dX6_worth_85 ?_
          obtain ⟨q9, h9, h⟩ := bd_some h
          refine b_callV (isC := [0]) (ci := 5)  (st := []) (bs1 := [bRule K a0 z0_steps z0_size z0_sumFrom z0_testFrom z0_testTo z0_clauses z0_parts z0_readsTime z0_words q9.2, bFair K a1 z1_lasts z1_keeps z1_stalls z1_buyers z1_minute z1_goods z1_price z1_tongue z1_till z1_wealth z1_sold z1_ring z1_grudges z1_purse z1_came z1_had z1_seller z1_praise z1_borne]) (cRule_work (a0 := a0) (z0_steps := z0_steps) (z0_size := z0_size) (z0_sumFrom := z0_sumFrom) (z0_testFrom := z0_testFrom) (z0_testTo := z0_testTo) (z0_clauses := z0_clauses) (z0_parts := z0_parts) (z0_readsTime := z0_readsTime) (z0_words := z0_words) (z0_stack := z0_stack) h9) rfl rfl (Nat.le_of_ble_eq_true rfl) kRule_work (tb_in (i := 5) (j := 2) rfl rfl) (by decide) (by decide) rfl rfl rfl rfl rfl rfl rfl dX6_worth_86 ?_
          have hq := Option.some.inj h
          subst hq
          exact r_lret rfl dX6_worth_89
      · replace h := it_neg c5 h
        refine r_aload_n 0 dX6_worth_36 rfl ?_
        refine r_aload_n 0 dX6_worth_37 rfl ?_
        refine gRule_testFrom 0 rfl (tb_in (i := 4) (j := 27) rfl rfl) dX6_worth_38 ?_
        refine r_iload 1 dX6_worth_41 rfl ?_
        obtain ⟨h10, h⟩ := rq_some h
        refine lRule_testFrom 0 rfl (inb_in h10) dX6_worth_43 ?_
        refine r_aload_n 0 dX6_worth_44 rfl ?_
        refine gRule_testTo 0 rfl (tb_in (i := 4) (j := 28) rfl rfl) dX6_worth_45 ?_
        refine r_iload 1 dX6_worth_48 rfl ?_
        obtain ⟨h11, h⟩ := rq_some h
        refine lRule_testTo 0 rfl (inb_in h11) dX6_worth_50 ?_
        obtain ⟨q12, h12, h⟩ := bd_some h
        refine b_callV (isC := [0]) (ci := 5)  (st := []) (bs1 := [bRule K a0 z0_steps z0_size z0_sumFrom z0_testFrom z0_testTo z0_clauses z0_parts z0_readsTime z0_words q12.2, bFair K a1 z1_lasts z1_keeps z1_stalls z1_buyers z1_minute z1_goods z1_price z1_tongue z1_till z1_wealth z1_sold z1_ring z1_grudges z1_purse z1_came z1_had z1_seller z1_praise z1_borne]) (cRule_work (a0 := a0) (z0_steps := z0_steps) (z0_size := z0_size) (z0_sumFrom := z0_sumFrom) (z0_testFrom := z0_testFrom) (z0_testTo := z0_testTo) (z0_clauses := z0_clauses) (z0_parts := z0_parts) (z0_readsTime := z0_readsTime) (z0_words := z0_words) (z0_stack := z0_stack) h12) rfl rfl (Nat.le_of_ble_eq_true rfl) kRule_work (tb_in (i := 5) (j := 2) rfl rfl) (by decide) (by decide) rfl rfl rfl rfl rfl rfl rfl dX6_worth_51 ?_
        refine r_lconst (x := (0 : Int64)) dX6_worth_54 (by decide) ?_
        refine r_lcmp dX6_worth_55 ?_
        refine r_if_eq 63 dX6_worth_56 (by decide) (fun c13 => ?_) (fun c13 => ?_)
        · replace h := it_pos c13 h
          refine r_iconst (x := (0 : Int32)) dX6_worth_63 (by decide) ?_
          refine r_istore (lv' := [(5, .int (0 : Int32)), (0, .ref (a0 0)), (4, .int x4)]) dX6_worth_64 (Nat.le_of_ble_eq_true rfl) rfl ?_
          refine r_iload 0 dX6_worth_66 rfl ?_
          refine r_if_eq 90 dX6_worth_68 (by decide) (fun c14 => ?_) (fun c14 => ?_)
          · replace h := it_pos c14 h
            refine r_iinc (y := (x4 + (1 : Int32))) (lv' := [(4, .int (x4 + (1 : Int32))), (5, .int (0 : Int32)), (0, .ref (a0 0))]) 2 dX6_worth_90 rfl rfl (Nat.le_of_ble_eq_true rfl) rfl ?_
            refine r_goto 10 dX6_worth_93 (by decide) ?_
            refine r_sub (lv' := [(0, .ref (a0 0)), (4, .int (x4 + (1 : Int32)))]) [2, 0] rfl ?_
            exact ih (x4 + (1 : Int32)) q12.2 h
          · replace h := it_neg c14 h
            refine r_aload_n 1 dX6_worth_71 rfl ?_
            refine r_aload_n 1 dX6_worth_72 rfl ?_
            refine gRule_sumFrom 0 rfl (tb_in (i := 4) (j := 29) rfl rfl) dX6_worth_73 ?_
            refine r_iload 2 dX6_worth_76 rfl ?_
            obtain ⟨h15, h⟩ := rq_some h
            refine lRule_sumFrom 0 rfl (inb_in h15) dX6_worth_78 ?_
            refine r_aload_n 1 dX6_worth_79 rfl ?_
            refine gRule_testFrom 0 rfl (tb_in (i := 4) (j := 27) rfl rfl) dX6_worth_80 ?_
            refine r_iload 2 dX6_worth_83 rfl ?_
            obtain ⟨h16, h⟩ := rq_some h
            refine lRule_testFrom 0 rfl (inb_in h16) dX6_worth_85 ?_
            obtain ⟨q17, h17, h⟩ := bd_some h
            refine b_callV (isC := [0]) (ci := 5)  (st := []) (bs1 := [bRule K a0 z0_steps z0_size z0_sumFrom z0_testFrom z0_testTo z0_clauses z0_parts z0_readsTime z0_words q17.2, bFair K a1 z1_lasts z1_keeps z1_stalls z1_buyers z1_minute z1_goods z1_price z1_tongue z1_till z1_wealth z1_sold z1_ring z1_grudges z1_purse z1_came z1_had z1_seller z1_praise z1_borne]) (cRule_work (a0 := a0) (z0_steps := z0_steps) (z0_size := z0_size) (z0_sumFrom := z0_sumFrom) (z0_testFrom := z0_testFrom) (z0_testTo := z0_testTo) (z0_clauses := z0_clauses) (z0_parts := z0_parts) (z0_readsTime := z0_readsTime) (z0_words := z0_words) (z0_stack := q12.2) h17) rfl rfl (Nat.le_of_ble_eq_true rfl) kRule_work (tb_in (i := 5) (j := 2) rfl rfl) (by decide) (by decide) rfl rfl rfl rfl rfl rfl rfl dX6_worth_86 ?_
            have hq := Option.some.inj h
            subst hq
            exact r_lret rfl dX6_worth_89
        · replace h := it_neg c13 h
          refine r_iconst (x := (1 : Int32)) dX6_worth_59 (by decide) ?_
          refine r_goto 64 dX6_worth_60 (by decide) ?_
          refine r_istore (lv' := [(5, .int (1 : Int32)), (0, .ref (a0 0)), (4, .int x4)]) dX6_worth_64 (Nat.le_of_ble_eq_true rfl) rfl ?_
          refine r_iload 0 dX6_worth_66 rfl ?_
          refine r_if_eq 90 dX6_worth_68 (by decide) (fun c18 => ?_) (fun c18 => ?_)
          · replace h := it_pos c18 h
            refine r_iinc (y := (x4 + (1 : Int32))) (lv' := [(4, .int (x4 + (1 : Int32))), (5, .int (1 : Int32)), (0, .ref (a0 0))]) 2 dX6_worth_90 rfl rfl (Nat.le_of_ble_eq_true rfl) rfl ?_
            refine r_goto 10 dX6_worth_93 (by decide) ?_
            refine r_sub (lv' := [(0, .ref (a0 0)), (4, .int (x4 + (1 : Int32)))]) [2, 0] rfl ?_
            exact ih (x4 + (1 : Int32)) q12.2 h
          · replace h := it_neg c18 h
            refine r_aload_n 1 dX6_worth_71 rfl ?_
            refine r_aload_n 1 dX6_worth_72 rfl ?_
            refine gRule_sumFrom 0 rfl (tb_in (i := 4) (j := 29) rfl rfl) dX6_worth_73 ?_
            refine r_iload 2 dX6_worth_76 rfl ?_
            obtain ⟨h19, h⟩ := rq_some h
            refine lRule_sumFrom 0 rfl (inb_in h19) dX6_worth_78 ?_
            refine r_aload_n 1 dX6_worth_79 rfl ?_
            refine gRule_testFrom 0 rfl (tb_in (i := 4) (j := 27) rfl rfl) dX6_worth_80 ?_
            refine r_iload 2 dX6_worth_83 rfl ?_
            obtain ⟨h20, h⟩ := rq_some h
            refine lRule_testFrom 0 rfl (inb_in h20) dX6_worth_85 ?_
            obtain ⟨q21, h21, h⟩ := bd_some h
            refine b_callV (isC := [0]) (ci := 5)  (st := []) (bs1 := [bRule K a0 z0_steps z0_size z0_sumFrom z0_testFrom z0_testTo z0_clauses z0_parts z0_readsTime z0_words q21.2, bFair K a1 z1_lasts z1_keeps z1_stalls z1_buyers z1_minute z1_goods z1_price z1_tongue z1_till z1_wealth z1_sold z1_ring z1_grudges z1_purse z1_came z1_had z1_seller z1_praise z1_borne]) (cRule_work (a0 := a0) (z0_steps := z0_steps) (z0_size := z0_size) (z0_sumFrom := z0_sumFrom) (z0_testFrom := z0_testFrom) (z0_testTo := z0_testTo) (z0_clauses := z0_clauses) (z0_parts := z0_parts) (z0_readsTime := z0_readsTime) (z0_words := z0_words) (z0_stack := q12.2) h21) rfl rfl (Nat.le_of_ble_eq_true rfl) kRule_work (tb_in (i := 5) (j := 2) rfl rfl) (by decide) (by decide) rfl rfl rfl rfl rfl rfl rfl dX6_worth_86 ?_
            have hq := Option.some.inj h
            subst hq
            exact r_lret rfl dX6_worth_89
def mRule_worth (x2 : Int32) (x3 : Int32) (z0_steps : Nat → Int32) (z0_size : Int32) (z0_sumFrom : Nat → Int32) (z0_testFrom : Nat → Int32) (z0_testTo : Nat → Int32) (z0_clauses : Int32) (z0_words : Nat → Int64) (z0_stack : Nat → Int64) (z1_lasts : Int32) (z1_minute : Int32) (z1_goods : Nat → Int32) (z1_price : Nat → Int32) (z1_sold : Nat → Int32) (z1_purse : Nat → Int32) (z1_came : Nat → Int32) (z1_had : Nat → Int32) (z1_praise : Nat → Int32) (z1_borne : Nat → Int32) : Option (Int64 × (Nat → Int64) × (Nat → Int64)) := (mRule_tellWords x2 x3 z0_words z1_lasts z1_minute z1_goods z1_price z1_sold z1_purse z1_came z1_had z1_praise z1_borne).bind (fun q1 => mRule_worth_l10 z0_steps z0_size z0_sumFrom z0_testFrom z0_testTo z0_clauses q1 z1_lasts z1_minute z1_goods z1_price z1_sold z1_purse z1_came z1_had z1_praise z1_borne FU (0 : Int32) z0_stack)
set_option maxHeartbeats 4000000 in
set_option maxRecDepth 20000 in
theorem cRule_worth {q : Int64 × (Nat → Int64) × (Nat → Int64)} {x2 : Int32} {x3 : Int32} (h : mRule_worth x2 x3 z0_steps z0_size z0_sumFrom z0_testFrom z0_testTo z0_clauses z0_words z0_stack z1_lasts z1_minute z1_goods z1_price z1_sold z1_purse z1_came z1_had z1_praise z1_borne = some q) : rMet l D Z (ty7 K) MRule_worth [.ref (a0 0), .ref (a1 0), .int x2, .int x3] (List.flatten [bRule K a0 z0_steps z0_size z0_sumFrom z0_testFrom z0_testTo z0_clauses z0_parts z0_readsTime z0_words z0_stack, bFair K a1 z1_lasts z1_keeps z1_stalls z1_buyers z1_minute z1_goods z1_price z1_tongue z1_till z1_wealth z1_sold z1_ring z1_grudges z1_purse z1_came z1_had z1_seller z1_praise z1_borne]) (List.flatten [bRule K a0 z0_steps z0_size z0_sumFrom z0_testFrom z0_testTo z0_clauses z0_parts z0_readsTime q.2.1 q.2.2, bFair K a1 z1_lasts z1_keeps z1_stalls z1_buyers z1_minute z1_goods z1_price z1_tongue z1_till z1_wealth z1_sold z1_ring z1_grudges z1_purse z1_came z1_had z1_seller z1_praise z1_borne]) (some (.long q.1)) := by
  refine rMet.of (by decide) rfl (Nat.le_of_ble_eq_true rfl) ?_
  refine r_sub (lv' := [(0, .ref (a0 0)), (1, .ref (a1 0)), (2, .int x2), (3, .int x3)]) [0, 1, 2, 3] rfl ?_
  unfold mRule_worth at h
  refine r_aload_n 0 dX6_worth_0 rfl ?_
  refine r_aload_n 1 dX6_worth_1 rfl ?_
  refine r_iload_n 2 dX6_worth_2 rfl ?_
  refine r_iload_n 3 dX6_worth_3 rfl ?_
  obtain ⟨q1, h1, h⟩ := bd_some h
  refine b_callV (isC := [0, 1]) (ci := 5)  (st := []) (bs1 := [bRule K a0 z0_steps z0_size z0_sumFrom z0_testFrom z0_testTo z0_clauses z0_parts z0_readsTime q1 z0_stack, bFair K a1 z1_lasts z1_keeps z1_stalls z1_buyers z1_minute z1_goods z1_price z1_tongue z1_till z1_wealth z1_sold z1_ring z1_grudges z1_purse z1_came z1_had z1_seller z1_praise z1_borne]) (cRule_tellWords (a0 := a0) (a1 := a1) (z0_steps := z0_steps) (z0_size := z0_size) (z0_sumFrom := z0_sumFrom) (z0_testFrom := z0_testFrom) (z0_testTo := z0_testTo) (z0_clauses := z0_clauses) (z0_parts := z0_parts) (z0_readsTime := z0_readsTime) (z0_words := z0_words) (z0_stack := z0_stack) (z1_lasts := z1_lasts) (z1_keeps := z1_keeps) (z1_stalls := z1_stalls) (z1_buyers := z1_buyers) (z1_minute := z1_minute) (z1_goods := z1_goods) (z1_price := z1_price) (z1_tongue := z1_tongue) (z1_till := z1_till) (z1_wealth := z1_wealth) (z1_sold := z1_sold) (z1_ring := z1_ring) (z1_grudges := z1_grudges) (z1_purse := z1_purse) (z1_came := z1_came) (z1_had := z1_had) (z1_seller := z1_seller) (z1_praise := z1_praise) (z1_borne := z1_borne) h1) rfl rfl (Nat.le_of_ble_eq_true rfl) kRule_tellWords (tb_in (i := 4) (j := 30) rfl rfl) (by decide) (by decide) rfl rfl rfl rfl rfl rfl rfl dX6_worth_4 ?_
  refine r_iconst (x := (0 : Int32)) dX6_worth_7 (by decide) ?_
  refine r_istore (lv' := [(4, .int (0 : Int32)), (0, .ref (a0 0)), (1, .ref (a1 0)), (2, .int x2), (3, .int x3)]) dX6_worth_8 (Nat.le_of_ble_eq_true rfl) rfl ?_
  refine r_sub (lv' := [(0, .ref (a0 0)), (4, .int (0 : Int32))]) [1, 0] rfl ?_
  exact cRule_worth_l10   FU (0 : Int32) z0_stack h
end
theorem dX1_choice_0 : decode cX1_choice 0 = .ok (.iconst (-1), 1) := by decide +kernel
theorem dX1_choice_1 : decode cX1_choice 1 = .ok (.istore_n 3, 1) := by decide +kernel
theorem dX1_choice_2 : decode cX1_choice 2 = .ok (.lconst 0, 1) := by decide +kernel
theorem dX1_choice_3 : decode cX1_choice 3 = .ok (.lstore 4, 2) := by decide +kernel
theorem dX1_choice_5 : decode cX1_choice 5 = .ok (.iconst 0, 1) := by decide +kernel
theorem dX1_choice_6 : decode cX1_choice 6 = .ok (.istore 6, 2) := by decide +kernel
theorem dX1_choice_8 : decode cX1_choice 8 = .ok (.iload 6, 2) := by decide +kernel
theorem dX1_choice_10 : decode cX1_choice 10 = .ok (.aload_n 0, 1) := by decide +kernel
theorem dX1_choice_11 : decode cX1_choice 11 = .ok (.getfield 18, 3) := by decide +kernel
theorem dX1_choice_14 : decode cX1_choice 14 = .ok (.if_icmp .ge 81, 3) := by decide +kernel
theorem dX1_choice_17 : decode cX1_choice 17 = .ok (.aload_n 0, 1) := by decide +kernel
theorem dX1_choice_18 : decode cX1_choice 18 = .ok (.iload_n 2, 1) := by decide +kernel
theorem dX1_choice_19 : decode cX1_choice 19 = .ok (.iload 6, 2) := by decide +kernel
theorem dX1_choice_21 : decode cX1_choice 21 = .ok (.invokevirtual 97, 3) := by decide +kernel
theorem dX1_choice_24 : decode cX1_choice 24 = .ok (.ifCond .ne 6, 3) := by decide +kernel
theorem dX1_choice_27 : decode cX1_choice 27 = .ok (.goto 62, 3) := by decide +kernel
theorem dX1_choice_30 : decode cX1_choice 30 = .ok (.aload_n 1, 1) := by decide +kernel
theorem dX1_choice_31 : decode cX1_choice 31 = .ok (.ifnull 14, 3) := by decide +kernel
theorem dX1_choice_34 : decode cX1_choice 34 = .ok (.aload_n 1, 1) := by decide +kernel
theorem dX1_choice_35 : decode cX1_choice 35 = .ok (.aload_n 0, 1) := by decide +kernel
theorem dX1_choice_36 : decode cX1_choice 36 = .ok (.iload_n 2, 1) := by decide +kernel
theorem dX1_choice_37 : decode cX1_choice 37 = .ok (.iload 6, 2) := by decide +kernel
theorem dX1_choice_39 : decode cX1_choice 39 = .ok (.invokevirtual 123, 3) := by decide +kernel
theorem dX1_choice_42 : decode cX1_choice 42 = .ok (.goto 30, 3) := by decide +kernel
theorem dX1_choice_45 : decode cX1_choice 45 = .ok (.iconst 1, 1) := by decide +kernel
theorem dX1_choice_46 : decode cX1_choice 46 = .ok (.aload_n 0, 1) := by decide +kernel
theorem dX1_choice_47 : decode cX1_choice 47 = .ok (.getfield 64, 3) := by decide +kernel
theorem dX1_choice_50 : decode cX1_choice 50 = .ok (.iload 6, 2) := by decide +kernel
theorem dX1_choice_52 : decode cX1_choice 52 = .ok (.iaload, 1) := by decide +kernel
theorem dX1_choice_53 : decode cX1_choice 53 = .ok (.iadd, 1) := by decide +kernel
theorem dX1_choice_54 : decode cX1_choice 54 = .ok (.aload_n 0, 1) := by decide +kernel
theorem dX1_choice_55 : decode cX1_choice 55 = .ok (.getfield 55, 3) := by decide +kernel
theorem dX1_choice_58 : decode cX1_choice 58 = .ok (.iload_n 2, 1) := by decide +kernel
theorem dX1_choice_59 : decode cX1_choice 59 = .ok (.iaload, 1) := by decide +kernel
theorem dX1_choice_60 : decode cX1_choice 60 = .ok (.iload 6, 2) := by decide +kernel
theorem dX1_choice_62 : decode cX1_choice 62 = .ok (.if_icmp .ne 7, 3) := by decide +kernel
theorem dX1_choice_65 : decode cX1_choice 65 = .ok (.iconst 3, 1) := by decide +kernel
theorem dX1_choice_66 : decode cX1_choice 66 = .ok (.goto 4, 3) := by decide +kernel
theorem dX1_choice_69 : decode cX1_choice 69 = .ok (.iconst 0, 1) := by decide +kernel
theorem dX1_choice_70 : decode cX1_choice 70 = .ok (.iadd, 1) := by decide +kernel
theorem dX1_choice_71 : decode cX1_choice 71 = .ok (.i2l, 1) := by decide +kernel
theorem dX1_choice_72 : decode cX1_choice 72 = .ok (.lstore 7, 2) := by decide +kernel
theorem dX1_choice_74 : decode cX1_choice 74 = .ok (.lload 7, 2) := by decide +kernel
theorem dX1_choice_76 : decode cX1_choice 76 = .ok (.lload 4, 2) := by decide +kernel
theorem dX1_choice_78 : decode cX1_choice 78 = .ok (.lcmp, 1) := by decide +kernel
theorem dX1_choice_79 : decode cX1_choice 79 = .ok (.ifCond .le 10, 3) := by decide +kernel
theorem dX1_choice_82 : decode cX1_choice 82 = .ok (.lload 7, 2) := by decide +kernel
theorem dX1_choice_84 : decode cX1_choice 84 = .ok (.lstore 4, 2) := by decide +kernel
theorem dX1_choice_86 : decode cX1_choice 86 = .ok (.iload 6, 2) := by decide +kernel
theorem dX1_choice_88 : decode cX1_choice 88 = .ok (.istore_n 3, 1) := by decide +kernel
theorem dX1_choice_89 : decode cX1_choice 89 = .ok (.iinc 6 1, 3) := by decide +kernel
theorem dX1_choice_92 : decode cX1_choice 92 = .ok (.goto (-84), 3) := by decide +kernel
theorem dX1_choice_95 : decode cX1_choice 95 = .ok (.iload_n 3, 1) := by decide +kernel
theorem dX1_choice_96 : decode cX1_choice 96 = .ok (.ireturn, 1) := by decide +kernel
abbrev MFair_choicer : rx_M := (RX1, yX1_choice, cX1_choice, 9, (some .int), 3)
theorem kFair_choicer : rKv MFair_choicer 2 := ⟨tb_in (i := 5) (j := 9) rfl rfl, tb_in (i := 5) (j := 10) rfl rfl, tb_in (i := 3) (j := 26) rfl rfl, tb_in (i := 5) (j := 7) rfl rfl, ⟨by decide, by decide, by decide +kernel⟩, by decide⟩
section
variable {a0 : Nat → Nat} {a1 : Nat → Nat} {z0_lasts : Int32} {z0_keeps : Int32} {z0_stalls : Int32} {z0_buyers : Int32} {z0_minute : Int32} {z0_goods : Nat → Int32} {z0_price : Nat → Int32} {z0_tongue : Nat → Int32} {z0_till : Nat → Int32} {z0_wealth : Nat → Int32} {z0_sold : Nat → Int32} {z0_ring : Nat → Int32} {z0_grudges : Nat → Int32} {z0_purse : Nat → Int32} {z0_came : Nat → Int32} {z0_had : Nat → Int32} {z0_seller : Nat → Int32} {z0_praise : Nat → Int32} {z0_borne : Nat → Int32} {z1_steps : Nat → Int32} {z1_size : Int32} {z1_sumFrom : Nat → Int32} {z1_testFrom : Nat → Int32} {z1_testTo : Nat → Int32} {z1_clauses : Int32} {z1_parts : Int32} {z1_readsTime : Int32} {z1_words : Nat → Int64} {z1_stack : Nat → Int64}
def mFair_choicer_l8 (z0_lasts : Int32) (z0_stalls : Int32) (z0_minute : Int32) (z0_goods : Nat → Int32) (z0_price : Nat → Int32) (z0_sold : Nat → Int32) (z0_purse : Nat → Int32) (z0_came : Nat → Int32) (z0_had : Nat → Int32) (z0_praise : Nat → Int32) (z0_borne : Nat → Int32) (z1_steps : Nat → Int32) (z1_size : Int32) (z1_sumFrom : Nat → Int32) (z1_testFrom : Nat → Int32) (z1_testTo : Nat → Int32) (z1_clauses : Int32) (x2 : Int32) : Nat → Int32 → Int64 → Int32 → (Nat → Int64) → (Nat → Int64) → Option (Int32 × (Nat → Int64) × (Nat → Int64))
  | 0, _, _, _, _, _ => none
  | n + 1, x3, x4, x6, z1_words, z1_stack => (if z0_stalls ≤ x6 then some (x3, z1_words, z1_stack) else (mFair_can x2 x6 z0_goods z0_price z0_purse).bind (fun q2 => (if q2 = 0 then mFair_choicer_l8 z0_lasts z0_stalls z0_minute z0_goods z0_price z0_sold z0_purse z0_came z0_had z0_praise z0_borne z1_steps z1_size z1_sumFrom z1_testFrom z1_testTo z1_clauses x2 n x3 x4 (x6 + (1 : Int32)) z1_words z1_stack else (mRule_worth x2 x6 z1_steps z1_size z1_sumFrom z1_testFrom z1_testTo z1_clauses z1_words z1_stack z0_lasts z0_minute z0_goods z0_price z0_sold z0_purse z0_came z0_had z0_praise z0_borne).bind (fun q4 => (if (lg_cmp q4.1 x4) ≤ 0 then mFair_choicer_l8 z0_lasts z0_stalls z0_minute z0_goods z0_price z0_sold z0_purse z0_came z0_had z0_praise z0_borne z1_steps z1_size z1_sumFrom z1_testFrom z1_testTo z1_clauses x2 n x3 x4 (x6 + (1 : Int32)) q4.2.1 q4.2.2 else mFair_choicer_l8 z0_lasts z0_stalls z0_minute z0_goods z0_price z0_sold z0_purse z0_came z0_had z0_praise z0_borne z1_steps z1_size z1_sumFrom z1_testFrom z1_testTo z1_clauses x2 n x6 q4.1 (x6 + (1 : Int32)) q4.2.1 q4.2.2)))))
set_option maxHeartbeats 4000000 in
set_option maxRecDepth 20000 in
theorem cFair_choicer_l8 {q : Int32 × (Nat → Int64) × (Nat → Int64)} {x2 : Int32}  : ∀ (n : Nat) (x3 : Int32) (x4 : Int64) (x6 : Int32) (z1_words : Nat → Int64) (z1_stack : Nat → Int64), mFair_choicer_l8 z0_lasts z0_stalls z0_minute z0_goods z0_price z0_sold z0_purse z0_came z0_had z0_praise z0_borne z1_steps z1_size z1_sumFrom z1_testFrom z1_testTo z1_clauses x2 n x3 x4 x6 z1_words z1_stack = some q → rW l D Z (ty7 K) MFair_choicer 8 [(0, .ref (a0 0)), (1, .ref (a1 0)), (2, .int x2), (3, .int x3), (4, .long x4), (6, .int x6)] [] (List.flatten [bFair K a0 z0_lasts z0_keeps z0_stalls z0_buyers z0_minute z0_goods z0_price z0_tongue z0_till z0_wealth z0_sold z0_ring z0_grudges z0_purse z0_came z0_had z0_seller z0_praise z0_borne, bRule K a1 z1_steps z1_size z1_sumFrom z1_testFrom z1_testTo z1_clauses z1_parts z1_readsTime z1_words z1_stack]) (List.flatten [bFair K a0 z0_lasts z0_keeps z0_stalls z0_buyers z0_minute z0_goods z0_price z0_tongue z0_till z0_wealth z0_sold z0_ring z0_grudges z0_purse z0_came z0_had z0_seller z0_praise z0_borne, bRule K a1 z1_steps z1_size z1_sumFrom z1_testFrom z1_testTo z1_clauses z1_parts z1_readsTime q.2.1 q.2.2]) (some (.int q.1)) := by
  intro n
  induction n with
  | zero => intro x3 x4 x6 z1_words z1_stack h; unfold mFair_choicer_l8 at h; cases h
  | succ n ih =>
    intro x3 x4 x6 z1_words z1_stack h
    unfold mFair_choicer_l8 at h
    refine r_iload 5 dX1_choice_8 rfl ?_
    refine r_aload_n 0 dX1_choice_10 rfl ?_
    refine gFair_stalls 0 rfl (tb_in (i := 2) (j := 31) rfl rfl) dX1_choice_11 ?_
    refine r_icmp_ge 95 dX1_choice_14 (by decide) (fun c1 => ?_) (fun c1 => ?_)
    · replace h := it_pos c1 h
      refine r_iload_n 3 dX1_choice_95 rfl ?_
      have hq := Option.some.inj h
      subst hq
      exact r_iret rfl dX1_choice_96
    · replace h := it_neg c1 h
      refine r_aload_n 0 dX1_choice_17 rfl ?_
      refine r_iload_n 2 dX1_choice_18 rfl ?_
      refine r_iload 5 dX1_choice_19 rfl ?_
      obtain ⟨q2, h2, h⟩ := bd_some h
      refine b_callV (isC := [0]) (ci := 1)  (st := []) (bs1 := [bFair K a0 z0_lasts z0_keeps z0_stalls z0_buyers z0_minute z0_goods z0_price z0_tongue z0_till z0_wealth z0_sold z0_ring z0_grudges z0_purse z0_came z0_had z0_seller z0_praise z0_borne, bRule K a1 z1_steps z1_size z1_sumFrom z1_testFrom z1_testTo z1_clauses z1_parts z1_readsTime z1_words z1_stack]) (cFair_can (a0 := a0) (z0_lasts := z0_lasts) (z0_keeps := z0_keeps) (z0_stalls := z0_stalls) (z0_buyers := z0_buyers) (z0_minute := z0_minute) (z0_goods := z0_goods) (z0_price := z0_price) (z0_tongue := z0_tongue) (z0_till := z0_till) (z0_wealth := z0_wealth) (z0_sold := z0_sold) (z0_ring := z0_ring) (z0_grudges := z0_grudges) (z0_purse := z0_purse) (z0_came := z0_came) (z0_had := z0_had) (z0_seller := z0_seller) (z0_praise := z0_praise) (z0_borne := z0_borne) h2) rfl rfl (Nat.le_of_ble_eq_true rfl) kFair_can (tb_in (i := 4) (j := 15) rfl rfl) (by decide) (by decide) rfl rfl rfl rfl rfl rfl rfl dX1_choice_21 ?_
      refine r_if_ne 30 dX1_choice_24 (by decide) (fun c3 => ?_) (fun c3 => ?_)
      · replace h := it_neg c3 h
        refine r_aload_n 1 dX1_choice_30 rfl ?_
        refine r_ifnull_ref dX1_choice_31 ?_
        refine r_aload_n 1 dX1_choice_34 rfl ?_
        refine r_aload_n 0 dX1_choice_35 rfl ?_
        refine r_iload_n 2 dX1_choice_36 rfl ?_
        refine r_iload 5 dX1_choice_37 rfl ?_
        obtain ⟨q4, h4, h⟩ := bd_some h
        refine b_callVN (isC := [1, 0]) (ci := 5)  (st := []) (bs1 := [bFair K a0 z0_lasts z0_keeps z0_stalls z0_buyers z0_minute z0_goods z0_price z0_tongue z0_till z0_wealth z0_sold z0_ring z0_grudges z0_purse z0_came z0_had z0_seller z0_praise z0_borne, bRule K a1 z1_steps z1_size z1_sumFrom z1_testFrom z1_testTo z1_clauses z1_parts z1_readsTime q4.2.1 q4.2.2]) (cRule_worth (a0 := a1) (a1 := a0) (z0_steps := z1_steps) (z0_size := z1_size) (z0_sumFrom := z1_sumFrom) (z0_testFrom := z1_testFrom) (z0_testTo := z1_testTo) (z0_clauses := z1_clauses) (z0_parts := z1_parts) (z0_readsTime := z1_readsTime) (z0_words := z1_words) (z0_stack := z1_stack) (z1_lasts := z0_lasts) (z1_keeps := z0_keeps) (z1_stalls := z0_stalls) (z1_buyers := z0_buyers) (z1_minute := z0_minute) (z1_goods := z0_goods) (z1_price := z0_price) (z1_tongue := z0_tongue) (z1_till := z0_till) (z1_wealth := z0_wealth) (z1_sold := z0_sold) (z1_ring := z0_ring) (z1_grudges := z0_grudges) (z1_purse := z0_purse) (z1_came := z0_came) (z1_had := z0_had) (z1_seller := z0_seller) (z1_praise := z0_praise) (z1_borne := z0_borne) h4) rfl rfl (Nat.le_of_ble_eq_true rfl) kRule_worth (List.mem_of_getElem? (i := 47) rfl) (by decide) (by decide) rfl rfl rfl rfl rfl rfl rfl dX1_choice_39 ?_
        refine r_goto 72 dX1_choice_42 (by decide) ?_
        refine r_lstore (lv' := [(7, .long q4.1), (0, .ref (a0 0)), (1, .ref (a1 0)), (2, .int x2), (3, .int x3), (4, .long x4), (6, .int x6)]) dX1_choice_72 (Nat.le_of_ble_eq_true rfl) rfl ?_
        refine r_lload 0 dX1_choice_74 rfl ?_
        refine r_lload 5 dX1_choice_76 rfl ?_
        refine r_lcmp dX1_choice_78 ?_
        refine r_if_le 89 dX1_choice_79 (by decide) (fun c5 => ?_) (fun c5 => ?_)
        · replace h := it_pos c5 h
          refine r_iinc (y := (x6 + (1 : Int32))) (lv' := [(6, .int (x6 + (1 : Int32))), (7, .long q4.1), (0, .ref (a0 0)), (1, .ref (a1 0)), (2, .int x2), (3, .int x3), (4, .long x4)]) 6 dX1_choice_89 rfl rfl (Nat.le_of_ble_eq_true rfl) rfl ?_
          refine r_goto 8 dX1_choice_92 (by decide) ?_
          refine r_sub (lv' := [(0, .ref (a0 0)), (1, .ref (a1 0)), (2, .int x2), (3, .int x3), (4, .long x4), (6, .int (x6 + (1 : Int32)))]) [2, 3, 4, 5, 6, 0] rfl ?_
          exact ih x3 x4 (x6 + (1 : Int32)) q4.2.1 q4.2.2 h
        · replace h := it_neg c5 h
          refine r_lload 0 dX1_choice_82 rfl ?_
          refine r_lstore (lv' := [(4, .long q4.1), (7, .long q4.1), (0, .ref (a0 0)), (1, .ref (a1 0)), (2, .int x2), (3, .int x3), (6, .int x6)]) dX1_choice_84 (Nat.le_of_ble_eq_true rfl) rfl ?_
          refine r_iload 6 dX1_choice_86 rfl ?_
          refine r_istore_n (lv' := [(3, .int x6), (4, .long q4.1), (7, .long q4.1), (0, .ref (a0 0)), (1, .ref (a1 0)), (2, .int x2), (6, .int x6)]) dX1_choice_88 (Nat.le_of_ble_eq_true rfl) rfl ?_
          refine r_iinc (y := (x6 + (1 : Int32))) (lv' := [(6, .int (x6 + (1 : Int32))), (3, .int x6), (4, .long q4.1), (7, .long q4.1), (0, .ref (a0 0)), (1, .ref (a1 0)), (2, .int x2)]) 6 dX1_choice_89 rfl rfl (Nat.le_of_ble_eq_true rfl) rfl ?_
          refine r_goto 8 dX1_choice_92 (by decide) ?_
          refine r_sub (lv' := [(0, .ref (a0 0)), (1, .ref (a1 0)), (2, .int x2), (3, .int x6), (4, .long q4.1), (6, .int (x6 + (1 : Int32)))]) [4, 5, 6, 1, 2, 0] rfl ?_
          exact ih x6 q4.1 (x6 + (1 : Int32)) q4.2.1 q4.2.2 h
      · replace h := it_pos c3 h
        refine r_goto 89 dX1_choice_27 (by decide) ?_
        refine r_iinc (y := (x6 + (1 : Int32))) (lv' := [(6, .int (x6 + (1 : Int32))), (0, .ref (a0 0)), (1, .ref (a1 0)), (2, .int x2), (3, .int x3), (4, .long x4)]) 5 dX1_choice_89 rfl rfl (Nat.le_of_ble_eq_true rfl) rfl ?_
        refine r_goto 8 dX1_choice_92 (by decide) ?_
        refine r_sub (lv' := [(0, .ref (a0 0)), (1, .ref (a1 0)), (2, .int x2), (3, .int x3), (4, .long x4), (6, .int (x6 + (1 : Int32)))]) [1, 2, 3, 4, 5, 0] rfl ?_
        exact ih x3 x4 (x6 + (1 : Int32)) z1_words z1_stack h
def mFair_choicer (x2 : Int32) (z0_lasts : Int32) (z0_stalls : Int32) (z0_minute : Int32) (z0_goods : Nat → Int32) (z0_price : Nat → Int32) (z0_sold : Nat → Int32) (z0_purse : Nat → Int32) (z0_came : Nat → Int32) (z0_had : Nat → Int32) (z0_praise : Nat → Int32) (z0_borne : Nat → Int32) (z1_steps : Nat → Int32) (z1_size : Int32) (z1_sumFrom : Nat → Int32) (z1_testFrom : Nat → Int32) (z1_testTo : Nat → Int32) (z1_clauses : Int32) (z1_words : Nat → Int64) (z1_stack : Nat → Int64) : Option (Int32 × (Nat → Int64) × (Nat → Int64)) := mFair_choicer_l8 z0_lasts z0_stalls z0_minute z0_goods z0_price z0_sold z0_purse z0_came z0_had z0_praise z0_borne z1_steps z1_size z1_sumFrom z1_testFrom z1_testTo z1_clauses x2 FU (-1 : Int32) (0 : Int64) (0 : Int32) z1_words z1_stack
set_option maxHeartbeats 4000000 in
set_option maxRecDepth 20000 in
theorem cFair_choicer {q : Int32 × (Nat → Int64) × (Nat → Int64)} {x2 : Int32} (h : mFair_choicer x2 z0_lasts z0_stalls z0_minute z0_goods z0_price z0_sold z0_purse z0_came z0_had z0_praise z0_borne z1_steps z1_size z1_sumFrom z1_testFrom z1_testTo z1_clauses z1_words z1_stack = some q) : rMet l D Z (ty7 K) MFair_choicer [.ref (a0 0), .ref (a1 0), .int x2] (List.flatten [bFair K a0 z0_lasts z0_keeps z0_stalls z0_buyers z0_minute z0_goods z0_price z0_tongue z0_till z0_wealth z0_sold z0_ring z0_grudges z0_purse z0_came z0_had z0_seller z0_praise z0_borne, bRule K a1 z1_steps z1_size z1_sumFrom z1_testFrom z1_testTo z1_clauses z1_parts z1_readsTime z1_words z1_stack]) (List.flatten [bFair K a0 z0_lasts z0_keeps z0_stalls z0_buyers z0_minute z0_goods z0_price z0_tongue z0_till z0_wealth z0_sold z0_ring z0_grudges z0_purse z0_came z0_had z0_seller z0_praise z0_borne, bRule K a1 z1_steps z1_size z1_sumFrom z1_testFrom z1_testTo z1_clauses z1_parts z1_readsTime q.2.1 q.2.2]) (some (.int q.1)) := by
  refine rMet.of (by decide) rfl (Nat.le_of_ble_eq_true rfl) ?_
  refine r_sub (lv' := [(0, .ref (a0 0)), (1, .ref (a1 0)), (2, .int x2)]) [0, 1, 2] rfl ?_
  unfold mFair_choicer at h
  refine r_iconst (x := (-1 : Int32)) dX1_choice_0 (by decide) ?_
  refine r_istore_n (lv' := [(3, .int (-1 : Int32)), (0, .ref (a0 0)), (1, .ref (a1 0)), (2, .int x2)]) dX1_choice_1 (Nat.le_of_ble_eq_true rfl) rfl ?_
  refine r_lconst (x := (0 : Int64)) dX1_choice_2 (by decide) ?_
  refine r_lstore (lv' := [(4, .long (0 : Int64)), (3, .int (-1 : Int32)), (0, .ref (a0 0)), (1, .ref (a1 0)), (2, .int x2)]) dX1_choice_3 (Nat.le_of_ble_eq_true rfl) rfl ?_
  refine r_iconst (x := (0 : Int32)) dX1_choice_5 (by decide) ?_
  refine r_istore (lv' := [(6, .int (0 : Int32)), (4, .long (0 : Int64)), (3, .int (-1 : Int32)), (0, .ref (a0 0)), (1, .ref (a1 0)), (2, .int x2)]) dX1_choice_6 (Nat.le_of_ble_eq_true rfl) rfl ?_
  refine r_sub (lv' := [(0, .ref (a0 0)), (1, .ref (a1 0)), (2, .int x2), (3, .int (-1 : Int32)), (4, .long (0 : Int64)), (6, .int (0 : Int32))]) [3, 4, 5, 2, 1, 0] rfl ?_
  exact cFair_choicer_l8   FU (-1 : Int32) (0 : Int64) (0 : Int32) z1_words z1_stack h
end
theorem dX1_trade_0 : decode cX1_trade 0 = .ok (.iconst 0, 1) := by decide +kernel
theorem dX1_trade_1 : decode cX1_trade 1 = .ok (.istore_n 3, 1) := by decide +kernel
theorem dX1_trade_2 : decode cX1_trade 2 = .ok (.iconst 0, 1) := by decide +kernel
theorem dX1_trade_3 : decode cX1_trade 3 = .ok (.istore 4, 2) := by decide +kernel
theorem dX1_trade_5 : decode cX1_trade 5 = .ok (.iload 4, 2) := by decide +kernel
theorem dX1_trade_7 : decode cX1_trade 7 = .ok (.aload_n 0, 1) := by decide +kernel
theorem dX1_trade_8 : decode cX1_trade 8 = .ok (.getfield 21, 3) := by decide +kernel
theorem dX1_trade_11 : decode cX1_trade 11 = .ok (.if_icmp .ge 125, 3) := by decide +kernel
theorem dX1_trade_14 : decode cX1_trade 14 = .ok (.iload 4, 2) := by decide +kernel
theorem dX1_trade_16 : decode cX1_trade 16 = .ok (.iload_n 2, 1) := by decide +kernel
theorem dX1_trade_17 : decode cX1_trade 17 = .ok (.if_icmp .ne 7, 3) := by decide +kernel
theorem dX1_trade_20 : decode cX1_trade 20 = .ok (.iconst (-1), 1) := by decide +kernel
theorem dX1_trade_21 : decode cX1_trade 21 = .ok (.goto 10, 3) := by decide +kernel
theorem dX1_trade_24 : decode cX1_trade 24 = .ok (.aload_n 0, 1) := by decide +kernel
theorem dX1_trade_25 : decode cX1_trade 25 = .ok (.aload_n 1, 1) := by decide +kernel
theorem dX1_trade_26 : decode cX1_trade 26 = .ok (.iload 4, 2) := by decide +kernel
theorem dX1_trade_28 : decode cX1_trade 28 = .ok (.invokevirtual 120, 3) := by decide +kernel
theorem dX1_trade_31 : decode cX1_trade 31 = .ok (.istore 5, 2) := by decide +kernel
theorem dX1_trade_33 : decode cX1_trade 33 = .ok (.iload 5, 2) := by decide +kernel
theorem dX1_trade_35 : decode cX1_trade 35 = .ok (.iconst (-1), 1) := by decide +kernel
theorem dX1_trade_36 : decode cX1_trade 36 = .ok (.if_icmp .ne 6, 3) := by decide +kernel
theorem dX1_trade_39 : decode cX1_trade 39 = .ok (.goto 91, 3) := by decide +kernel
theorem dX1_trade_42 : decode cX1_trade 42 = .ok (.aload_n 0, 1) := by decide +kernel
theorem dX1_trade_43 : decode cX1_trade 43 = .ok (.getfield 27, 3) := by decide +kernel
theorem dX1_trade_46 : decode cX1_trade 46 = .ok (.iload 5, 2) := by decide +kernel
theorem dX1_trade_48 : decode cX1_trade 48 = .ok (.dup2, 1) := by decide +kernel
theorem dX1_trade_49 : decode cX1_trade 49 = .ok (.iaload, 1) := by decide +kernel
theorem dX1_trade_50 : decode cX1_trade 50 = .ok (.iconst 1, 1) := by decide +kernel
theorem dX1_trade_51 : decode cX1_trade 51 = .ok (.isub, 1) := by decide +kernel
theorem dX1_trade_52 : decode cX1_trade 52 = .ok (.iastore, 1) := by decide +kernel
theorem dX1_trade_53 : decode cX1_trade 53 = .ok (.aload_n 0, 1) := by decide +kernel
theorem dX1_trade_54 : decode cX1_trade 54 = .ok (.getfield 43, 3) := by decide +kernel
theorem dX1_trade_57 : decode cX1_trade 57 = .ok (.iload 5, 2) := by decide +kernel
theorem dX1_trade_59 : decode cX1_trade 59 = .ok (.dup2, 1) := by decide +kernel
theorem dX1_trade_60 : decode cX1_trade 60 = .ok (.iaload, 1) := by decide +kernel
theorem dX1_trade_61 : decode cX1_trade 61 = .ok (.iconst 1, 1) := by decide +kernel
theorem dX1_trade_62 : decode cX1_trade 62 = .ok (.iadd, 1) := by decide +kernel
theorem dX1_trade_63 : decode cX1_trade 63 = .ok (.iastore, 1) := by decide +kernel
theorem dX1_trade_64 : decode cX1_trade 64 = .ok (.aload_n 0, 1) := by decide +kernel
theorem dX1_trade_65 : decode cX1_trade 65 = .ok (.getfield 58, 3) := by decide +kernel
theorem dX1_trade_68 : decode cX1_trade 68 = .ok (.iload 4, 2) := by decide +kernel
theorem dX1_trade_70 : decode cX1_trade 70 = .ok (.bipush 6, 2) := by decide +kernel
theorem dX1_trade_72 : decode cX1_trade 72 = .ok (.imul, 1) := by decide +kernel
theorem dX1_trade_73 : decode cX1_trade 73 = .ok (.iload 5, 2) := by decide +kernel
theorem dX1_trade_75 : decode cX1_trade 75 = .ok (.iadd, 1) := by decide +kernel
theorem dX1_trade_76 : decode cX1_trade 76 = .ok (.dup2, 1) := by decide +kernel
theorem dX1_trade_77 : decode cX1_trade 77 = .ok (.iaload, 1) := by decide +kernel
theorem dX1_trade_78 : decode cX1_trade 78 = .ok (.iconst 1, 1) := by decide +kernel
theorem dX1_trade_79 : decode cX1_trade 79 = .ok (.iadd, 1) := by decide +kernel
theorem dX1_trade_80 : decode cX1_trade 80 = .ok (.iastore, 1) := by decide +kernel
theorem dX1_trade_81 : decode cX1_trade 81 = .ok (.aload_n 0, 1) := by decide +kernel
theorem dX1_trade_82 : decode cX1_trade 82 = .ok (.getfield 52, 3) := by decide +kernel
theorem dX1_trade_85 : decode cX1_trade 85 = .ok (.iload 4, 2) := by decide +kernel
theorem dX1_trade_87 : decode cX1_trade 87 = .ok (.dup2, 1) := by decide +kernel
theorem dX1_trade_88 : decode cX1_trade 88 = .ok (.iaload, 1) := by decide +kernel
theorem dX1_trade_89 : decode cX1_trade 89 = .ok (.aload_n 0, 1) := by decide +kernel
theorem dX1_trade_90 : decode cX1_trade 90 = .ok (.getfield 31, 3) := by decide +kernel
theorem dX1_trade_93 : decode cX1_trade 93 = .ok (.iload 5, 2) := by decide +kernel
theorem dX1_trade_95 : decode cX1_trade 95 = .ok (.iaload, 1) := by decide +kernel
theorem dX1_trade_96 : decode cX1_trade 96 = .ok (.isub, 1) := by decide +kernel
theorem dX1_trade_97 : decode cX1_trade 97 = .ok (.iastore, 1) := by decide +kernel
theorem dX1_trade_98 : decode cX1_trade 98 = .ok (.aload_n 0, 1) := by decide +kernel
theorem dX1_trade_99 : decode cX1_trade 99 = .ok (.getfield 37, 3) := by decide +kernel
theorem dX1_trade_102 : decode cX1_trade 102 = .ok (.aload_n 0, 1) := by decide +kernel
theorem dX1_trade_103 : decode cX1_trade 103 = .ok (.getfield 61, 3) := by decide +kernel
theorem dX1_trade_106 : decode cX1_trade 106 = .ok (.iload 5, 2) := by decide +kernel
theorem dX1_trade_108 : decode cX1_trade 108 = .ok (.iaload, 1) := by decide +kernel
theorem dX1_trade_109 : decode cX1_trade 109 = .ok (.dup2, 1) := by decide +kernel
theorem dX1_trade_110 : decode cX1_trade 110 = .ok (.iaload, 1) := by decide +kernel
theorem dX1_trade_111 : decode cX1_trade 111 = .ok (.aload_n 0, 1) := by decide +kernel
theorem dX1_trade_112 : decode cX1_trade 112 = .ok (.getfield 31, 3) := by decide +kernel
theorem dX1_trade_115 : decode cX1_trade 115 = .ok (.iload 5, 2) := by decide +kernel
theorem dX1_trade_117 : decode cX1_trade 117 = .ok (.iaload, 1) := by decide +kernel
theorem dX1_trade_118 : decode cX1_trade 118 = .ok (.iadd, 1) := by decide +kernel
theorem dX1_trade_119 : decode cX1_trade 119 = .ok (.iastore, 1) := by decide +kernel
theorem dX1_trade_120 : decode cX1_trade 120 = .ok (.iload_n 3, 1) := by decide +kernel
theorem dX1_trade_121 : decode cX1_trade 121 = .ok (.aload_n 0, 1) := by decide +kernel
theorem dX1_trade_122 : decode cX1_trade 122 = .ok (.getfield 31, 3) := by decide +kernel
theorem dX1_trade_125 : decode cX1_trade 125 = .ok (.iload 5, 2) := by decide +kernel
theorem dX1_trade_127 : decode cX1_trade 127 = .ok (.iaload, 1) := by decide +kernel
theorem dX1_trade_128 : decode cX1_trade 128 = .ok (.iadd, 1) := by decide +kernel
theorem dX1_trade_129 : decode cX1_trade 129 = .ok (.istore_n 3, 1) := by decide +kernel
theorem dX1_trade_130 : decode cX1_trade 130 = .ok (.iinc 4 1, 3) := by decide +kernel
theorem dX1_trade_133 : decode cX1_trade 133 = .ok (.goto (-128), 3) := by decide +kernel
theorem dX1_trade_136 : decode cX1_trade 136 = .ok (.iload_n 3, 1) := by decide +kernel
theorem dX1_trade_137 : decode cX1_trade 137 = .ok (.ireturn, 1) := by decide +kernel
abbrev MFair_trader : rx_M := (RX1, yX1_trade, cX1_trade, 6, (some .int), 4)
theorem kFair_trader : rKv MFair_trader 2 := ⟨tb_in (i := 5) (j := 22) rfl rfl, tb_in (i := 5) (j := 23) rfl rfl, tb_in (i := 3) (j := 26) rfl rfl, tb_in (i := 5) (j := 11) rfl rfl, ⟨by decide, by decide, by decide +kernel⟩, by decide⟩
section
variable {a0 : Nat → Nat} {a1 : Nat → Nat} {z0_lasts : Int32} {z0_keeps : Int32} {z0_stalls : Int32} {z0_buyers : Int32} {z0_minute : Int32} {z0_goods : Nat → Int32} {z0_price : Nat → Int32} {z0_tongue : Nat → Int32} {z0_till : Nat → Int32} {z0_wealth : Nat → Int32} {z0_sold : Nat → Int32} {z0_ring : Nat → Int32} {z0_grudges : Nat → Int32} {z0_purse : Nat → Int32} {z0_came : Nat → Int32} {z0_had : Nat → Int32} {z0_seller : Nat → Int32} {z0_praise : Nat → Int32} {z0_borne : Nat → Int32} {z1_steps : Nat → Int32} {z1_size : Int32} {z1_sumFrom : Nat → Int32} {z1_testFrom : Nat → Int32} {z1_testTo : Nat → Int32} {z1_clauses : Int32} {z1_parts : Int32} {z1_readsTime : Int32} {z1_words : Nat → Int64} {z1_stack : Nat → Int64}
def mFair_trader_j31 (k5 : Int32 → Int32 → (Nat → Int32) → (Nat → Int32) → (Nat → Int32) → (Nat → Int32) → (Nat → Int32) → (Nat → Int64) → (Nat → Int64) → Option (Int32 × (Nat → Int32) × (Nat → Int32) × (Nat → Int32) × (Nat → Int32) × (Nat → Int32) × (Nat → Int64) × (Nat → Int64))) (x2 : Int32) (x3 : Int32) (x4 : Int32) (z0_lasts : Int32) (z0_stalls : Int32) (z0_buyers : Int32) (z0_minute : Int32) (z0_goods : Nat → Int32) (z0_price : Nat → Int32) (z0_till : Nat → Int32) (z0_sold : Nat → Int32) (z0_purse : Nat → Int32) (z0_came : Nat → Int32) (z0_had : Nat → Int32) (z0_seller : Nat → Int32) (z0_praise : Nat → Int32) (z0_borne : Nat → Int32) (z1_steps : Nat → Int32) (z1_size : Int32) (z1_sumFrom : Nat → Int32) (z1_testFrom : Nat → Int32) (z1_testTo : Nat → Int32) (z1_clauses : Int32) (z1_words : Nat → Int64) (z1_stack : Nat → Int64) (s0 : Int32) : Option (Int32 × (Nat → Int32) × (Nat → Int32) × (Nat → Int32) × (Nat → Int32) × (Nat → Int32) × (Nat → Int64) × (Nat → Int64)) := (if s0 = (-1 : Int32) then k5 x3 (x4 + (1 : Int32)) z0_goods z0_till z0_sold z0_purse z0_had z1_words z1_stack else rq (inb s0 6) (rq (inb s0 6) (lt (upd z0_goods s0.toNatClampNeg ((z0_goods s0.toNatClampNeg) - (1 : Int32))) (fun u6 => rq (inb s0 6) (rq (inb s0 6) (lt (upd z0_sold s0.toNatClampNeg ((z0_sold s0.toNatClampNeg) + (1 : Int32))) (fun u8 => lt ((x4 * (6 : Int32)) + s0) (fun y9 => rq (inb y9 36) (rq (inb y9 36) (lt (upd z0_had y9.toNatClampNeg ((z0_had y9.toNatClampNeg) + (1 : Int32))) (fun u11 => rq (inb x4 6) (rq (inb s0 6) (rq (inb x4 6) (lt (upd z0_purse x4.toNatClampNeg ((z0_purse x4.toNatClampNeg) - (z0_price s0.toNatClampNeg))) (fun u14 => rq (inb s0 6) (lt (z0_seller s0.toNatClampNeg) (fun y16 => rq (inb y16 6) (rq (inb s0 6) (rq (inb y16 6) (lt (upd z0_till y16.toNatClampNeg ((z0_till y16.toNatClampNeg) + (z0_price s0.toNatClampNeg))) (fun u19 => rq (inb s0 6) (lt (x3 + (z0_price s0.toNatClampNeg)) (fun y21 => k5 y21 (x4 + (1 : Int32)) u6 u19 u8 u14 u11 z1_words z1_stack)))))))))))))))))))))))
set_option maxHeartbeats 4000000 in
set_option maxRecDepth 20000 in
theorem cFair_trader_j31 {q : Int32 × (Nat → Int32) × (Nat → Int32) × (Nat → Int32) × (Nat → Int32) × (Nat → Int32) × (Nat → Int64) × (Nat → Int64)} {x2 : Int32} {x3 : Int32} {x4 : Int32} {s0 : Int32} {k5 : Int32 → Int32 → (Nat → Int32) → (Nat → Int32) → (Nat → Int32) → (Nat → Int32) → (Nat → Int32) → (Nat → Int64) → (Nat → Int64) → Option (Int32 × (Nat → Int32) × (Nat → Int32) × (Nat → Int32) × (Nat → Int32) × (Nat → Int32) × (Nat → Int64) × (Nat → Int64))} (hk5 : ∀ (x3 : Int32) (x4 : Int32) (z0_goods : Nat → Int32) (z0_till : Nat → Int32) (z0_sold : Nat → Int32) (z0_purse : Nat → Int32) (z0_had : Nat → Int32) (z1_words : Nat → Int64) (z1_stack : Nat → Int64), k5 x3 x4 z0_goods z0_till z0_sold z0_purse z0_had z1_words z1_stack = some q → rW l D Z (ty7 K) MFair_trader 5 [(0, .ref (a0 0)), (1, .ref (a1 0)), (2, .int x2), (3, .int x3), (4, .int x4)] [] (List.flatten [bFair K a0 z0_lasts z0_keeps z0_stalls z0_buyers z0_minute z0_goods z0_price z0_tongue z0_till z0_wealth z0_sold z0_ring z0_grudges z0_purse z0_came z0_had z0_seller z0_praise z0_borne, bRule K a1 z1_steps z1_size z1_sumFrom z1_testFrom z1_testTo z1_clauses z1_parts z1_readsTime z1_words z1_stack]) (List.flatten [bFair K a0 z0_lasts z0_keeps z0_stalls z0_buyers z0_minute q.2.1 z0_price z0_tongue q.2.2.1 z0_wealth q.2.2.2.1 z0_ring z0_grudges q.2.2.2.2.1 z0_came q.2.2.2.2.2.1 z0_seller z0_praise z0_borne, bRule K a1 z1_steps z1_size z1_sumFrom z1_testFrom z1_testTo z1_clauses z1_parts z1_readsTime q.2.2.2.2.2.2.1 q.2.2.2.2.2.2.2]) (some (.int q.1))) (h : mFair_trader_j31 k5 x2 x3 x4 z0_lasts z0_stalls z0_buyers z0_minute z0_goods z0_price z0_till z0_sold z0_purse z0_came z0_had z0_seller z0_praise z0_borne z1_steps z1_size z1_sumFrom z1_testFrom z1_testTo z1_clauses z1_words z1_stack s0 = some q) : rW l D Z (ty7 K) MFair_trader 31 [(0, .ref (a0 0)), (1, .ref (a1 0)), (2, .int x2), (3, .int x3), (4, .int x4)] [.int s0] (List.flatten [bFair K a0 z0_lasts z0_keeps z0_stalls z0_buyers z0_minute z0_goods z0_price z0_tongue z0_till z0_wealth z0_sold z0_ring z0_grudges z0_purse z0_came z0_had z0_seller z0_praise z0_borne, bRule K a1 z1_steps z1_size z1_sumFrom z1_testFrom z1_testTo z1_clauses z1_parts z1_readsTime z1_words z1_stack]) (List.flatten [bFair K a0 z0_lasts z0_keeps z0_stalls z0_buyers z0_minute q.2.1 z0_price z0_tongue q.2.2.1 z0_wealth q.2.2.2.1 z0_ring z0_grudges q.2.2.2.2.1 z0_came q.2.2.2.2.2.1 z0_seller z0_praise z0_borne, bRule K a1 z1_steps z1_size z1_sumFrom z1_testFrom z1_testTo z1_clauses z1_parts z1_readsTime q.2.2.2.2.2.2.1 q.2.2.2.2.2.2.2]) (some (.int q.1)) := by
  unfold mFair_trader_j31 at h
  refine r_istore (lv' := [(5, .int s0), (0, .ref (a0 0)), (1, .ref (a1 0)), (2, .int x2), (3, .int x3), (4, .int x4)]) dX1_trade_31 (Nat.le_of_ble_eq_true rfl) rfl ?_
  refine r_iload 0 dX1_trade_33 rfl ?_
  refine r_iconst (x := (-1 : Int32)) dX1_trade_35 (by decide) ?_
  refine r_icmp_ne 42 dX1_trade_36 (by decide) (fun c4 => ?_) (fun c4 => ?_)
  · replace h := it_neg c4 h
    refine r_aload_n 1 dX1_trade_42 rfl ?_
    refine gFair_goods 0 rfl (tb_in (i := 3) (j := 3) rfl rfl) dX1_trade_43 ?_
    refine r_iload 0 dX1_trade_46 rfl ?_
    refine r_dup2 dX1_trade_48 rfl rfl ?_
    obtain ⟨h5, h⟩ := rq_some h
    refine lFair_goods 0 rfl (inb_in h5) dX1_trade_49 ?_
    refine r_iconst (x := (1 : Int32)) dX1_trade_50 (by decide) ?_
    refine r_isub dX1_trade_51 ?_
    obtain ⟨h6, h⟩ := rq_some h
    obtain ⟨u6, e6, h⟩ := lt_some h
    refine sFair_goods (bs1 := [bFair K a0 z0_lasts z0_keeps z0_stalls z0_buyers z0_minute u6 z0_price z0_tongue z0_till z0_wealth z0_sold z0_ring z0_grudges z0_purse z0_came z0_had z0_seller z0_praise z0_borne, bRule K a1 z1_steps z1_size z1_sumFrom z1_testFrom z1_testTo z1_clauses z1_parts z1_readsTime z1_words z1_stack]) 0 e6 rfl (inb_in h6) rfl dX1_trade_52 ?_
    refine r_aload_n 1 dX1_trade_53 rfl ?_
    refine gFair_sold 0 rfl (tb_in (i := 3) (j := 8) rfl rfl) dX1_trade_54 ?_
    refine r_iload 0 dX1_trade_57 rfl ?_
    refine r_dup2 dX1_trade_59 rfl rfl ?_
    obtain ⟨h7, h⟩ := rq_some h
    refine lFair_sold 0 rfl (inb_in h7) dX1_trade_60 ?_
    refine r_iconst (x := (1 : Int32)) dX1_trade_61 (by decide) ?_
    refine r_iadd dX1_trade_62 ?_
    obtain ⟨h8, h⟩ := rq_some h
    obtain ⟨u8, e8, h⟩ := lt_some h
    refine sFair_sold (bs1 := [bFair K a0 z0_lasts z0_keeps z0_stalls z0_buyers z0_minute u6 z0_price z0_tongue z0_till z0_wealth u8 z0_ring z0_grudges z0_purse z0_came z0_had z0_seller z0_praise z0_borne, bRule K a1 z1_steps z1_size z1_sumFrom z1_testFrom z1_testTo z1_clauses z1_parts z1_readsTime z1_words z1_stack]) 0 e8 rfl (inb_in h8) rfl dX1_trade_63 ?_
    refine r_aload_n 1 dX1_trade_64 rfl ?_
    refine gFair_had 0 rfl (tb_in (i := 3) (j := 13) rfl rfl) dX1_trade_65 ?_
    refine r_iload 5 dX1_trade_68 rfl ?_
    refine r_bipush (x := (6 : Int32)) dX1_trade_70 (by decide) ?_
    refine r_imul dX1_trade_72 ?_
    refine r_iload 0 dX1_trade_73 rfl ?_
    refine r_iadd dX1_trade_75 ?_
    obtain ⟨y9, e9, h⟩ := lt_some h
    refine r_top e9 ?_
    refine r_dup2 dX1_trade_76 rfl rfl ?_
    obtain ⟨h10, h⟩ := rq_some h
    refine lFair_had 0 rfl (inb_in h10) dX1_trade_77 ?_
    refine r_iconst (x := (1 : Int32)) dX1_trade_78 (by decide) ?_
    refine r_iadd dX1_trade_79 ?_
    obtain ⟨h11, h⟩ := rq_some h
    obtain ⟨u11, e11, h⟩ := lt_some h
    refine sFair_had (bs1 := [bFair K a0 z0_lasts z0_keeps z0_stalls z0_buyers z0_minute u6 z0_price z0_tongue z0_till z0_wealth u8 z0_ring z0_grudges z0_purse z0_came u11 z0_seller z0_praise z0_borne, bRule K a1 z1_steps z1_size z1_sumFrom z1_testFrom z1_testTo z1_clauses z1_parts z1_readsTime z1_words z1_stack]) 0 e11 rfl (inb_in h11) rfl dX1_trade_80 ?_
    refine r_aload_n 1 dX1_trade_81 rfl ?_
    refine gFair_purse 0 rfl (tb_in (i := 3) (j := 11) rfl rfl) dX1_trade_82 ?_
    refine r_iload 5 dX1_trade_85 rfl ?_
    refine r_dup2 dX1_trade_87 rfl rfl ?_
    obtain ⟨h12, h⟩ := rq_some h
    refine lFair_purse 0 rfl (inb_in h12) dX1_trade_88 ?_
    refine r_aload_n 1 dX1_trade_89 rfl ?_
    refine gFair_price 0 rfl (tb_in (i := 3) (j := 4) rfl rfl) dX1_trade_90 ?_
    refine r_iload 0 dX1_trade_93 rfl ?_
    obtain ⟨h13, h⟩ := rq_some h
    refine lFair_price 0 rfl (inb_in h13) dX1_trade_95 ?_
    refine r_isub dX1_trade_96 ?_
    obtain ⟨h14, h⟩ := rq_some h
    obtain ⟨u14, e14, h⟩ := lt_some h
    refine sFair_purse (bs1 := [bFair K a0 z0_lasts z0_keeps z0_stalls z0_buyers z0_minute u6 z0_price z0_tongue z0_till z0_wealth u8 z0_ring z0_grudges u14 z0_came u11 z0_seller z0_praise z0_borne, bRule K a1 z1_steps z1_size z1_sumFrom z1_testFrom z1_testTo z1_clauses z1_parts z1_readsTime z1_words z1_stack]) 0 e14 rfl (inb_in h14) rfl dX1_trade_97 ?_
    refine r_aload_n 1 dX1_trade_98 rfl ?_
    refine gFair_till 0 rfl (tb_in (i := 3) (j := 6) rfl rfl) dX1_trade_99 ?_
    refine r_aload_n 1 dX1_trade_102 rfl ?_
    refine gFair_seller 0 rfl (tb_in (i := 3) (j := 14) rfl rfl) dX1_trade_103 ?_
    refine r_iload 0 dX1_trade_106 rfl ?_
    obtain ⟨h15, h⟩ := rq_some h
    refine lFair_seller 0 rfl (inb_in h15) dX1_trade_108 ?_
    obtain ⟨y16, e16, h⟩ := lt_some h
    refine r_top e16 ?_
    refine r_dup2 dX1_trade_109 rfl rfl ?_
    obtain ⟨h17, h⟩ := rq_some h
    refine lFair_till 0 rfl (inb_in h17) dX1_trade_110 ?_
    refine r_aload_n 1 dX1_trade_111 rfl ?_
    refine gFair_price 0 rfl (tb_in (i := 3) (j := 4) rfl rfl) dX1_trade_112 ?_
    refine r_iload 0 dX1_trade_115 rfl ?_
    obtain ⟨h18, h⟩ := rq_some h
    refine lFair_price 0 rfl (inb_in h18) dX1_trade_117 ?_
    refine r_iadd dX1_trade_118 ?_
    obtain ⟨h19, h⟩ := rq_some h
    obtain ⟨u19, e19, h⟩ := lt_some h
    refine sFair_till (bs1 := [bFair K a0 z0_lasts z0_keeps z0_stalls z0_buyers z0_minute u6 z0_price z0_tongue u19 z0_wealth u8 z0_ring z0_grudges u14 z0_came u11 z0_seller z0_praise z0_borne, bRule K a1 z1_steps z1_size z1_sumFrom z1_testFrom z1_testTo z1_clauses z1_parts z1_readsTime z1_words z1_stack]) 0 e19 rfl (inb_in h19) rfl dX1_trade_119 ?_
    refine r_iload_n 4 dX1_trade_120 rfl ?_
    refine r_aload_n 1 dX1_trade_121 rfl ?_
    refine gFair_price 0 rfl (tb_in (i := 3) (j := 4) rfl rfl) dX1_trade_122 ?_
    refine r_iload 0 dX1_trade_125 rfl ?_
    obtain ⟨h20, h⟩ := rq_some h
    refine lFair_price 0 rfl (inb_in h20) dX1_trade_127 ?_
    refine r_iadd dX1_trade_128 ?_
    obtain ⟨y21, e21, h⟩ := lt_some h
    refine r_top e21 ?_
    refine r_istore_n (lv' := [(3, .int y21), (5, .int s0), (0, .ref (a0 0)), (1, .ref (a1 0)), (2, .int x2), (4, .int x4)]) dX1_trade_129 (Nat.le_of_ble_eq_true rfl) rfl ?_
    refine r_iinc (y := (x4 + (1 : Int32))) (lv' := [(4, .int (x4 + (1 : Int32))), (3, .int y21), (5, .int s0), (0, .ref (a0 0)), (1, .ref (a1 0)), (2, .int x2)]) 5 dX1_trade_130 rfl rfl (Nat.le_of_ble_eq_true rfl) rfl ?_
    refine r_goto 5 dX1_trade_133 (by decide) ?_
    refine r_sub (lv' := [(0, .ref (a0 0)), (1, .ref (a1 0)), (2, .int x2), (3, .int y21), (4, .int (x4 + (1 : Int32)))]) [3, 4, 5, 1, 0] rfl ?_
    exact hk5 y21 (x4 + (1 : Int32)) u6 u19 u8 u14 u11 z1_words z1_stack h
  · replace h := it_pos c4 h
    refine r_goto 130 dX1_trade_39 (by decide) ?_
    refine r_iinc (y := (x4 + (1 : Int32))) (lv' := [(4, .int (x4 + (1 : Int32))), (5, .int s0), (0, .ref (a0 0)), (1, .ref (a1 0)), (2, .int x2), (3, .int x3)]) 5 dX1_trade_130 rfl rfl (Nat.le_of_ble_eq_true rfl) rfl ?_
    refine r_goto 5 dX1_trade_133 (by decide) ?_
    refine r_sub (lv' := [(0, .ref (a0 0)), (1, .ref (a1 0)), (2, .int x2), (3, .int x3), (4, .int (x4 + (1 : Int32)))]) [2, 3, 4, 5, 0] rfl ?_
    exact hk5 x3 (x4 + (1 : Int32)) z0_goods z0_till z0_sold z0_purse z0_had z1_words z1_stack h
def mFair_trader_l5 (z0_lasts : Int32) (z0_stalls : Int32) (z0_buyers : Int32) (z0_minute : Int32) (z0_price : Nat → Int32) (z0_came : Nat → Int32) (z0_seller : Nat → Int32) (z0_praise : Nat → Int32) (z0_borne : Nat → Int32) (z1_steps : Nat → Int32) (z1_size : Int32) (z1_sumFrom : Nat → Int32) (z1_testFrom : Nat → Int32) (z1_testTo : Nat → Int32) (z1_clauses : Int32) (x2 : Int32) : Nat → Int32 → Int32 → (Nat → Int32) → (Nat → Int32) → (Nat → Int32) → (Nat → Int32) → (Nat → Int32) → (Nat → Int64) → (Nat → Int64) → Option (Int32 × (Nat → Int32) × (Nat → Int32) × (Nat → Int32) × (Nat → Int32) × (Nat → Int32) × (Nat → Int64) × (Nat → Int64))
  | 0, _, _, _, _, _, _, _, _, _ => none
  | n + 1, x3, x4, z0_goods, z0_till, z0_sold, z0_purse, z0_had, z1_words, z1_stack => (if z0_buyers ≤ x4 then some (x3, z0_goods, z0_till, z0_sold, z0_purse, z0_had, z1_words, z1_stack) else (if x4 = x2 then mFair_trader_j31 (mFair_trader_l5 z0_lasts z0_stalls z0_buyers z0_minute z0_price z0_came z0_seller z0_praise z0_borne z1_steps z1_size z1_sumFrom z1_testFrom z1_testTo z1_clauses x2 n) x2 x3 x4 z0_lasts z0_stalls z0_buyers z0_minute z0_goods z0_price z0_till z0_sold z0_purse z0_came z0_had z0_seller z0_praise z0_borne z1_steps z1_size z1_sumFrom z1_testFrom z1_testTo z1_clauses z1_words z1_stack (-1 : Int32) else (mFair_choicer x4 z0_lasts z0_stalls z0_minute z0_goods z0_price z0_sold z0_purse z0_came z0_had z0_praise z0_borne z1_steps z1_size z1_sumFrom z1_testFrom z1_testTo z1_clauses z1_words z1_stack).bind (fun q3 => mFair_trader_j31 (mFair_trader_l5 z0_lasts z0_stalls z0_buyers z0_minute z0_price z0_came z0_seller z0_praise z0_borne z1_steps z1_size z1_sumFrom z1_testFrom z1_testTo z1_clauses x2 n) x2 x3 x4 z0_lasts z0_stalls z0_buyers z0_minute z0_goods z0_price z0_till z0_sold z0_purse z0_came z0_had z0_seller z0_praise z0_borne z1_steps z1_size z1_sumFrom z1_testFrom z1_testTo z1_clauses q3.2.1 q3.2.2 q3.1)))
set_option maxHeartbeats 4000000 in
set_option maxRecDepth 20000 in
theorem cFair_trader_l5 {q : Int32 × (Nat → Int32) × (Nat → Int32) × (Nat → Int32) × (Nat → Int32) × (Nat → Int32) × (Nat → Int64) × (Nat → Int64)} {x2 : Int32}  : ∀ (n : Nat) (x3 : Int32) (x4 : Int32) (z0_goods : Nat → Int32) (z0_till : Nat → Int32) (z0_sold : Nat → Int32) (z0_purse : Nat → Int32) (z0_had : Nat → Int32) (z1_words : Nat → Int64) (z1_stack : Nat → Int64), mFair_trader_l5 z0_lasts z0_stalls z0_buyers z0_minute z0_price z0_came z0_seller z0_praise z0_borne z1_steps z1_size z1_sumFrom z1_testFrom z1_testTo z1_clauses x2 n x3 x4 z0_goods z0_till z0_sold z0_purse z0_had z1_words z1_stack = some q → rW l D Z (ty7 K) MFair_trader 5 [(0, .ref (a0 0)), (1, .ref (a1 0)), (2, .int x2), (3, .int x3), (4, .int x4)] [] (List.flatten [bFair K a0 z0_lasts z0_keeps z0_stalls z0_buyers z0_minute z0_goods z0_price z0_tongue z0_till z0_wealth z0_sold z0_ring z0_grudges z0_purse z0_came z0_had z0_seller z0_praise z0_borne, bRule K a1 z1_steps z1_size z1_sumFrom z1_testFrom z1_testTo z1_clauses z1_parts z1_readsTime z1_words z1_stack]) (List.flatten [bFair K a0 z0_lasts z0_keeps z0_stalls z0_buyers z0_minute q.2.1 z0_price z0_tongue q.2.2.1 z0_wealth q.2.2.2.1 z0_ring z0_grudges q.2.2.2.2.1 z0_came q.2.2.2.2.2.1 z0_seller z0_praise z0_borne, bRule K a1 z1_steps z1_size z1_sumFrom z1_testFrom z1_testTo z1_clauses z1_parts z1_readsTime q.2.2.2.2.2.2.1 q.2.2.2.2.2.2.2]) (some (.int q.1)) := by
  intro n
  induction n with
  | zero => intro x3 x4 z0_goods z0_till z0_sold z0_purse z0_had z1_words z1_stack h; unfold mFair_trader_l5 at h; cases h
  | succ n ih =>
    intro x3 x4 z0_goods z0_till z0_sold z0_purse z0_had z1_words z1_stack h
    unfold mFair_trader_l5 at h
    refine r_iload 4 dX1_trade_5 rfl ?_
    refine r_aload_n 0 dX1_trade_7 rfl ?_
    refine gFair_buyers 0 rfl (tb_in (i := 3) (j := 0) rfl rfl) dX1_trade_8 ?_
    refine r_icmp_ge 136 dX1_trade_11 (by decide) (fun c1 => ?_) (fun c1 => ?_)
    · replace h := it_pos c1 h
      refine r_iload_n 3 dX1_trade_136 rfl ?_
      have hq := Option.some.inj h
      subst hq
      exact r_iret rfl dX1_trade_137
    · replace h := it_neg c1 h
      refine r_iload 4 dX1_trade_14 rfl ?_
      refine r_iload_n 2 dX1_trade_16 rfl ?_
      refine r_icmp_ne 24 dX1_trade_17 (by decide) (fun c2 => ?_) (fun c2 => ?_)
      · replace h := it_neg c2 h
        refine r_aload_n 0 dX1_trade_24 rfl ?_
        refine r_aload_n 1 dX1_trade_25 rfl ?_
        refine r_iload 4 dX1_trade_26 rfl ?_
        obtain ⟨q3, h3, h⟩ := bd_some h
        refine b_callV (isC := [0, 1]) (ci := 1)  (st := []) (bs1 := [bFair K a0 z0_lasts z0_keeps z0_stalls z0_buyers z0_minute z0_goods z0_price z0_tongue z0_till z0_wealth z0_sold z0_ring z0_grudges z0_purse z0_came z0_had z0_seller z0_praise z0_borne, bRule K a1 z1_steps z1_size z1_sumFrom z1_testFrom z1_testTo z1_clauses z1_parts z1_readsTime q3.2.1 q3.2.2]) (cFair_choicer (a0 := a0) (a1 := a1) (z0_lasts := z0_lasts) (z0_keeps := z0_keeps) (z0_stalls := z0_stalls) (z0_buyers := z0_buyers) (z0_minute := z0_minute) (z0_goods := z0_goods) (z0_price := z0_price) (z0_tongue := z0_tongue) (z0_till := z0_till) (z0_wealth := z0_wealth) (z0_sold := z0_sold) (z0_ring := z0_ring) (z0_grudges := z0_grudges) (z0_purse := z0_purse) (z0_came := z0_came) (z0_had := z0_had) (z0_seller := z0_seller) (z0_praise := z0_praise) (z0_borne := z0_borne) (z1_steps := z1_steps) (z1_size := z1_size) (z1_sumFrom := z1_sumFrom) (z1_testFrom := z1_testFrom) (z1_testTo := z1_testTo) (z1_clauses := z1_clauses) (z1_parts := z1_parts) (z1_readsTime := z1_readsTime) (z1_words := z1_words) (z1_stack := z1_stack) h3) rfl rfl (Nat.le_of_ble_eq_true rfl) kFair_choicer (tb_in (i := 5) (j := 8) rfl rfl) (by decide) (by decide) rfl rfl rfl rfl rfl rfl rfl dX1_trade_28 ?_
        exact cFair_trader_j31  (ih) h
      · replace h := it_pos c2 h
        refine r_iconst (x := (-1 : Int32)) dX1_trade_20 (by decide) ?_
        refine r_goto 31 dX1_trade_21 (by decide) ?_
        exact cFair_trader_j31  (ih) h
def mFair_trader (x2 : Int32) (z0_lasts : Int32) (z0_stalls : Int32) (z0_buyers : Int32) (z0_minute : Int32) (z0_goods : Nat → Int32) (z0_price : Nat → Int32) (z0_till : Nat → Int32) (z0_sold : Nat → Int32) (z0_purse : Nat → Int32) (z0_came : Nat → Int32) (z0_had : Nat → Int32) (z0_seller : Nat → Int32) (z0_praise : Nat → Int32) (z0_borne : Nat → Int32) (z1_steps : Nat → Int32) (z1_size : Int32) (z1_sumFrom : Nat → Int32) (z1_testFrom : Nat → Int32) (z1_testTo : Nat → Int32) (z1_clauses : Int32) (z1_words : Nat → Int64) (z1_stack : Nat → Int64) : Option (Int32 × (Nat → Int32) × (Nat → Int32) × (Nat → Int32) × (Nat → Int32) × (Nat → Int32) × (Nat → Int64) × (Nat → Int64)) := mFair_trader_l5 z0_lasts z0_stalls z0_buyers z0_minute z0_price z0_came z0_seller z0_praise z0_borne z1_steps z1_size z1_sumFrom z1_testFrom z1_testTo z1_clauses x2 FU (0 : Int32) (0 : Int32) z0_goods z0_till z0_sold z0_purse z0_had z1_words z1_stack
set_option maxHeartbeats 4000000 in
set_option maxRecDepth 20000 in
theorem cFair_trader {q : Int32 × (Nat → Int32) × (Nat → Int32) × (Nat → Int32) × (Nat → Int32) × (Nat → Int32) × (Nat → Int64) × (Nat → Int64)} {x2 : Int32} (h : mFair_trader x2 z0_lasts z0_stalls z0_buyers z0_minute z0_goods z0_price z0_till z0_sold z0_purse z0_came z0_had z0_seller z0_praise z0_borne z1_steps z1_size z1_sumFrom z1_testFrom z1_testTo z1_clauses z1_words z1_stack = some q) : rMet l D Z (ty7 K) MFair_trader [.ref (a0 0), .ref (a1 0), .int x2] (List.flatten [bFair K a0 z0_lasts z0_keeps z0_stalls z0_buyers z0_minute z0_goods z0_price z0_tongue z0_till z0_wealth z0_sold z0_ring z0_grudges z0_purse z0_came z0_had z0_seller z0_praise z0_borne, bRule K a1 z1_steps z1_size z1_sumFrom z1_testFrom z1_testTo z1_clauses z1_parts z1_readsTime z1_words z1_stack]) (List.flatten [bFair K a0 z0_lasts z0_keeps z0_stalls z0_buyers z0_minute q.2.1 z0_price z0_tongue q.2.2.1 z0_wealth q.2.2.2.1 z0_ring z0_grudges q.2.2.2.2.1 z0_came q.2.2.2.2.2.1 z0_seller z0_praise z0_borne, bRule K a1 z1_steps z1_size z1_sumFrom z1_testFrom z1_testTo z1_clauses z1_parts z1_readsTime q.2.2.2.2.2.2.1 q.2.2.2.2.2.2.2]) (some (.int q.1)) := by
  refine rMet.of (by decide) rfl (Nat.le_of_ble_eq_true rfl) ?_
  refine r_sub (lv' := [(0, .ref (a0 0)), (1, .ref (a1 0)), (2, .int x2)]) [0, 1, 2] rfl ?_
  unfold mFair_trader at h
  refine r_iconst (x := (0 : Int32)) dX1_trade_0 (by decide) ?_
  refine r_istore_n (lv' := [(3, .int (0 : Int32)), (0, .ref (a0 0)), (1, .ref (a1 0)), (2, .int x2)]) dX1_trade_1 (Nat.le_of_ble_eq_true rfl) rfl ?_
  refine r_iconst (x := (0 : Int32)) dX1_trade_2 (by decide) ?_
  refine r_istore (lv' := [(4, .int (0 : Int32)), (3, .int (0 : Int32)), (0, .ref (a0 0)), (1, .ref (a1 0)), (2, .int x2)]) dX1_trade_3 (Nat.le_of_ble_eq_true rfl) rfl ?_
  refine r_sub (lv' := [(0, .ref (a0 0)), (1, .ref (a1 0)), (2, .int x2), (3, .int (0 : Int32)), (4, .int (0 : Int32))]) [2, 3, 4, 1, 0] rfl ?_
  exact cFair_trader_l5   FU (0 : Int32) (0 : Int32) z0_goods z0_till z0_sold z0_purse z0_had z1_words z1_stack h
end
theorem dX1_handOn_0 : decode cX1_handOn 0 = .ok (.iconst 0, 1) := by decide +kernel
theorem dX1_handOn_1 : decode cX1_handOn 1 = .ok (.istore_n 1, 1) := by decide +kernel
theorem dX1_handOn_2 : decode cX1_handOn 2 = .ok (.iload_n 1, 1) := by decide +kernel
theorem dX1_handOn_3 : decode cX1_handOn 3 = .ok (.aload_n 0, 1) := by decide +kernel
theorem dX1_handOn_4 : decode cX1_handOn 4 = .ok (.getfield 18, 3) := by decide +kernel
theorem dX1_handOn_7 : decode cX1_handOn 7 = .ok (.if_icmp .ge 65, 3) := by decide +kernel
theorem dX1_handOn_10 : decode cX1_handOn 10 = .ok (.aload_n 0, 1) := by decide +kernel
theorem dX1_handOn_11 : decode cX1_handOn 11 = .ok (.getfield 61, 3) := by decide +kernel
theorem dX1_handOn_14 : decode cX1_handOn 14 = .ok (.iload_n 1, 1) := by decide +kernel
theorem dX1_handOn_15 : decode cX1_handOn 15 = .ok (.iaload, 1) := by decide +kernel
theorem dX1_handOn_16 : decode cX1_handOn 16 = .ok (.istore_n 2, 1) := by decide +kernel
theorem dX1_handOn_17 : decode cX1_handOn 17 = .ok (.aload_n 0, 1) := by decide +kernel
theorem dX1_handOn_18 : decode cX1_handOn 18 = .ok (.getfield 37, 3) := by decide +kernel
theorem dX1_handOn_21 : decode cX1_handOn 21 = .ok (.iload_n 2, 1) := by decide +kernel
theorem dX1_handOn_22 : decode cX1_handOn 22 = .ok (.iaload, 1) := by decide +kernel
theorem dX1_handOn_23 : decode cX1_handOn 23 = .ok (.aload_n 0, 1) := by decide +kernel
theorem dX1_handOn_24 : decode cX1_handOn 24 = .ok (.getfield 15, 3) := by decide +kernel
theorem dX1_handOn_27 : decode cX1_handOn 27 = .ok (.imul, 1) := by decide +kernel
theorem dX1_handOn_28 : decode cX1_handOn 28 = .ok (.bipush 10, 2) := by decide +kernel
theorem dX1_handOn_30 : decode cX1_handOn 30 = .ok (.idiv, 1) := by decide +kernel
theorem dX1_handOn_31 : decode cX1_handOn 31 = .ok (.istore_n 3, 1) := by decide +kernel
theorem dX1_handOn_32 : decode cX1_handOn 32 = .ok (.aload_n 0, 1) := by decide +kernel
theorem dX1_handOn_33 : decode cX1_handOn 33 = .ok (.getfield 40, 3) := by decide +kernel
theorem dX1_handOn_36 : decode cX1_handOn 36 = .ok (.iload_n 2, 1) := by decide +kernel
theorem dX1_handOn_37 : decode cX1_handOn 37 = .ok (.dup2, 1) := by decide +kernel
theorem dX1_handOn_38 : decode cX1_handOn 38 = .ok (.iaload, 1) := by decide +kernel
theorem dX1_handOn_39 : decode cX1_handOn 39 = .ok (.iload_n 3, 1) := by decide +kernel
theorem dX1_handOn_40 : decode cX1_handOn 40 = .ok (.iadd, 1) := by decide +kernel
theorem dX1_handOn_41 : decode cX1_handOn 41 = .ok (.iastore, 1) := by decide +kernel
theorem dX1_handOn_42 : decode cX1_handOn 42 = .ok (.aload_n 0, 1) := by decide +kernel
theorem dX1_handOn_43 : decode cX1_handOn 43 = .ok (.getfield 40, 3) := by decide +kernel
theorem dX1_handOn_46 : decode cX1_handOn 46 = .ok (.iload_n 1, 1) := by decide +kernel
theorem dX1_handOn_47 : decode cX1_handOn 47 = .ok (.dup2, 1) := by decide +kernel
theorem dX1_handOn_48 : decode cX1_handOn 48 = .ok (.iaload, 1) := by decide +kernel
theorem dX1_handOn_49 : decode cX1_handOn 49 = .ok (.aload_n 0, 1) := by decide +kernel
theorem dX1_handOn_50 : decode cX1_handOn 50 = .ok (.getfield 37, 3) := by decide +kernel
theorem dX1_handOn_53 : decode cX1_handOn 53 = .ok (.iload_n 2, 1) := by decide +kernel
theorem dX1_handOn_54 : decode cX1_handOn 54 = .ok (.iaload, 1) := by decide +kernel
theorem dX1_handOn_55 : decode cX1_handOn 55 = .ok (.iload_n 3, 1) := by decide +kernel
theorem dX1_handOn_56 : decode cX1_handOn 56 = .ok (.isub, 1) := by decide +kernel
theorem dX1_handOn_57 : decode cX1_handOn 57 = .ok (.iadd, 1) := by decide +kernel
theorem dX1_handOn_58 : decode cX1_handOn 58 = .ok (.iastore, 1) := by decide +kernel
theorem dX1_handOn_59 : decode cX1_handOn 59 = .ok (.aload_n 0, 1) := by decide +kernel
theorem dX1_handOn_60 : decode cX1_handOn 60 = .ok (.getfield 37, 3) := by decide +kernel
theorem dX1_handOn_63 : decode cX1_handOn 63 = .ok (.iload_n 2, 1) := by decide +kernel
theorem dX1_handOn_64 : decode cX1_handOn 64 = .ok (.iconst 0, 1) := by decide +kernel
theorem dX1_handOn_65 : decode cX1_handOn 65 = .ok (.iastore, 1) := by decide +kernel
theorem dX1_handOn_66 : decode cX1_handOn 66 = .ok (.iinc 1 1, 3) := by decide +kernel
theorem dX1_handOn_69 : decode cX1_handOn 69 = .ok (.goto (-67), 3) := by decide +kernel
theorem dX1_handOn_72 : decode cX1_handOn 72 = .ok (.return_, 1) := by decide +kernel
abbrev MFair_handOn : rx_M := (RX1, yX1_handOn, cX1_handOn, 4, none, 1)
theorem kFair_handOn : rKv MFair_handOn 0 := ⟨tb_in (i := 5) (j := 19) rfl rfl, tb_in (i := 5) (j := 20) rfl rfl, tb_in (i := 3) (j := 26) rfl rfl, tb_in (i := 5) (j := 16) rfl rfl, ⟨by decide, by decide, by decide +kernel⟩, by decide⟩
section
variable {a0 : Nat → Nat} {z0_lasts : Int32} {z0_keeps : Int32} {z0_stalls : Int32} {z0_buyers : Int32} {z0_minute : Int32} {z0_goods : Nat → Int32} {z0_price : Nat → Int32} {z0_tongue : Nat → Int32} {z0_till : Nat → Int32} {z0_wealth : Nat → Int32} {z0_sold : Nat → Int32} {z0_ring : Nat → Int32} {z0_grudges : Nat → Int32} {z0_purse : Nat → Int32} {z0_came : Nat → Int32} {z0_had : Nat → Int32} {z0_seller : Nat → Int32} {z0_praise : Nat → Int32} {z0_borne : Nat → Int32}
def mFair_handOn_l2 (z0_keeps : Int32) (z0_stalls : Int32) (z0_seller : Nat → Int32) : Nat → Int32 → (Nat → Int32) → (Nat → Int32) → Option ((Nat → Int32) × (Nat → Int32))
  | 0, _, _, _ => none
  | n + 1, x1, z0_till, z0_wealth => (if z0_stalls ≤ x1 then some (z0_till, z0_wealth) else rq (inb x1 6) (lt (z0_seller x1.toNatClampNeg) (fun y3 => rq (inb y3 6) (lt (((z0_till y3.toNatClampNeg) * z0_keeps) / (10 : Int32)) (fun y5 => rq (inb y3 6) (rq (inb y3 6) (lt (upd z0_wealth y3.toNatClampNeg ((z0_wealth y3.toNatClampNeg) + y5)) (fun u7 => rq (inb x1 6) (rq (inb y3 6) (rq (inb x1 6) (lt (upd u7 x1.toNatClampNeg ((u7 x1.toNatClampNeg) + ((z0_till y3.toNatClampNeg) - y5))) (fun u10 => rq (inb y3 6) (lt (upd z0_till y3.toNatClampNeg (0 : Int32)) (fun u11 => mFair_handOn_l2 z0_keeps z0_stalls z0_seller n (x1 + (1 : Int32)) u11 u10))))))))))))))
set_option maxHeartbeats 4000000 in
set_option maxRecDepth 20000 in
theorem cFair_handOn_l2 {q : (Nat → Int32) × (Nat → Int32)}   : ∀ (n : Nat) (x1 : Int32) (z0_till : Nat → Int32) (z0_wealth : Nat → Int32), mFair_handOn_l2 z0_keeps z0_stalls z0_seller n x1 z0_till z0_wealth = some q → rW l D Z (ty7 K) MFair_handOn 2 [(0, .ref (a0 0)), (1, .int x1)] [] (List.flatten [bFair K a0 z0_lasts z0_keeps z0_stalls z0_buyers z0_minute z0_goods z0_price z0_tongue z0_till z0_wealth z0_sold z0_ring z0_grudges z0_purse z0_came z0_had z0_seller z0_praise z0_borne]) (List.flatten [bFair K a0 z0_lasts z0_keeps z0_stalls z0_buyers z0_minute z0_goods z0_price z0_tongue q.1 q.2 z0_sold z0_ring z0_grudges z0_purse z0_came z0_had z0_seller z0_praise z0_borne]) none := by
  intro n
  induction n with
  | zero => intro x1 z0_till z0_wealth h; unfold mFair_handOn_l2 at h; cases h
  | succ n ih =>
    intro x1 z0_till z0_wealth h
    unfold mFair_handOn_l2 at h
    refine r_iload_n 1 dX1_handOn_2 rfl ?_
    refine r_aload_n 0 dX1_handOn_3 rfl ?_
    refine gFair_stalls 0 rfl (tb_in (i := 2) (j := 31) rfl rfl) dX1_handOn_4 ?_
    refine r_icmp_ge 72 dX1_handOn_7 (by decide) (fun c1 => ?_) (fun c1 => ?_)
    · replace h := it_pos c1 h
      have hq := Option.some.inj h
      subst hq
      exact r_vret rfl dX1_handOn_72
    · replace h := it_neg c1 h
      refine r_aload_n 0 dX1_handOn_10 rfl ?_
      refine gFair_seller 0 rfl (tb_in (i := 3) (j := 14) rfl rfl) dX1_handOn_11 ?_
      refine r_iload_n 1 dX1_handOn_14 rfl ?_
      obtain ⟨h2, h⟩ := rq_some h
      refine lFair_seller 0 rfl (inb_in h2) dX1_handOn_15 ?_
      obtain ⟨y3, e3, h⟩ := lt_some h
      refine r_top e3 ?_
      refine r_istore_n (lv' := [(2, .int y3), (0, .ref (a0 0)), (1, .int x1)]) dX1_handOn_16 (Nat.le_of_ble_eq_true rfl) rfl ?_
      refine r_aload_n 1 dX1_handOn_17 rfl ?_
      refine gFair_till 0 rfl (tb_in (i := 3) (j := 6) rfl rfl) dX1_handOn_18 ?_
      refine r_iload_n 0 dX1_handOn_21 rfl ?_
      obtain ⟨h4, h⟩ := rq_some h
      refine lFair_till 0 rfl (inb_in h4) dX1_handOn_22 ?_
      refine r_aload_n 1 dX1_handOn_23 rfl ?_
      refine gFair_keeps 0 rfl (tb_in (i := 2) (j := 30) rfl rfl) dX1_handOn_24 ?_
      refine r_imul dX1_handOn_27 ?_
      refine r_bipush (x := (10 : Int32)) dX1_handOn_28 (by decide) ?_
      refine r_idiv dX1_handOn_30 (by decide) ?_
      obtain ⟨y5, e5, h⟩ := lt_some h
      refine r_top e5 ?_
      refine r_istore_n (lv' := [(3, .int y5), (2, .int y3), (0, .ref (a0 0)), (1, .int x1)]) dX1_handOn_31 (Nat.le_of_ble_eq_true rfl) rfl ?_
      refine r_aload_n 2 dX1_handOn_32 rfl ?_
      refine gFair_wealth 0 rfl (tb_in (i := 3) (j := 7) rfl rfl) dX1_handOn_33 ?_
      refine r_iload_n 1 dX1_handOn_36 rfl ?_
      refine r_dup2 dX1_handOn_37 rfl rfl ?_
      obtain ⟨h6, h⟩ := rq_some h
      refine lFair_wealth 0 rfl (inb_in h6) dX1_handOn_38 ?_
      refine r_iload_n 0 dX1_handOn_39 rfl ?_
      refine r_iadd dX1_handOn_40 ?_
      obtain ⟨h7, h⟩ := rq_some h
      obtain ⟨u7, e7, h⟩ := lt_some h
      refine sFair_wealth (bs1 := [bFair K a0 z0_lasts z0_keeps z0_stalls z0_buyers z0_minute z0_goods z0_price z0_tongue z0_till u7 z0_sold z0_ring z0_grudges z0_purse z0_came z0_had z0_seller z0_praise z0_borne]) 0 e7 rfl (inb_in h7) rfl dX1_handOn_41 ?_
      refine r_aload_n 2 dX1_handOn_42 rfl ?_
      refine gFair_wealth 0 rfl (tb_in (i := 3) (j := 7) rfl rfl) dX1_handOn_43 ?_
      refine r_iload_n 3 dX1_handOn_46 rfl ?_
      refine r_dup2 dX1_handOn_47 rfl rfl ?_
      obtain ⟨h8, h⟩ := rq_some h
      refine lFair_wealth 0 rfl (inb_in h8) dX1_handOn_48 ?_
      refine r_aload_n 2 dX1_handOn_49 rfl ?_
      refine gFair_till 0 rfl (tb_in (i := 3) (j := 6) rfl rfl) dX1_handOn_50 ?_
      refine r_iload_n 1 dX1_handOn_53 rfl ?_
      obtain ⟨h9, h⟩ := rq_some h
      refine lFair_till 0 rfl (inb_in h9) dX1_handOn_54 ?_
      refine r_iload_n 0 dX1_handOn_55 rfl ?_
      refine r_isub dX1_handOn_56 ?_
      refine r_iadd dX1_handOn_57 ?_
      obtain ⟨h10, h⟩ := rq_some h
      obtain ⟨u10, e10, h⟩ := lt_some h
      refine sFair_wealth (bs1 := [bFair K a0 z0_lasts z0_keeps z0_stalls z0_buyers z0_minute z0_goods z0_price z0_tongue z0_till u10 z0_sold z0_ring z0_grudges z0_purse z0_came z0_had z0_seller z0_praise z0_borne]) 0 e10 rfl (inb_in h10) rfl dX1_handOn_58 ?_
      refine r_aload_n 2 dX1_handOn_59 rfl ?_
      refine gFair_till 0 rfl (tb_in (i := 3) (j := 6) rfl rfl) dX1_handOn_60 ?_
      refine r_iload_n 1 dX1_handOn_63 rfl ?_
      refine r_iconst (x := (0 : Int32)) dX1_handOn_64 (by decide) ?_
      obtain ⟨h11, h⟩ := rq_some h
      obtain ⟨u11, e11, h⟩ := lt_some h
      refine sFair_till (bs1 := [bFair K a0 z0_lasts z0_keeps z0_stalls z0_buyers z0_minute z0_goods z0_price z0_tongue u11 u10 z0_sold z0_ring z0_grudges z0_purse z0_came z0_had z0_seller z0_praise z0_borne]) 0 e11 rfl (inb_in h11) rfl dX1_handOn_65 ?_
      refine r_iinc (y := (x1 + (1 : Int32))) (lv' := [(1, .int (x1 + (1 : Int32))), (3, .int y5), (2, .int y3), (0, .ref (a0 0))]) 3 dX1_handOn_66 rfl rfl (Nat.le_of_ble_eq_true rfl) rfl ?_
      refine r_goto 2 dX1_handOn_69 (by decide) ?_
      refine r_sub (lv' := [(0, .ref (a0 0)), (1, .int (x1 + (1 : Int32)))]) [3, 0] rfl ?_
      exact ih (x1 + (1 : Int32)) u11 u10 h
def mFair_handOn (z0_keeps : Int32) (z0_stalls : Int32) (z0_till : Nat → Int32) (z0_wealth : Nat → Int32) (z0_seller : Nat → Int32) : Option ((Nat → Int32) × (Nat → Int32)) := mFair_handOn_l2 z0_keeps z0_stalls z0_seller FU (0 : Int32) z0_till z0_wealth
set_option maxHeartbeats 4000000 in
set_option maxRecDepth 20000 in
theorem cFair_handOn {q : (Nat → Int32) × (Nat → Int32)}  (h : mFair_handOn z0_keeps z0_stalls z0_till z0_wealth z0_seller = some q) : rMet l D Z (ty7 K) MFair_handOn [.ref (a0 0)] (List.flatten [bFair K a0 z0_lasts z0_keeps z0_stalls z0_buyers z0_minute z0_goods z0_price z0_tongue z0_till z0_wealth z0_sold z0_ring z0_grudges z0_purse z0_came z0_had z0_seller z0_praise z0_borne]) (List.flatten [bFair K a0 z0_lasts z0_keeps z0_stalls z0_buyers z0_minute z0_goods z0_price z0_tongue q.1 q.2 z0_sold z0_ring z0_grudges z0_purse z0_came z0_had z0_seller z0_praise z0_borne]) none := by
  refine rMet.of (by decide) rfl (Nat.le_of_ble_eq_true rfl) ?_
  refine r_sub (lv' := [(0, .ref (a0 0))]) [0] rfl ?_
  unfold mFair_handOn at h
  refine r_iconst (x := (0 : Int32)) dX1_handOn_0 (by decide) ?_
  refine r_istore_n (lv' := [(1, .int (0 : Int32)), (0, .ref (a0 0))]) dX1_handOn_1 (Nat.le_of_ble_eq_true rfl) rfl ?_
  refine r_sub (lv' := [(0, .ref (a0 0)), (1, .int (0 : Int32))]) [1, 0] rfl ?_
  exact cFair_handOn_l2   FU (0 : Int32) z0_till z0_wealth h
end
theorem dX1_closeMinute_0 : decode cX1_closeMinute 0 = .ok (.aload_n 0, 1) := by decide +kernel
theorem dX1_closeMinute_1 : decode cX1_closeMinute 1 = .ok (.getfield 9, 3) := by decide +kernel
theorem dX1_closeMinute_4 : decode cX1_closeMinute 4 = .ok (.ifCond .le 25, 3) := by decide +kernel
theorem dX1_closeMinute_7 : decode cX1_closeMinute 7 = .ok (.aload_n 0, 1) := by decide +kernel
theorem dX1_closeMinute_8 : decode cX1_closeMinute 8 = .ok (.getfield 24, 3) := by decide +kernel
theorem dX1_closeMinute_11 : decode cX1_closeMinute 11 = .ok (.aload_n 0, 1) := by decide +kernel
theorem dX1_closeMinute_12 : decode cX1_closeMinute 12 = .ok (.getfield 9, 3) := by decide +kernel
theorem dX1_closeMinute_15 : decode cX1_closeMinute 15 = .ok (.irem, 1) := by decide +kernel
theorem dX1_closeMinute_16 : decode cX1_closeMinute 16 = .ok (.aload_n 0, 1) := by decide +kernel
theorem dX1_closeMinute_17 : decode cX1_closeMinute 17 = .ok (.getfield 9, 3) := by decide +kernel
theorem dX1_closeMinute_20 : decode cX1_closeMinute 20 = .ok (.iconst 1, 1) := by decide +kernel
theorem dX1_closeMinute_21 : decode cX1_closeMinute 21 = .ok (.isub, 1) := by decide +kernel
theorem dX1_closeMinute_22 : decode cX1_closeMinute 22 = .ok (.if_icmp .ne 7, 3) := by decide +kernel
theorem dX1_closeMinute_25 : decode cX1_closeMinute 25 = .ok (.aload_n 0, 1) := by decide +kernel
theorem dX1_closeMinute_26 : decode cX1_closeMinute 26 = .ok (.invokevirtual 127, 3) := by decide +kernel
theorem dX1_closeMinute_29 : decode cX1_closeMinute 29 = .ok (.aload_n 0, 1) := by decide +kernel
theorem dX1_closeMinute_30 : decode cX1_closeMinute 30 = .ok (.dup, 1) := by decide +kernel
theorem dX1_closeMinute_31 : decode cX1_closeMinute 31 = .ok (.getfield 24, 3) := by decide +kernel
theorem dX1_closeMinute_34 : decode cX1_closeMinute 34 = .ok (.iconst 1, 1) := by decide +kernel
theorem dX1_closeMinute_35 : decode cX1_closeMinute 35 = .ok (.iadd, 1) := by decide +kernel
theorem dX1_closeMinute_36 : decode cX1_closeMinute 36 = .ok (.putfield 24, 3) := by decide +kernel
theorem dX1_closeMinute_39 : decode cX1_closeMinute 39 = .ok (.return_, 1) := by decide +kernel
abbrev MFair_closeMinute : rx_M := (RX1, yX1_closeMinute, cX1_closeMinute, 1, none, 2)
theorem kFair_closeMinute : rKv MFair_closeMinute 0 := ⟨tb_in (i := 5) (j := 28) rfl rfl, tb_in (i := 5) (j := 29) rfl rfl, tb_in (i := 3) (j := 26) rfl rfl, tb_in (i := 5) (j := 17) rfl rfl, ⟨by decide, by decide, by decide +kernel⟩, by decide⟩
section
variable {a0 : Nat → Nat} {z0_lasts : Int32} {z0_keeps : Int32} {z0_stalls : Int32} {z0_buyers : Int32} {z0_minute : Int32} {z0_goods : Nat → Int32} {z0_price : Nat → Int32} {z0_tongue : Nat → Int32} {z0_till : Nat → Int32} {z0_wealth : Nat → Int32} {z0_sold : Nat → Int32} {z0_ring : Nat → Int32} {z0_grudges : Nat → Int32} {z0_purse : Nat → Int32} {z0_came : Nat → Int32} {z0_had : Nat → Int32} {z0_seller : Nat → Int32} {z0_praise : Nat → Int32} {z0_borne : Nat → Int32}
def mFair_closeMinute (z0_lasts : Int32) (z0_keeps : Int32) (z0_stalls : Int32) (z0_minute : Int32) (z0_till : Nat → Int32) (z0_wealth : Nat → Int32) (z0_seller : Nat → Int32) : Option (Int32 × (Nat → Int32) × (Nat → Int32)) := (if z0_lasts ≤ 0 then lt (z0_minute + (1 : Int32)) (fun y2 => some (y2, z0_till, z0_wealth)) else rq (decide (¬ z0_lasts = 0)) ((if (z0_minute - z0_minute / z0_lasts * z0_lasts) = (z0_lasts - (1 : Int32)) then (mFair_handOn z0_keeps z0_stalls z0_till z0_wealth z0_seller).bind (fun q6 => lt (z0_minute + (1 : Int32)) (fun y7 => some (y7, q6.1, q6.2))) else lt (z0_minute + (1 : Int32)) (fun y5 => some (y5, z0_till, z0_wealth)))))
set_option maxHeartbeats 4000000 in
set_option maxRecDepth 20000 in
theorem cFair_closeMinute {q : Int32 × (Nat → Int32) × (Nat → Int32)}  (h : mFair_closeMinute z0_lasts z0_keeps z0_stalls z0_minute z0_till z0_wealth z0_seller = some q) : rMet l D Z (ty7 K) MFair_closeMinute [.ref (a0 0)] (List.flatten [bFair K a0 z0_lasts z0_keeps z0_stalls z0_buyers z0_minute z0_goods z0_price z0_tongue z0_till z0_wealth z0_sold z0_ring z0_grudges z0_purse z0_came z0_had z0_seller z0_praise z0_borne]) (List.flatten [bFair K a0 z0_lasts z0_keeps z0_stalls z0_buyers q.1 z0_goods z0_price z0_tongue q.2.1 q.2.2 z0_sold z0_ring z0_grudges z0_purse z0_came z0_had z0_seller z0_praise z0_borne]) none := by
  refine rMet.of (by decide) rfl (Nat.le_of_ble_eq_true rfl) ?_
  refine r_sub (lv' := [(0, .ref (a0 0))]) [0] rfl ?_
  unfold mFair_closeMinute at h
  refine r_aload_n 0 dX1_closeMinute_0 rfl ?_
  refine gFair_lasts 0 rfl (tb_in (i := 2) (j := 29) rfl rfl) dX1_closeMinute_1 ?_
  refine r_if_le 29 dX1_closeMinute_4 (by decide) (fun c1 => ?_) (fun c1 => ?_)
  · replace h := it_pos c1 h
    refine r_aload_n 0 dX1_closeMinute_29 rfl ?_
    refine r_dup dX1_closeMinute_30 rfl ?_
    refine gFair_minute 0 rfl (tb_in (i := 3) (j := 1) rfl rfl) dX1_closeMinute_31 ?_
    refine r_iconst (x := (1 : Int32)) dX1_closeMinute_34 (by decide) ?_
    refine r_iadd dX1_closeMinute_35 ?_
    obtain ⟨y2, e2, h⟩ := lt_some h
    refine r_top e2 ?_
    refine pFair_minute (bs1 := [bFair K a0 z0_lasts z0_keeps z0_stalls z0_buyers y2 z0_goods z0_price z0_tongue z0_till z0_wealth z0_sold z0_ring z0_grudges z0_purse z0_came z0_had z0_seller z0_praise z0_borne]) 0 rfl rfl (tb_in (i := 3) (j := 1) rfl rfl) dX1_closeMinute_36 ?_
    have hq := Option.some.inj h
    subst hq
    exact r_vret rfl dX1_closeMinute_39
  · replace h := it_neg c1 h
    refine r_aload_n 0 dX1_closeMinute_7 rfl ?_
    refine gFair_minute 0 rfl (tb_in (i := 3) (j := 1) rfl rfl) dX1_closeMinute_8 ?_
    refine r_aload_n 0 dX1_closeMinute_11 rfl ?_
    refine gFair_lasts 0 rfl (tb_in (i := 2) (j := 29) rfl rfl) dX1_closeMinute_12 ?_
    obtain ⟨h3, h⟩ := rq_some h
    refine r_irem dX1_closeMinute_15 (of_decide_eq_true h3) ?_
    refine r_aload_n 0 dX1_closeMinute_16 rfl ?_
    refine gFair_lasts 0 rfl (tb_in (i := 2) (j := 29) rfl rfl) dX1_closeMinute_17 ?_
    refine r_iconst (x := (1 : Int32)) dX1_closeMinute_20 (by decide) ?_
    refine r_isub dX1_closeMinute_21 ?_
    refine r_icmp_ne 29 dX1_closeMinute_22 (by decide) (fun c4 => ?_) (fun c4 => ?_)
    · replace h := it_neg c4 h
      refine r_aload_n 0 dX1_closeMinute_29 rfl ?_
      refine r_dup dX1_closeMinute_30 rfl ?_
      refine gFair_minute 0 rfl (tb_in (i := 3) (j := 1) rfl rfl) dX1_closeMinute_31 ?_
      refine r_iconst (x := (1 : Int32)) dX1_closeMinute_34 (by decide) ?_
      refine r_iadd dX1_closeMinute_35 ?_
      obtain ⟨y5, e5, h⟩ := lt_some h
      refine r_top e5 ?_
      refine pFair_minute (bs1 := [bFair K a0 z0_lasts z0_keeps z0_stalls z0_buyers y5 z0_goods z0_price z0_tongue z0_till z0_wealth z0_sold z0_ring z0_grudges z0_purse z0_came z0_had z0_seller z0_praise z0_borne]) 0 rfl rfl (tb_in (i := 3) (j := 1) rfl rfl) dX1_closeMinute_36 ?_
      have hq := Option.some.inj h
      subst hq
      exact r_vret rfl dX1_closeMinute_39
    · replace h := it_pos c4 h
      refine r_aload_n 0 dX1_closeMinute_25 rfl ?_
      obtain ⟨q6, h6, h⟩ := bd_some h
      refine b_callV (isC := [0]) (ci := 1)  (st := []) (bs1 := [bFair K a0 z0_lasts z0_keeps z0_stalls z0_buyers z0_minute z0_goods z0_price z0_tongue q6.1 q6.2 z0_sold z0_ring z0_grudges z0_purse z0_came z0_had z0_seller z0_praise z0_borne]) (cFair_handOn (a0 := a0) (z0_lasts := z0_lasts) (z0_keeps := z0_keeps) (z0_stalls := z0_stalls) (z0_buyers := z0_buyers) (z0_minute := z0_minute) (z0_goods := z0_goods) (z0_price := z0_price) (z0_tongue := z0_tongue) (z0_till := z0_till) (z0_wealth := z0_wealth) (z0_sold := z0_sold) (z0_ring := z0_ring) (z0_grudges := z0_grudges) (z0_purse := z0_purse) (z0_came := z0_came) (z0_had := z0_had) (z0_seller := z0_seller) (z0_praise := z0_praise) (z0_borne := z0_borne) h6) rfl rfl (Nat.le_of_ble_eq_true rfl) kFair_handOn (tb_in (i := 5) (j := 18) rfl rfl) (by decide) (by decide) rfl rfl rfl rfl rfl rfl rfl dX1_closeMinute_26 ?_
      refine r_aload_n 0 dX1_closeMinute_29 rfl ?_
      refine r_dup dX1_closeMinute_30 rfl ?_
      refine gFair_minute 0 rfl (tb_in (i := 3) (j := 1) rfl rfl) dX1_closeMinute_31 ?_
      refine r_iconst (x := (1 : Int32)) dX1_closeMinute_34 (by decide) ?_
      refine r_iadd dX1_closeMinute_35 ?_
      obtain ⟨y7, e7, h⟩ := lt_some h
      refine r_top e7 ?_
      refine pFair_minute (bs1 := [bFair K a0 z0_lasts z0_keeps z0_stalls z0_buyers y7 z0_goods z0_price z0_tongue q6.1 q6.2 z0_sold z0_ring z0_grudges z0_purse z0_came z0_had z0_seller z0_praise z0_borne]) 0 rfl rfl (tb_in (i := 3) (j := 1) rfl rfl) dX1_closeMinute_36 ?_
      have hq := Option.some.inj h
      subst hq
      exact r_vret rfl dX1_closeMinute_39
end
theorem dX1_allThatCan_0 : decode cX1_allThatCan 0 = .ok (.iconst 0, 1) := by decide +kernel
theorem dX1_allThatCan_1 : decode cX1_allThatCan 1 = .ok (.istore_n 2, 1) := by decide +kernel
theorem dX1_allThatCan_2 : decode cX1_allThatCan 2 = .ok (.iconst 0, 1) := by decide +kernel
theorem dX1_allThatCan_3 : decode cX1_allThatCan 3 = .ok (.istore_n 3, 1) := by decide +kernel
theorem dX1_allThatCan_4 : decode cX1_allThatCan 4 = .ok (.iload_n 3, 1) := by decide +kernel
theorem dX1_allThatCan_5 : decode cX1_allThatCan 5 = .ok (.aload_n 0, 1) := by decide +kernel
theorem dX1_allThatCan_6 : decode cX1_allThatCan 6 = .ok (.getfield 18, 3) := by decide +kernel
theorem dX1_allThatCan_9 : decode cX1_allThatCan 9 = .ok (.if_icmp .ge 24, 3) := by decide +kernel
theorem dX1_allThatCan_12 : decode cX1_allThatCan 12 = .ok (.aload_n 0, 1) := by decide +kernel
theorem dX1_allThatCan_13 : decode cX1_allThatCan 13 = .ok (.iload_n 1, 1) := by decide +kernel
theorem dX1_allThatCan_14 : decode cX1_allThatCan 14 = .ok (.iload_n 3, 1) := by decide +kernel
theorem dX1_allThatCan_15 : decode cX1_allThatCan 15 = .ok (.invokevirtual 97, 3) := by decide +kernel
theorem dX1_allThatCan_18 : decode cX1_allThatCan 18 = .ok (.ifCond .eq 9, 3) := by decide +kernel
theorem dX1_allThatCan_21 : decode cX1_allThatCan 21 = .ok (.iload_n 2, 1) := by decide +kernel
theorem dX1_allThatCan_22 : decode cX1_allThatCan 22 = .ok (.iconst 1, 1) := by decide +kernel
theorem dX1_allThatCan_23 : decode cX1_allThatCan 23 = .ok (.iload_n 3, 1) := by decide +kernel
theorem dX1_allThatCan_24 : decode cX1_allThatCan 24 = .ok (.ishl, 1) := by decide +kernel
theorem dX1_allThatCan_25 : decode cX1_allThatCan 25 = .ok (.ior, 1) := by decide +kernel
theorem dX1_allThatCan_26 : decode cX1_allThatCan 26 = .ok (.istore_n 2, 1) := by decide +kernel
theorem dX1_allThatCan_27 : decode cX1_allThatCan 27 = .ok (.iinc 3 1, 3) := by decide +kernel
theorem dX1_allThatCan_30 : decode cX1_allThatCan 30 = .ok (.goto (-26), 3) := by decide +kernel
theorem dX1_allThatCan_33 : decode cX1_allThatCan 33 = .ok (.iload_n 2, 1) := by decide +kernel
theorem dX1_allThatCan_34 : decode cX1_allThatCan 34 = .ok (.ireturn, 1) := by decide +kernel
abbrev MFair_allThatCan : rx_M := (RX1, yX1_allThatCan, cX1_allThatCan, 4, (some .int), 2)
theorem kFair_allThatCan : rKv MFair_allThatCan 1 := ⟨tb_in (i := 5) (j := 14) rfl rfl, tb_in (i := 5) (j := 15) rfl rfl, tb_in (i := 3) (j := 26) rfl rfl, tb_in (i := 4) (j := 14) rfl rfl, ⟨by decide, by decide, by decide +kernel⟩, by decide⟩
section
variable {a0 : Nat → Nat} {z0_lasts : Int32} {z0_keeps : Int32} {z0_stalls : Int32} {z0_buyers : Int32} {z0_minute : Int32} {z0_goods : Nat → Int32} {z0_price : Nat → Int32} {z0_tongue : Nat → Int32} {z0_till : Nat → Int32} {z0_wealth : Nat → Int32} {z0_sold : Nat → Int32} {z0_ring : Nat → Int32} {z0_grudges : Nat → Int32} {z0_purse : Nat → Int32} {z0_came : Nat → Int32} {z0_had : Nat → Int32} {z0_seller : Nat → Int32} {z0_praise : Nat → Int32} {z0_borne : Nat → Int32}
def mFair_allThatCan_l4 (z0_stalls : Int32) (z0_goods : Nat → Int32) (z0_price : Nat → Int32) (z0_purse : Nat → Int32) (x1 : Int32) : Nat → Int32 → Int32 → Option (Int32)
  | 0, _, _ => none
  | n + 1, x2, x3 => (if z0_stalls ≤ x3 then some (x2) else (mFair_can x1 x3 z0_goods z0_price z0_purse).bind (fun q2 => (if q2 = 0 then mFair_allThatCan_l4 z0_stalls z0_goods z0_price z0_purse x1 n x2 (x3 + (1 : Int32)) else lt (x2 ||| ((1 : Int32) <<< (x3 &&& 31))) (fun y4 => mFair_allThatCan_l4 z0_stalls z0_goods z0_price z0_purse x1 n y4 (x3 + (1 : Int32))))))
set_option maxHeartbeats 4000000 in
set_option maxRecDepth 20000 in
theorem cFair_allThatCan_l4 {q : Int32} {x1 : Int32}  : ∀ (n : Nat) (x2 : Int32) (x3 : Int32), mFair_allThatCan_l4 z0_stalls z0_goods z0_price z0_purse x1 n x2 x3 = some q → rW l D Z (ty7 K) MFair_allThatCan 4 [(0, .ref (a0 0)), (1, .int x1), (2, .int x2), (3, .int x3)] [] (List.flatten [bFair K a0 z0_lasts z0_keeps z0_stalls z0_buyers z0_minute z0_goods z0_price z0_tongue z0_till z0_wealth z0_sold z0_ring z0_grudges z0_purse z0_came z0_had z0_seller z0_praise z0_borne]) (List.flatten [bFair K a0 z0_lasts z0_keeps z0_stalls z0_buyers z0_minute z0_goods z0_price z0_tongue z0_till z0_wealth z0_sold z0_ring z0_grudges z0_purse z0_came z0_had z0_seller z0_praise z0_borne]) (some (.int q)) := by
  intro n
  induction n with
  | zero => intro x2 x3 h; unfold mFair_allThatCan_l4 at h; cases h
  | succ n ih =>
    intro x2 x3 h
    unfold mFair_allThatCan_l4 at h
    refine r_iload_n 3 dX1_allThatCan_4 rfl ?_
    refine r_aload_n 0 dX1_allThatCan_5 rfl ?_
    refine gFair_stalls 0 rfl (tb_in (i := 2) (j := 31) rfl rfl) dX1_allThatCan_6 ?_
    refine r_icmp_ge 33 dX1_allThatCan_9 (by decide) (fun c1 => ?_) (fun c1 => ?_)
    · replace h := it_pos c1 h
      refine r_iload_n 2 dX1_allThatCan_33 rfl ?_
      have hq := Option.some.inj h
      subst hq
      exact r_iret rfl dX1_allThatCan_34
    · replace h := it_neg c1 h
      refine r_aload_n 0 dX1_allThatCan_12 rfl ?_
      refine r_iload_n 1 dX1_allThatCan_13 rfl ?_
      refine r_iload_n 3 dX1_allThatCan_14 rfl ?_
      obtain ⟨q2, h2, h⟩ := bd_some h
      refine b_callV (isC := [0]) (ci := 1)  (st := []) (bs1 := [bFair K a0 z0_lasts z0_keeps z0_stalls z0_buyers z0_minute z0_goods z0_price z0_tongue z0_till z0_wealth z0_sold z0_ring z0_grudges z0_purse z0_came z0_had z0_seller z0_praise z0_borne]) (cFair_can (a0 := a0) (z0_lasts := z0_lasts) (z0_keeps := z0_keeps) (z0_stalls := z0_stalls) (z0_buyers := z0_buyers) (z0_minute := z0_minute) (z0_goods := z0_goods) (z0_price := z0_price) (z0_tongue := z0_tongue) (z0_till := z0_till) (z0_wealth := z0_wealth) (z0_sold := z0_sold) (z0_ring := z0_ring) (z0_grudges := z0_grudges) (z0_purse := z0_purse) (z0_came := z0_came) (z0_had := z0_had) (z0_seller := z0_seller) (z0_praise := z0_praise) (z0_borne := z0_borne) h2) rfl rfl (Nat.le_of_ble_eq_true rfl) kFair_can (tb_in (i := 4) (j := 15) rfl rfl) (by decide) (by decide) rfl rfl rfl rfl rfl rfl rfl dX1_allThatCan_15 ?_
      refine r_if_eq 27 dX1_allThatCan_18 (by decide) (fun c3 => ?_) (fun c3 => ?_)
      · replace h := it_pos c3 h
        refine r_iinc (y := (x3 + (1 : Int32))) (lv' := [(3, .int (x3 + (1 : Int32))), (0, .ref (a0 0)), (1, .int x1), (2, .int x2)]) 3 dX1_allThatCan_27 rfl rfl (Nat.le_of_ble_eq_true rfl) rfl ?_
        refine r_goto 4 dX1_allThatCan_30 (by decide) ?_
        refine r_sub (lv' := [(0, .ref (a0 0)), (1, .int x1), (2, .int x2), (3, .int (x3 + (1 : Int32)))]) [1, 2, 3, 0] rfl ?_
        exact ih x2 (x3 + (1 : Int32)) h
      · replace h := it_neg c3 h
        refine r_iload_n 2 dX1_allThatCan_21 rfl ?_
        refine r_iconst (x := (1 : Int32)) dX1_allThatCan_22 (by decide) ?_
        refine r_iload_n 3 dX1_allThatCan_23 rfl ?_
        refine r_ishl dX1_allThatCan_24 ?_
        refine r_ior dX1_allThatCan_25 ?_
        obtain ⟨y4, e4, h⟩ := lt_some h
        refine r_top e4 ?_
        refine r_istore_n (lv' := [(2, .int y4), (0, .ref (a0 0)), (1, .int x1), (3, .int x3)]) dX1_allThatCan_26 (Nat.le_of_ble_eq_true rfl) rfl ?_
        refine r_iinc (y := (x3 + (1 : Int32))) (lv' := [(3, .int (x3 + (1 : Int32))), (2, .int y4), (0, .ref (a0 0)), (1, .int x1)]) 3 dX1_allThatCan_27 rfl rfl (Nat.le_of_ble_eq_true rfl) rfl ?_
        refine r_goto 4 dX1_allThatCan_30 (by decide) ?_
        refine r_sub (lv' := [(0, .ref (a0 0)), (1, .int x1), (2, .int y4), (3, .int (x3 + (1 : Int32)))]) [2, 3, 1, 0] rfl ?_
        exact ih y4 (x3 + (1 : Int32)) h
def mFair_allThatCan (x1 : Int32) (z0_stalls : Int32) (z0_goods : Nat → Int32) (z0_price : Nat → Int32) (z0_purse : Nat → Int32) : Option (Int32) := mFair_allThatCan_l4 z0_stalls z0_goods z0_price z0_purse x1 FU (0 : Int32) (0 : Int32)
set_option maxHeartbeats 4000000 in
set_option maxRecDepth 20000 in
theorem cFair_allThatCan {q : Int32} {x1 : Int32} (h : mFair_allThatCan x1 z0_stalls z0_goods z0_price z0_purse = some q) : rMet l D Z (ty7 K) MFair_allThatCan [.ref (a0 0), .int x1] (List.flatten [bFair K a0 z0_lasts z0_keeps z0_stalls z0_buyers z0_minute z0_goods z0_price z0_tongue z0_till z0_wealth z0_sold z0_ring z0_grudges z0_purse z0_came z0_had z0_seller z0_praise z0_borne]) (List.flatten [bFair K a0 z0_lasts z0_keeps z0_stalls z0_buyers z0_minute z0_goods z0_price z0_tongue z0_till z0_wealth z0_sold z0_ring z0_grudges z0_purse z0_came z0_had z0_seller z0_praise z0_borne]) (some (.int q)) := by
  refine rMet.of (by decide) rfl (Nat.le_of_ble_eq_true rfl) ?_
  refine r_sub (lv' := [(0, .ref (a0 0)), (1, .int x1)]) [0, 1] rfl ?_
  unfold mFair_allThatCan at h
  refine r_iconst (x := (0 : Int32)) dX1_allThatCan_0 (by decide) ?_
  refine r_istore_n (lv' := [(2, .int (0 : Int32)), (0, .ref (a0 0)), (1, .int x1)]) dX1_allThatCan_1 (Nat.le_of_ble_eq_true rfl) rfl ?_
  refine r_iconst (x := (0 : Int32)) dX1_allThatCan_2 (by decide) ?_
  refine r_istore_n (lv' := [(3, .int (0 : Int32)), (2, .int (0 : Int32)), (0, .ref (a0 0)), (1, .int x1)]) dX1_allThatCan_3 (Nat.le_of_ble_eq_true rfl) rfl ?_
  refine r_sub (lv' := [(0, .ref (a0 0)), (1, .int x1), (2, .int (0 : Int32)), (3, .int (0 : Int32))]) [2, 3, 1, 0] rfl ?_
  exact cFair_allThatCan_l4   FU (0 : Int32) (0 : Int32) h
end
theorem dX1_staysSo_0 : decode cX1_staysSo 0 = .ok (.aload_n 1, 1) := by decide +kernel
theorem dX1_staysSo_1 : decode cX1_staysSo 1 = .ok (.ifnull 10, 3) := by decide +kernel
theorem dX1_staysSo_4 : decode cX1_staysSo 4 = .ok (.aload_n 1, 1) := by decide +kernel
theorem dX1_staysSo_5 : decode cX1_staysSo 5 = .ok (.getfield 111, 3) := by decide +kernel
theorem dX1_staysSo_8 : decode cX1_staysSo 8 = .ok (.ifCond .ne 5, 3) := by decide +kernel
theorem dX1_staysSo_11 : decode cX1_staysSo 11 = .ok (.iconst 1, 1) := by decide +kernel
theorem dX1_staysSo_12 : decode cX1_staysSo 12 = .ok (.ireturn, 1) := by decide +kernel
theorem dX1_staysSo_13 : decode cX1_staysSo 13 = .ok (.iconst 0, 1) := by decide +kernel
theorem dX1_staysSo_14 : decode cX1_staysSo 14 = .ok (.istore_n 2, 1) := by decide +kernel
theorem dX1_staysSo_15 : decode cX1_staysSo 15 = .ok (.iconst 0, 1) := by decide +kernel
theorem dX1_staysSo_16 : decode cX1_staysSo 16 = .ok (.istore_n 3, 1) := by decide +kernel
theorem dX1_staysSo_17 : decode cX1_staysSo 17 = .ok (.iload_n 3, 1) := by decide +kernel
theorem dX1_staysSo_18 : decode cX1_staysSo 18 = .ok (.aload_n 0, 1) := by decide +kernel
theorem dX1_staysSo_19 : decode cX1_staysSo 19 = .ok (.getfield 21, 3) := by decide +kernel
theorem dX1_staysSo_22 : decode cX1_staysSo 22 = .ok (.if_icmp .ge 17, 3) := by decide +kernel
theorem dX1_staysSo_25 : decode cX1_staysSo 25 = .ok (.iload_n 2, 1) := by decide +kernel
theorem dX1_staysSo_26 : decode cX1_staysSo 26 = .ok (.aload_n 0, 1) := by decide +kernel
theorem dX1_staysSo_27 : decode cX1_staysSo 27 = .ok (.iload_n 3, 1) := by decide +kernel
theorem dX1_staysSo_28 : decode cX1_staysSo 28 = .ok (.invokevirtual 117, 3) := by decide +kernel
theorem dX1_staysSo_31 : decode cX1_staysSo 31 = .ok (.ior, 1) := by decide +kernel
theorem dX1_staysSo_32 : decode cX1_staysSo 32 = .ok (.istore_n 2, 1) := by decide +kernel
theorem dX1_staysSo_33 : decode cX1_staysSo 33 = .ok (.iinc 3 1, 3) := by decide +kernel
theorem dX1_staysSo_36 : decode cX1_staysSo 36 = .ok (.goto (-19), 3) := by decide +kernel
theorem dX1_staysSo_39 : decode cX1_staysSo 39 = .ok (.iload_n 2, 1) := by decide +kernel
theorem dX1_staysSo_40 : decode cX1_staysSo 40 = .ok (.ifCond .ne 7, 3) := by decide +kernel
theorem dX1_staysSo_43 : decode cX1_staysSo 43 = .ok (.iconst 1, 1) := by decide +kernel
theorem dX1_staysSo_44 : decode cX1_staysSo 44 = .ok (.goto 4, 3) := by decide +kernel
theorem dX1_staysSo_47 : decode cX1_staysSo 47 = .ok (.iconst 0, 1) := by decide +kernel
theorem dX1_staysSo_48 : decode cX1_staysSo 48 = .ok (.ireturn, 1) := by decide +kernel
abbrev MFair_staysSor : rx_M := (RX1, yX1_staysSo, cX1_staysSo, 4, (some .boolean), 3)
theorem kFair_staysSor : rKv MFair_staysSor 1 := ⟨tb_in (i := 5) (j := 25) rfl rfl, tb_in (i := 5) (j := 26) rfl rfl, tb_in (i := 3) (j := 26) rfl rfl, tb_in (i := 5) (j := 12) rfl rfl, ⟨by decide, by decide, by decide +kernel⟩, by decide⟩
section
variable {a0 : Nat → Nat} {a1 : Nat → Nat} {z0_lasts : Int32} {z0_keeps : Int32} {z0_stalls : Int32} {z0_buyers : Int32} {z0_minute : Int32} {z0_goods : Nat → Int32} {z0_price : Nat → Int32} {z0_tongue : Nat → Int32} {z0_till : Nat → Int32} {z0_wealth : Nat → Int32} {z0_sold : Nat → Int32} {z0_ring : Nat → Int32} {z0_grudges : Nat → Int32} {z0_purse : Nat → Int32} {z0_came : Nat → Int32} {z0_had : Nat → Int32} {z0_seller : Nat → Int32} {z0_praise : Nat → Int32} {z0_borne : Nat → Int32} {z1_steps : Nat → Int32} {z1_size : Int32} {z1_sumFrom : Nat → Int32} {z1_testFrom : Nat → Int32} {z1_testTo : Nat → Int32} {z1_clauses : Int32} {z1_parts : Int32} {z1_readsTime : Int32} {z1_words : Nat → Int64} {z1_stack : Nat → Int64}
def mFair_staysSor_l17 (z0_stalls : Int32) (z0_buyers : Int32) (z0_goods : Nat → Int32) (z0_price : Nat → Int32) (z0_purse : Nat → Int32) (z1_readsTime : Int32) : Nat → Int32 → Int32 → Option (Int32)
  | 0, _, _ => none
  | n + 1, x2, x3 => (if z0_buyers ≤ x3 then (if x2 = 0 then some ((1 : Int32)) else some ((0 : Int32))) else (mFair_allThatCan x3 z0_stalls z0_goods z0_price z0_purse).bind (fun q4 => lt (x2 ||| q4) (fun y5 => mFair_staysSor_l17 z0_stalls z0_buyers z0_goods z0_price z0_purse z1_readsTime n y5 (x3 + (1 : Int32)))))
set_option maxHeartbeats 4000000 in
set_option maxRecDepth 20000 in
theorem cFair_staysSor_l17 {q : Int32}   : ∀ (n : Nat) (x2 : Int32) (x3 : Int32), mFair_staysSor_l17 z0_stalls z0_buyers z0_goods z0_price z0_purse z1_readsTime n x2 x3 = some q → rW l D Z (ty7 K) MFair_staysSor 17 [(0, .ref (a0 0)), (2, .int x2), (3, .int x3)] [] (List.flatten [bFair K a0 z0_lasts z0_keeps z0_stalls z0_buyers z0_minute z0_goods z0_price z0_tongue z0_till z0_wealth z0_sold z0_ring z0_grudges z0_purse z0_came z0_had z0_seller z0_praise z0_borne, bRule K a1 z1_steps z1_size z1_sumFrom z1_testFrom z1_testTo z1_clauses z1_parts z1_readsTime z1_words z1_stack]) (List.flatten [bFair K a0 z0_lasts z0_keeps z0_stalls z0_buyers z0_minute z0_goods z0_price z0_tongue z0_till z0_wealth z0_sold z0_ring z0_grudges z0_purse z0_came z0_had z0_seller z0_praise z0_borne, bRule K a1 z1_steps z1_size z1_sumFrom z1_testFrom z1_testTo z1_clauses z1_parts z1_readsTime z1_words z1_stack]) (some (.int q)) := by
  intro n
  induction n with
  | zero => intro x2 x3 h; unfold mFair_staysSor_l17 at h; cases h
  | succ n ih =>
    intro x2 x3 h
    unfold mFair_staysSor_l17 at h
    refine r_iload_n 2 dX1_staysSo_17 rfl ?_
    refine r_aload_n 0 dX1_staysSo_18 rfl ?_
    refine gFair_buyers 0 rfl (tb_in (i := 3) (j := 0) rfl rfl) dX1_staysSo_19 ?_
    refine r_icmp_ge 39 dX1_staysSo_22 (by decide) (fun c2 => ?_) (fun c2 => ?_)
    · replace h := it_pos c2 h
      refine r_iload_n 1 dX1_staysSo_39 rfl ?_
      refine r_if_ne 47 dX1_staysSo_40 (by decide) (fun c3 => ?_) (fun c3 => ?_)
      · replace h := it_neg c3 h
        refine r_iconst (x := (0 : Int32)) dX1_staysSo_47 (by decide) ?_
        have hq := Option.some.inj h
        subst hq
        exact r_zret (ty := .boolean) rfl rfl dX1_staysSo_48
      · replace h := it_pos c3 h
        refine r_iconst (x := (1 : Int32)) dX1_staysSo_43 (by decide) ?_
        refine r_goto 48 dX1_staysSo_44 (by decide) ?_
        have hq := Option.some.inj h
        subst hq
        exact r_zret (ty := .boolean) rfl rfl dX1_staysSo_48
    · replace h := it_neg c2 h
      refine r_iload_n 1 dX1_staysSo_25 rfl ?_
      refine r_aload_n 0 dX1_staysSo_26 rfl ?_
      refine r_iload_n 2 dX1_staysSo_27 rfl ?_
      obtain ⟨q4, h4, h⟩ := bd_some h
      refine b_callV (isC := [0]) (ci := 1)  (st := [.int x2]) (bs1 := [bFair K a0 z0_lasts z0_keeps z0_stalls z0_buyers z0_minute z0_goods z0_price z0_tongue z0_till z0_wealth z0_sold z0_ring z0_grudges z0_purse z0_came z0_had z0_seller z0_praise z0_borne, bRule K a1 z1_steps z1_size z1_sumFrom z1_testFrom z1_testTo z1_clauses z1_parts z1_readsTime z1_words z1_stack]) (cFair_allThatCan (a0 := a0) (z0_lasts := z0_lasts) (z0_keeps := z0_keeps) (z0_stalls := z0_stalls) (z0_buyers := z0_buyers) (z0_minute := z0_minute) (z0_goods := z0_goods) (z0_price := z0_price) (z0_tongue := z0_tongue) (z0_till := z0_till) (z0_wealth := z0_wealth) (z0_sold := z0_sold) (z0_ring := z0_ring) (z0_grudges := z0_grudges) (z0_purse := z0_purse) (z0_came := z0_came) (z0_had := z0_had) (z0_seller := z0_seller) (z0_praise := z0_praise) (z0_borne := z0_borne) h4) rfl rfl (Nat.le_of_ble_eq_true rfl) kFair_allThatCan (tb_in (i := 5) (j := 13) rfl rfl) (by decide) (by decide) rfl rfl rfl rfl rfl rfl rfl dX1_staysSo_28 ?_
      refine r_ior dX1_staysSo_31 ?_
      obtain ⟨y5, e5, h⟩ := lt_some h
      refine r_top e5 ?_
      refine r_istore_n (lv' := [(2, .int y5), (0, .ref (a0 0)), (3, .int x3)]) dX1_staysSo_32 (Nat.le_of_ble_eq_true rfl) rfl ?_
      refine r_iinc (y := (x3 + (1 : Int32))) (lv' := [(3, .int (x3 + (1 : Int32))), (2, .int y5), (0, .ref (a0 0))]) 2 dX1_staysSo_33 rfl rfl (Nat.le_of_ble_eq_true rfl) rfl ?_
      refine r_goto 17 dX1_staysSo_36 (by decide) ?_
      refine r_sub (lv' := [(0, .ref (a0 0)), (2, .int y5), (3, .int (x3 + (1 : Int32)))]) [2, 1, 0] rfl ?_
      exact ih y5 (x3 + (1 : Int32)) h
def mFair_staysSor (z0_stalls : Int32) (z0_buyers : Int32) (z0_goods : Nat → Int32) (z0_price : Nat → Int32) (z0_purse : Nat → Int32) (z1_readsTime : Int32) : Option (Int32) := (if z1_readsTime = 0 then some ((1 : Int32)) else mFair_staysSor_l17 z0_stalls z0_buyers z0_goods z0_price z0_purse z1_readsTime FU (0 : Int32) (0 : Int32))
set_option maxHeartbeats 4000000 in
set_option maxRecDepth 20000 in
theorem cFair_staysSor {q : Int32}  (h : mFair_staysSor z0_stalls z0_buyers z0_goods z0_price z0_purse z1_readsTime = some q) : rMet l D Z (ty7 K) MFair_staysSor [.ref (a0 0), .ref (a1 0)] (List.flatten [bFair K a0 z0_lasts z0_keeps z0_stalls z0_buyers z0_minute z0_goods z0_price z0_tongue z0_till z0_wealth z0_sold z0_ring z0_grudges z0_purse z0_came z0_had z0_seller z0_praise z0_borne, bRule K a1 z1_steps z1_size z1_sumFrom z1_testFrom z1_testTo z1_clauses z1_parts z1_readsTime z1_words z1_stack]) (List.flatten [bFair K a0 z0_lasts z0_keeps z0_stalls z0_buyers z0_minute z0_goods z0_price z0_tongue z0_till z0_wealth z0_sold z0_ring z0_grudges z0_purse z0_came z0_had z0_seller z0_praise z0_borne, bRule K a1 z1_steps z1_size z1_sumFrom z1_testFrom z1_testTo z1_clauses z1_parts z1_readsTime z1_words z1_stack]) (some (.int q)) := by
  refine rMet.of (by decide) rfl (Nat.le_of_ble_eq_true rfl) ?_
  refine r_sub (lv' := [(0, .ref (a0 0)), (1, .ref (a1 0))]) [0, 1] rfl ?_
  unfold mFair_staysSor at h
  refine r_aload_n 1 dX1_staysSo_0 rfl ?_
  refine r_ifnull_ref dX1_staysSo_1 ?_
  refine r_aload_n 1 dX1_staysSo_4 rfl ?_
  refine gRule_readsTimeN 1 rfl (List.mem_of_getElem? (i := 70) rfl) dX1_staysSo_5 ?_
  refine r_if_ne 13 dX1_staysSo_8 (by decide) (fun c1 => ?_) (fun c1 => ?_)
  · replace h := it_neg c1 h
    refine r_iconst (x := (0 : Int32)) dX1_staysSo_13 (by decide) ?_
    refine r_istore_n (lv' := [(2, .int (0 : Int32)), (0, .ref (a0 0)), (1, .ref (a1 0))]) dX1_staysSo_14 (Nat.le_of_ble_eq_true rfl) rfl ?_
    refine r_iconst (x := (0 : Int32)) dX1_staysSo_15 (by decide) ?_
    refine r_istore_n (lv' := [(3, .int (0 : Int32)), (2, .int (0 : Int32)), (0, .ref (a0 0)), (1, .ref (a1 0))]) dX1_staysSo_16 (Nat.le_of_ble_eq_true rfl) rfl ?_
    refine r_sub (lv' := [(0, .ref (a0 0)), (2, .int (0 : Int32)), (3, .int (0 : Int32))]) [2, 1, 0] rfl ?_
    exact cFair_staysSor_l17   FU (0 : Int32) (0 : Int32) h
  · replace h := it_pos c1 h
    refine r_iconst (x := (1 : Int32)) dX1_staysSo_11 (by decide) ?_
    have hq := Option.some.inj h
    subst hq
    exact r_zret (ty := .boolean) rfl rfl dX1_staysSo_12
end
theorem dX1_go_0 : decode cX1_go 0 = .ok (.iconst 0, 1) := by decide +kernel
theorem dX1_go_1 : decode cX1_go 1 = .ok (.istore 4, 2) := by decide +kernel
theorem dX1_go_3 : decode cX1_go 3 = .ok (.iconst 0, 1) := by decide +kernel
theorem dX1_go_4 : decode cX1_go 4 = .ok (.istore 5, 2) := by decide +kernel
theorem dX1_go_6 : decode cX1_go 6 = .ok (.iconst 0, 1) := by decide +kernel
theorem dX1_go_7 : decode cX1_go 7 = .ok (.istore 6, 2) := by decide +kernel
theorem dX1_go_9 : decode cX1_go 9 = .ok (.iload 6, 2) := by decide +kernel
theorem dX1_go_11 : decode cX1_go 11 = .ok (.iload_n 2, 1) := by decide +kernel
theorem dX1_go_12 : decode cX1_go 12 = .ok (.if_icmp .ge 57, 3) := by decide +kernel
theorem dX1_go_15 : decode cX1_go 15 = .ok (.iload 5, 2) := by decide +kernel
theorem dX1_go_17 : decode cX1_go 17 = .ok (.ifCond .eq 7, 3) := by decide +kernel
theorem dX1_go_20 : decode cX1_go 20 = .ok (.iconst 0, 1) := by decide +kernel
theorem dX1_go_21 : decode cX1_go 21 = .ok (.goto 9, 3) := by decide +kernel
theorem dX1_go_24 : decode cX1_go 24 = .ok (.aload_n 0, 1) := by decide +kernel
theorem dX1_go_25 : decode cX1_go 25 = .ok (.aload_n 1, 1) := by decide +kernel
theorem dX1_go_26 : decode cX1_go 26 = .ok (.iload_n 3, 1) := by decide +kernel
theorem dX1_go_27 : decode cX1_go 27 = .ok (.invokevirtual 100, 3) := by decide +kernel
theorem dX1_go_30 : decode cX1_go 30 = .ok (.istore 7, 2) := by decide +kernel
theorem dX1_go_32 : decode cX1_go 32 = .ok (.iload 7, 2) := by decide +kernel
theorem dX1_go_34 : decode cX1_go 34 = .ok (.ifCond .ne 15, 3) := by decide +kernel
theorem dX1_go_37 : decode cX1_go 37 = .ok (.aload_n 0, 1) := by decide +kernel
theorem dX1_go_38 : decode cX1_go 38 = .ok (.aload_n 1, 1) := by decide +kernel
theorem dX1_go_39 : decode cX1_go 39 = .ok (.invokevirtual 104, 3) := by decide +kernel
theorem dX1_go_42 : decode cX1_go 42 = .ok (.ifCond .eq 7, 3) := by decide +kernel
theorem dX1_go_45 : decode cX1_go 45 = .ok (.iconst 1, 1) := by decide +kernel
theorem dX1_go_46 : decode cX1_go 46 = .ok (.goto 4, 3) := by decide +kernel
theorem dX1_go_49 : decode cX1_go 49 = .ok (.iconst 0, 1) := by decide +kernel
theorem dX1_go_50 : decode cX1_go 50 = .ok (.istore 5, 2) := by decide +kernel
theorem dX1_go_52 : decode cX1_go 52 = .ok (.iload 4, 2) := by decide +kernel
theorem dX1_go_54 : decode cX1_go 54 = .ok (.iload 7, 2) := by decide +kernel
theorem dX1_go_56 : decode cX1_go 56 = .ok (.iadd, 1) := by decide +kernel
theorem dX1_go_57 : decode cX1_go 57 = .ok (.istore 4, 2) := by decide +kernel
theorem dX1_go_59 : decode cX1_go 59 = .ok (.aload_n 0, 1) := by decide +kernel
theorem dX1_go_60 : decode cX1_go 60 = .ok (.invokevirtual 108, 3) := by decide +kernel
theorem dX1_go_63 : decode cX1_go 63 = .ok (.iinc 6 1, 3) := by decide +kernel
theorem dX1_go_66 : decode cX1_go 66 = .ok (.goto (-57), 3) := by decide +kernel
theorem dX1_go_69 : decode cX1_go 69 = .ok (.iload 4, 2) := by decide +kernel
theorem dX1_go_71 : decode cX1_go 71 = .ok (.ireturn, 1) := by decide +kernel
abbrev MFair_gor : rx_M := (RX1, yX1_go, cX1_go, 8, (some .int), 5)
theorem kFair_gor : rKv MFair_gor 3 := ⟨tb_in (i := 7) (j := 17) rfl rfl, tb_in (i := 7) (j := 18) rfl rfl, tb_in (i := 3) (j := 26) rfl rfl, tb_in (i := 5) (j := 30) rfl rfl, ⟨by decide, by decide, by decide +kernel⟩, by decide⟩
section
variable {a0 : Nat → Nat} {a1 : Nat → Nat} {z0_lasts : Int32} {z0_keeps : Int32} {z0_stalls : Int32} {z0_buyers : Int32} {z0_minute : Int32} {z0_goods : Nat → Int32} {z0_price : Nat → Int32} {z0_tongue : Nat → Int32} {z0_till : Nat → Int32} {z0_wealth : Nat → Int32} {z0_sold : Nat → Int32} {z0_ring : Nat → Int32} {z0_grudges : Nat → Int32} {z0_purse : Nat → Int32} {z0_came : Nat → Int32} {z0_had : Nat → Int32} {z0_seller : Nat → Int32} {z0_praise : Nat → Int32} {z0_borne : Nat → Int32} {z1_steps : Nat → Int32} {z1_size : Int32} {z1_sumFrom : Nat → Int32} {z1_testFrom : Nat → Int32} {z1_testTo : Nat → Int32} {z1_clauses : Int32} {z1_parts : Int32} {z1_readsTime : Int32} {z1_words : Nat → Int64} {z1_stack : Nat → Int64}
def mFair_gor_j30 (k9 : Int32 → Int32 → Int32 → Int32 → (Nat → Int32) → (Nat → Int32) → (Nat → Int32) → (Nat → Int32) → (Nat → Int32) → (Nat → Int32) → (Nat → Int64) → (Nat → Int64) → Option (Int32 × Int32 × (Nat → Int32) × (Nat → Int32) × (Nat → Int32) × (Nat → Int32) × (Nat → Int32) × (Nat → Int32) × (Nat → Int64) × (Nat → Int64))) (x2 : Int32) (x3 : Int32) (x4 : Int32) (x6 : Int32) (z0_lasts : Int32) (z0_keeps : Int32) (z0_stalls : Int32) (z0_buyers : Int32) (z0_minute : Int32) (z0_goods : Nat → Int32) (z0_price : Nat → Int32) (z0_till : Nat → Int32) (z0_wealth : Nat → Int32) (z0_sold : Nat → Int32) (z0_purse : Nat → Int32) (z0_came : Nat → Int32) (z0_had : Nat → Int32) (z0_seller : Nat → Int32) (z0_praise : Nat → Int32) (z0_borne : Nat → Int32) (z1_steps : Nat → Int32) (z1_size : Int32) (z1_sumFrom : Nat → Int32) (z1_testFrom : Nat → Int32) (z1_testTo : Nat → Int32) (z1_clauses : Int32) (z1_readsTime : Int32) (z1_words : Nat → Int64) (z1_stack : Nat → Int64) (s0 : Int32) : Option (Int32 × Int32 × (Nat → Int32) × (Nat → Int32) × (Nat → Int32) × (Nat → Int32) × (Nat → Int32) × (Nat → Int32) × (Nat → Int64) × (Nat → Int64)) := (if s0 = 0 then (mFair_staysSor z0_stalls z0_buyers z0_goods z0_price z0_purse z1_readsTime).bind (fun q7 => (if q7 = 0 then lt (x4 + s0) (fun y9 => (mFair_closeMinute z0_lasts z0_keeps z0_stalls z0_minute z0_till z0_wealth z0_seller).bind (fun q10 => k9 y9 (0 : Int32) (x6 + (1 : Int32)) q10.1 z0_goods q10.2.1 q10.2.2 z0_sold z0_purse z0_had z1_words z1_stack)) else lt (x4 + s0) (fun y11 => (mFair_closeMinute z0_lasts z0_keeps z0_stalls z0_minute z0_till z0_wealth z0_seller).bind (fun q12 => k9 y11 (1 : Int32) (x6 + (1 : Int32)) q12.1 z0_goods q12.2.1 q12.2.2 z0_sold z0_purse z0_had z1_words z1_stack)))) else lt (x4 + s0) (fun y5 => (mFair_closeMinute z0_lasts z0_keeps z0_stalls z0_minute z0_till z0_wealth z0_seller).bind (fun q6 => k9 y5 (0 : Int32) (x6 + (1 : Int32)) q6.1 z0_goods q6.2.1 q6.2.2 z0_sold z0_purse z0_had z1_words z1_stack)))
set_option maxHeartbeats 4000000 in
set_option maxRecDepth 20000 in
theorem cFair_gor_j30 {q : Int32 × Int32 × (Nat → Int32) × (Nat → Int32) × (Nat → Int32) × (Nat → Int32) × (Nat → Int32) × (Nat → Int32) × (Nat → Int64) × (Nat → Int64)} {x2 : Int32} {x3 : Int32} {x4 : Int32} {x6 : Int32} {s0 : Int32} {k9 : Int32 → Int32 → Int32 → Int32 → (Nat → Int32) → (Nat → Int32) → (Nat → Int32) → (Nat → Int32) → (Nat → Int32) → (Nat → Int32) → (Nat → Int64) → (Nat → Int64) → Option (Int32 × Int32 × (Nat → Int32) × (Nat → Int32) × (Nat → Int32) × (Nat → Int32) × (Nat → Int32) × (Nat → Int32) × (Nat → Int64) × (Nat → Int64))} (hk9 : ∀ (x4 : Int32) (x5 : Int32) (x6 : Int32) (z0_minute : Int32) (z0_goods : Nat → Int32) (z0_till : Nat → Int32) (z0_wealth : Nat → Int32) (z0_sold : Nat → Int32) (z0_purse : Nat → Int32) (z0_had : Nat → Int32) (z1_words : Nat → Int64) (z1_stack : Nat → Int64), k9 x4 x5 x6 z0_minute z0_goods z0_till z0_wealth z0_sold z0_purse z0_had z1_words z1_stack = some q → rW l D Z (ty7 K) MFair_gor 9 [(0, .ref (a0 0)), (1, .ref (a1 0)), (2, .int x2), (3, .int x3), (4, .int x4), (5, .int x5), (6, .int x6)] [] (List.flatten [bFair K a0 z0_lasts z0_keeps z0_stalls z0_buyers z0_minute z0_goods z0_price z0_tongue z0_till z0_wealth z0_sold z0_ring z0_grudges z0_purse z0_came z0_had z0_seller z0_praise z0_borne, bRule K a1 z1_steps z1_size z1_sumFrom z1_testFrom z1_testTo z1_clauses z1_parts z1_readsTime z1_words z1_stack]) (List.flatten [bFair K a0 z0_lasts z0_keeps z0_stalls z0_buyers q.2.1 q.2.2.1 z0_price z0_tongue q.2.2.2.1 q.2.2.2.2.1 q.2.2.2.2.2.1 z0_ring z0_grudges q.2.2.2.2.2.2.1 z0_came q.2.2.2.2.2.2.2.1 z0_seller z0_praise z0_borne, bRule K a1 z1_steps z1_size z1_sumFrom z1_testFrom z1_testTo z1_clauses z1_parts z1_readsTime q.2.2.2.2.2.2.2.2.1 q.2.2.2.2.2.2.2.2.2]) (some (.int q.1))) (h : mFair_gor_j30 k9 x2 x3 x4 x6 z0_lasts z0_keeps z0_stalls z0_buyers z0_minute z0_goods z0_price z0_till z0_wealth z0_sold z0_purse z0_came z0_had z0_seller z0_praise z0_borne z1_steps z1_size z1_sumFrom z1_testFrom z1_testTo z1_clauses z1_readsTime z1_words z1_stack s0 = some q) : rW l D Z (ty7 K) MFair_gor 30 [(0, .ref (a0 0)), (1, .ref (a1 0)), (2, .int x2), (3, .int x3), (4, .int x4), (6, .int x6)] [.int s0] (List.flatten [bFair K a0 z0_lasts z0_keeps z0_stalls z0_buyers z0_minute z0_goods z0_price z0_tongue z0_till z0_wealth z0_sold z0_ring z0_grudges z0_purse z0_came z0_had z0_seller z0_praise z0_borne, bRule K a1 z1_steps z1_size z1_sumFrom z1_testFrom z1_testTo z1_clauses z1_parts z1_readsTime z1_words z1_stack]) (List.flatten [bFair K a0 z0_lasts z0_keeps z0_stalls z0_buyers q.2.1 q.2.2.1 z0_price z0_tongue q.2.2.2.1 q.2.2.2.2.1 q.2.2.2.2.2.1 z0_ring z0_grudges q.2.2.2.2.2.2.1 z0_came q.2.2.2.2.2.2.2.1 z0_seller z0_praise z0_borne, bRule K a1 z1_steps z1_size z1_sumFrom z1_testFrom z1_testTo z1_clauses z1_parts z1_readsTime q.2.2.2.2.2.2.2.2.1 q.2.2.2.2.2.2.2.2.2]) (some (.int q.1)) := by
  unfold mFair_gor_j30 at h
  refine r_istore (lv' := [(7, .int s0), (0, .ref (a0 0)), (1, .ref (a1 0)), (2, .int x2), (3, .int x3), (4, .int x4), (6, .int x6)]) dX1_go_30 (Nat.le_of_ble_eq_true rfl) rfl ?_
  refine r_iload 0 dX1_go_32 rfl ?_
  refine r_if_ne 49 dX1_go_34 (by decide) (fun c4 => ?_) (fun c4 => ?_)
  · replace h := it_neg c4 h
    refine r_iconst (x := (0 : Int32)) dX1_go_49 (by decide) ?_
    refine r_istore (lv' := [(5, .int (0 : Int32)), (7, .int s0), (0, .ref (a0 0)), (1, .ref (a1 0)), (2, .int x2), (3, .int x3), (4, .int x4), (6, .int x6)]) dX1_go_50 (Nat.le_of_ble_eq_true rfl) rfl ?_
    refine r_iload 6 dX1_go_52 rfl ?_
    refine r_iload 1 dX1_go_54 rfl ?_
    refine r_iadd dX1_go_56 ?_
    obtain ⟨y5, e5, h⟩ := lt_some h
    refine r_top e5 ?_
    refine r_istore (lv' := [(4, .int y5), (5, .int (0 : Int32)), (7, .int s0), (0, .ref (a0 0)), (1, .ref (a1 0)), (2, .int x2), (3, .int x3), (6, .int x6)]) dX1_go_57 (Nat.le_of_ble_eq_true rfl) rfl ?_
    refine r_aload_n 3 dX1_go_59 rfl ?_
    obtain ⟨q6, h6, h⟩ := bd_some h
    refine b_callV (isC := [0]) (ci := 1)  (st := []) (bs1 := [bFair K a0 z0_lasts z0_keeps z0_stalls z0_buyers q6.1 z0_goods z0_price z0_tongue q6.2.1 q6.2.2 z0_sold z0_ring z0_grudges z0_purse z0_came z0_had z0_seller z0_praise z0_borne, bRule K a1 z1_steps z1_size z1_sumFrom z1_testFrom z1_testTo z1_clauses z1_parts z1_readsTime z1_words z1_stack]) (cFair_closeMinute (a0 := a0) (z0_lasts := z0_lasts) (z0_keeps := z0_keeps) (z0_stalls := z0_stalls) (z0_buyers := z0_buyers) (z0_minute := z0_minute) (z0_goods := z0_goods) (z0_price := z0_price) (z0_tongue := z0_tongue) (z0_till := z0_till) (z0_wealth := z0_wealth) (z0_sold := z0_sold) (z0_ring := z0_ring) (z0_grudges := z0_grudges) (z0_purse := z0_purse) (z0_came := z0_came) (z0_had := z0_had) (z0_seller := z0_seller) (z0_praise := z0_praise) (z0_borne := z0_borne) h6) rfl rfl (Nat.le_of_ble_eq_true rfl) kFair_closeMinute (tb_in (i := 5) (j := 27) rfl rfl) (by decide) (by decide) rfl rfl rfl rfl rfl rfl rfl dX1_go_60 ?_
    refine r_iinc (y := (x6 + (1 : Int32))) (lv' := [(6, .int (x6 + (1 : Int32))), (4, .int y5), (5, .int (0 : Int32)), (7, .int s0), (0, .ref (a0 0)), (1, .ref (a1 0)), (2, .int x2), (3, .int x3)]) 7 dX1_go_63 rfl rfl (Nat.le_of_ble_eq_true rfl) rfl ?_
    refine r_goto 9 dX1_go_66 (by decide) ?_
    refine r_sub (lv' := [(0, .ref (a0 0)), (1, .ref (a1 0)), (2, .int x2), (3, .int x3), (4, .int y5), (5, .int (0 : Int32)), (6, .int (x6 + (1 : Int32)))]) [4, 5, 6, 7, 1, 2, 0] rfl ?_
    exact hk9 y5 (0 : Int32) (x6 + (1 : Int32)) q6.1 z0_goods q6.2.1 q6.2.2 z0_sold z0_purse z0_had z1_words z1_stack h
  · replace h := it_pos c4 h
    refine r_aload_n 1 dX1_go_37 rfl ?_
    refine r_aload_n 2 dX1_go_38 rfl ?_
    obtain ⟨q7, h7, h⟩ := bd_some h
    refine b_callV (isC := [0, 1]) (ci := 1)  (st := []) (bs1 := [bFair K a0 z0_lasts z0_keeps z0_stalls z0_buyers z0_minute z0_goods z0_price z0_tongue z0_till z0_wealth z0_sold z0_ring z0_grudges z0_purse z0_came z0_had z0_seller z0_praise z0_borne, bRule K a1 z1_steps z1_size z1_sumFrom z1_testFrom z1_testTo z1_clauses z1_parts z1_readsTime z1_words z1_stack]) (cFair_staysSor (a0 := a0) (a1 := a1) (z0_lasts := z0_lasts) (z0_keeps := z0_keeps) (z0_stalls := z0_stalls) (z0_buyers := z0_buyers) (z0_minute := z0_minute) (z0_goods := z0_goods) (z0_price := z0_price) (z0_tongue := z0_tongue) (z0_till := z0_till) (z0_wealth := z0_wealth) (z0_sold := z0_sold) (z0_ring := z0_ring) (z0_grudges := z0_grudges) (z0_purse := z0_purse) (z0_came := z0_came) (z0_had := z0_had) (z0_seller := z0_seller) (z0_praise := z0_praise) (z0_borne := z0_borne) (z1_steps := z1_steps) (z1_size := z1_size) (z1_sumFrom := z1_sumFrom) (z1_testFrom := z1_testFrom) (z1_testTo := z1_testTo) (z1_clauses := z1_clauses) (z1_parts := z1_parts) (z1_readsTime := z1_readsTime) (z1_words := z1_words) (z1_stack := z1_stack) h7) rfl rfl (Nat.le_of_ble_eq_true rfl) kFair_staysSor (tb_in (i := 5) (j := 24) rfl rfl) (by decide) (by decide) rfl rfl rfl rfl rfl rfl rfl dX1_go_39 ?_
    refine r_if_eq 49 dX1_go_42 (by decide) (fun c8 => ?_) (fun c8 => ?_)
    · replace h := it_pos c8 h
      refine r_iconst (x := (0 : Int32)) dX1_go_49 (by decide) ?_
      refine r_istore (lv' := [(5, .int (0 : Int32)), (7, .int s0), (0, .ref (a0 0)), (1, .ref (a1 0)), (2, .int x2), (3, .int x3), (4, .int x4), (6, .int x6)]) dX1_go_50 (Nat.le_of_ble_eq_true rfl) rfl ?_
      refine r_iload 6 dX1_go_52 rfl ?_
      refine r_iload 1 dX1_go_54 rfl ?_
      refine r_iadd dX1_go_56 ?_
      obtain ⟨y9, e9, h⟩ := lt_some h
      refine r_top e9 ?_
      refine r_istore (lv' := [(4, .int y9), (5, .int (0 : Int32)), (7, .int s0), (0, .ref (a0 0)), (1, .ref (a1 0)), (2, .int x2), (3, .int x3), (6, .int x6)]) dX1_go_57 (Nat.le_of_ble_eq_true rfl) rfl ?_
      refine r_aload_n 3 dX1_go_59 rfl ?_
      obtain ⟨q10, h10, h⟩ := bd_some h
      refine b_callV (isC := [0]) (ci := 1)  (st := []) (bs1 := [bFair K a0 z0_lasts z0_keeps z0_stalls z0_buyers q10.1 z0_goods z0_price z0_tongue q10.2.1 q10.2.2 z0_sold z0_ring z0_grudges z0_purse z0_came z0_had z0_seller z0_praise z0_borne, bRule K a1 z1_steps z1_size z1_sumFrom z1_testFrom z1_testTo z1_clauses z1_parts z1_readsTime z1_words z1_stack]) (cFair_closeMinute (a0 := a0) (z0_lasts := z0_lasts) (z0_keeps := z0_keeps) (z0_stalls := z0_stalls) (z0_buyers := z0_buyers) (z0_minute := z0_minute) (z0_goods := z0_goods) (z0_price := z0_price) (z0_tongue := z0_tongue) (z0_till := z0_till) (z0_wealth := z0_wealth) (z0_sold := z0_sold) (z0_ring := z0_ring) (z0_grudges := z0_grudges) (z0_purse := z0_purse) (z0_came := z0_came) (z0_had := z0_had) (z0_seller := z0_seller) (z0_praise := z0_praise) (z0_borne := z0_borne) h10) rfl rfl (Nat.le_of_ble_eq_true rfl) kFair_closeMinute (tb_in (i := 5) (j := 27) rfl rfl) (by decide) (by decide) rfl rfl rfl rfl rfl rfl rfl dX1_go_60 ?_
      refine r_iinc (y := (x6 + (1 : Int32))) (lv' := [(6, .int (x6 + (1 : Int32))), (4, .int y9), (5, .int (0 : Int32)), (7, .int s0), (0, .ref (a0 0)), (1, .ref (a1 0)), (2, .int x2), (3, .int x3)]) 7 dX1_go_63 rfl rfl (Nat.le_of_ble_eq_true rfl) rfl ?_
      refine r_goto 9 dX1_go_66 (by decide) ?_
      refine r_sub (lv' := [(0, .ref (a0 0)), (1, .ref (a1 0)), (2, .int x2), (3, .int x3), (4, .int y9), (5, .int (0 : Int32)), (6, .int (x6 + (1 : Int32)))]) [4, 5, 6, 7, 1, 2, 0] rfl ?_
      exact hk9 y9 (0 : Int32) (x6 + (1 : Int32)) q10.1 z0_goods q10.2.1 q10.2.2 z0_sold z0_purse z0_had z1_words z1_stack h
    · replace h := it_neg c8 h
      refine r_iconst (x := (1 : Int32)) dX1_go_45 (by decide) ?_
      refine r_goto 50 dX1_go_46 (by decide) ?_
      refine r_istore (lv' := [(5, .int (1 : Int32)), (7, .int s0), (0, .ref (a0 0)), (1, .ref (a1 0)), (2, .int x2), (3, .int x3), (4, .int x4), (6, .int x6)]) dX1_go_50 (Nat.le_of_ble_eq_true rfl) rfl ?_
      refine r_iload 6 dX1_go_52 rfl ?_
      refine r_iload 1 dX1_go_54 rfl ?_
      refine r_iadd dX1_go_56 ?_
      obtain ⟨y11, e11, h⟩ := lt_some h
      refine r_top e11 ?_
      refine r_istore (lv' := [(4, .int y11), (5, .int (1 : Int32)), (7, .int s0), (0, .ref (a0 0)), (1, .ref (a1 0)), (2, .int x2), (3, .int x3), (6, .int x6)]) dX1_go_57 (Nat.le_of_ble_eq_true rfl) rfl ?_
      refine r_aload_n 3 dX1_go_59 rfl ?_
      obtain ⟨q12, h12, h⟩ := bd_some h
      refine b_callV (isC := [0]) (ci := 1)  (st := []) (bs1 := [bFair K a0 z0_lasts z0_keeps z0_stalls z0_buyers q12.1 z0_goods z0_price z0_tongue q12.2.1 q12.2.2 z0_sold z0_ring z0_grudges z0_purse z0_came z0_had z0_seller z0_praise z0_borne, bRule K a1 z1_steps z1_size z1_sumFrom z1_testFrom z1_testTo z1_clauses z1_parts z1_readsTime z1_words z1_stack]) (cFair_closeMinute (a0 := a0) (z0_lasts := z0_lasts) (z0_keeps := z0_keeps) (z0_stalls := z0_stalls) (z0_buyers := z0_buyers) (z0_minute := z0_minute) (z0_goods := z0_goods) (z0_price := z0_price) (z0_tongue := z0_tongue) (z0_till := z0_till) (z0_wealth := z0_wealth) (z0_sold := z0_sold) (z0_ring := z0_ring) (z0_grudges := z0_grudges) (z0_purse := z0_purse) (z0_came := z0_came) (z0_had := z0_had) (z0_seller := z0_seller) (z0_praise := z0_praise) (z0_borne := z0_borne) h12) rfl rfl (Nat.le_of_ble_eq_true rfl) kFair_closeMinute (tb_in (i := 5) (j := 27) rfl rfl) (by decide) (by decide) rfl rfl rfl rfl rfl rfl rfl dX1_go_60 ?_
      refine r_iinc (y := (x6 + (1 : Int32))) (lv' := [(6, .int (x6 + (1 : Int32))), (4, .int y11), (5, .int (1 : Int32)), (7, .int s0), (0, .ref (a0 0)), (1, .ref (a1 0)), (2, .int x2), (3, .int x3)]) 7 dX1_go_63 rfl rfl (Nat.le_of_ble_eq_true rfl) rfl ?_
      refine r_goto 9 dX1_go_66 (by decide) ?_
      refine r_sub (lv' := [(0, .ref (a0 0)), (1, .ref (a1 0)), (2, .int x2), (3, .int x3), (4, .int y11), (5, .int (1 : Int32)), (6, .int (x6 + (1 : Int32)))]) [4, 5, 6, 7, 1, 2, 0] rfl ?_
      exact hk9 y11 (1 : Int32) (x6 + (1 : Int32)) q12.1 z0_goods q12.2.1 q12.2.2 z0_sold z0_purse z0_had z1_words z1_stack h
def mFair_gor_l9 (z0_lasts : Int32) (z0_keeps : Int32) (z0_stalls : Int32) (z0_buyers : Int32) (z0_price : Nat → Int32) (z0_came : Nat → Int32) (z0_seller : Nat → Int32) (z0_praise : Nat → Int32) (z0_borne : Nat → Int32) (z1_steps : Nat → Int32) (z1_size : Int32) (z1_sumFrom : Nat → Int32) (z1_testFrom : Nat → Int32) (z1_testTo : Nat → Int32) (z1_clauses : Int32) (z1_readsTime : Int32) (x2 : Int32) (x3 : Int32) : Nat → Int32 → Int32 → Int32 → Int32 → (Nat → Int32) → (Nat → Int32) → (Nat → Int32) → (Nat → Int32) → (Nat → Int32) → (Nat → Int32) → (Nat → Int64) → (Nat → Int64) → Option (Int32 × Int32 × (Nat → Int32) × (Nat → Int32) × (Nat → Int32) × (Nat → Int32) × (Nat → Int32) × (Nat → Int32) × (Nat → Int64) × (Nat → Int64))
  | 0, _, _, _, _, _, _, _, _, _, _, _, _ => none
  | n + 1, x4, x5, x6, z0_minute, z0_goods, z0_till, z0_wealth, z0_sold, z0_purse, z0_had, z1_words, z1_stack => (if x2 ≤ x6 then some (x4, z0_minute, z0_goods, z0_till, z0_wealth, z0_sold, z0_purse, z0_had, z1_words, z1_stack) else (if x5 = 0 then (mFair_trader x3 z0_lasts z0_stalls z0_buyers z0_minute z0_goods z0_price z0_till z0_sold z0_purse z0_came z0_had z0_seller z0_praise z0_borne z1_steps z1_size z1_sumFrom z1_testFrom z1_testTo z1_clauses z1_words z1_stack).bind (fun q3 => mFair_gor_j30 (mFair_gor_l9 z0_lasts z0_keeps z0_stalls z0_buyers z0_price z0_came z0_seller z0_praise z0_borne z1_steps z1_size z1_sumFrom z1_testFrom z1_testTo z1_clauses z1_readsTime x2 x3 n) x2 x3 x4 x6 z0_lasts z0_keeps z0_stalls z0_buyers z0_minute q3.2.1 z0_price q3.2.2.1 z0_wealth q3.2.2.2.1 q3.2.2.2.2.1 z0_came q3.2.2.2.2.2.1 z0_seller z0_praise z0_borne z1_steps z1_size z1_sumFrom z1_testFrom z1_testTo z1_clauses z1_readsTime q3.2.2.2.2.2.2.1 q3.2.2.2.2.2.2.2 q3.1) else mFair_gor_j30 (mFair_gor_l9 z0_lasts z0_keeps z0_stalls z0_buyers z0_price z0_came z0_seller z0_praise z0_borne z1_steps z1_size z1_sumFrom z1_testFrom z1_testTo z1_clauses z1_readsTime x2 x3 n) x2 x3 x4 x6 z0_lasts z0_keeps z0_stalls z0_buyers z0_minute z0_goods z0_price z0_till z0_wealth z0_sold z0_purse z0_came z0_had z0_seller z0_praise z0_borne z1_steps z1_size z1_sumFrom z1_testFrom z1_testTo z1_clauses z1_readsTime z1_words z1_stack (0 : Int32)))
set_option maxHeartbeats 4000000 in
set_option maxRecDepth 20000 in
theorem cFair_gor_l9 {q : Int32 × Int32 × (Nat → Int32) × (Nat → Int32) × (Nat → Int32) × (Nat → Int32) × (Nat → Int32) × (Nat → Int32) × (Nat → Int64) × (Nat → Int64)} {x2 : Int32} {x3 : Int32}  : ∀ (n : Nat) (x4 : Int32) (x5 : Int32) (x6 : Int32) (z0_minute : Int32) (z0_goods : Nat → Int32) (z0_till : Nat → Int32) (z0_wealth : Nat → Int32) (z0_sold : Nat → Int32) (z0_purse : Nat → Int32) (z0_had : Nat → Int32) (z1_words : Nat → Int64) (z1_stack : Nat → Int64), mFair_gor_l9 z0_lasts z0_keeps z0_stalls z0_buyers z0_price z0_came z0_seller z0_praise z0_borne z1_steps z1_size z1_sumFrom z1_testFrom z1_testTo z1_clauses z1_readsTime x2 x3 n x4 x5 x6 z0_minute z0_goods z0_till z0_wealth z0_sold z0_purse z0_had z1_words z1_stack = some q → rW l D Z (ty7 K) MFair_gor 9 [(0, .ref (a0 0)), (1, .ref (a1 0)), (2, .int x2), (3, .int x3), (4, .int x4), (5, .int x5), (6, .int x6)] [] (List.flatten [bFair K a0 z0_lasts z0_keeps z0_stalls z0_buyers z0_minute z0_goods z0_price z0_tongue z0_till z0_wealth z0_sold z0_ring z0_grudges z0_purse z0_came z0_had z0_seller z0_praise z0_borne, bRule K a1 z1_steps z1_size z1_sumFrom z1_testFrom z1_testTo z1_clauses z1_parts z1_readsTime z1_words z1_stack]) (List.flatten [bFair K a0 z0_lasts z0_keeps z0_stalls z0_buyers q.2.1 q.2.2.1 z0_price z0_tongue q.2.2.2.1 q.2.2.2.2.1 q.2.2.2.2.2.1 z0_ring z0_grudges q.2.2.2.2.2.2.1 z0_came q.2.2.2.2.2.2.2.1 z0_seller z0_praise z0_borne, bRule K a1 z1_steps z1_size z1_sumFrom z1_testFrom z1_testTo z1_clauses z1_parts z1_readsTime q.2.2.2.2.2.2.2.2.1 q.2.2.2.2.2.2.2.2.2]) (some (.int q.1)) := by
  intro n
  induction n with
  | zero => intro x4 x5 x6 z0_minute z0_goods z0_till z0_wealth z0_sold z0_purse z0_had z1_words z1_stack h; unfold mFair_gor_l9 at h; cases h
  | succ n ih =>
    intro x4 x5 x6 z0_minute z0_goods z0_till z0_wealth z0_sold z0_purse z0_had z1_words z1_stack h
    unfold mFair_gor_l9 at h
    refine r_iload 6 dX1_go_9 rfl ?_
    refine r_iload_n 2 dX1_go_11 rfl ?_
    refine r_icmp_ge 69 dX1_go_12 (by decide) (fun c1 => ?_) (fun c1 => ?_)
    · replace h := it_pos c1 h
      refine r_iload 4 dX1_go_69 rfl ?_
      have hq := Option.some.inj h
      subst hq
      exact r_iret rfl dX1_go_71
    · replace h := it_neg c1 h
      refine r_iload 5 dX1_go_15 rfl ?_
      refine r_if_eq 24 dX1_go_17 (by decide) (fun c2 => ?_) (fun c2 => ?_)
      · replace h := it_pos c2 h
        refine r_aload_n 0 dX1_go_24 rfl ?_
        refine r_aload_n 1 dX1_go_25 rfl ?_
        refine r_iload_n 3 dX1_go_26 rfl ?_
        obtain ⟨q3, h3, h⟩ := bd_some h
        refine b_callV (isC := [0, 1]) (ci := 1)  (st := []) (bs1 := [bFair K a0 z0_lasts z0_keeps z0_stalls z0_buyers z0_minute q3.2.1 z0_price z0_tongue q3.2.2.1 z0_wealth q3.2.2.2.1 z0_ring z0_grudges q3.2.2.2.2.1 z0_came q3.2.2.2.2.2.1 z0_seller z0_praise z0_borne, bRule K a1 z1_steps z1_size z1_sumFrom z1_testFrom z1_testTo z1_clauses z1_parts z1_readsTime q3.2.2.2.2.2.2.1 q3.2.2.2.2.2.2.2]) (cFair_trader (a0 := a0) (a1 := a1) (z0_lasts := z0_lasts) (z0_keeps := z0_keeps) (z0_stalls := z0_stalls) (z0_buyers := z0_buyers) (z0_minute := z0_minute) (z0_goods := z0_goods) (z0_price := z0_price) (z0_tongue := z0_tongue) (z0_till := z0_till) (z0_wealth := z0_wealth) (z0_sold := z0_sold) (z0_ring := z0_ring) (z0_grudges := z0_grudges) (z0_purse := z0_purse) (z0_came := z0_came) (z0_had := z0_had) (z0_seller := z0_seller) (z0_praise := z0_praise) (z0_borne := z0_borne) (z1_steps := z1_steps) (z1_size := z1_size) (z1_sumFrom := z1_sumFrom) (z1_testFrom := z1_testFrom) (z1_testTo := z1_testTo) (z1_clauses := z1_clauses) (z1_parts := z1_parts) (z1_readsTime := z1_readsTime) (z1_words := z1_words) (z1_stack := z1_stack) h3) rfl rfl (Nat.le_of_ble_eq_true rfl) kFair_trader (tb_in (i := 5) (j := 21) rfl rfl) (by decide) (by decide) rfl rfl rfl rfl rfl rfl rfl dX1_go_27 ?_
        refine r_sub (lv' := [(0, .ref (a0 0)), (1, .ref (a1 0)), (2, .int x2), (3, .int x3), (4, .int x4), (6, .int x6)]) [0, 1, 2, 3, 4, 6] rfl ?_
        exact cFair_gor_j30  (ih) h
      · replace h := it_neg c2 h
        refine r_iconst (x := (0 : Int32)) dX1_go_20 (by decide) ?_
        refine r_goto 30 dX1_go_21 (by decide) ?_
        refine r_sub (lv' := [(0, .ref (a0 0)), (1, .ref (a1 0)), (2, .int x2), (3, .int x3), (4, .int x4), (6, .int x6)]) [0, 1, 2, 3, 4, 6] rfl ?_
        exact cFair_gor_j30  (ih) h
def mFair_gor (x2 : Int32) (x3 : Int32) (z0_lasts : Int32) (z0_keeps : Int32) (z0_stalls : Int32) (z0_buyers : Int32) (z0_minute : Int32) (z0_goods : Nat → Int32) (z0_price : Nat → Int32) (z0_till : Nat → Int32) (z0_wealth : Nat → Int32) (z0_sold : Nat → Int32) (z0_purse : Nat → Int32) (z0_came : Nat → Int32) (z0_had : Nat → Int32) (z0_seller : Nat → Int32) (z0_praise : Nat → Int32) (z0_borne : Nat → Int32) (z1_steps : Nat → Int32) (z1_size : Int32) (z1_sumFrom : Nat → Int32) (z1_testFrom : Nat → Int32) (z1_testTo : Nat → Int32) (z1_clauses : Int32) (z1_readsTime : Int32) (z1_words : Nat → Int64) (z1_stack : Nat → Int64) : Option (Int32 × Int32 × (Nat → Int32) × (Nat → Int32) × (Nat → Int32) × (Nat → Int32) × (Nat → Int32) × (Nat → Int32) × (Nat → Int64) × (Nat → Int64)) := mFair_gor_l9 z0_lasts z0_keeps z0_stalls z0_buyers z0_price z0_came z0_seller z0_praise z0_borne z1_steps z1_size z1_sumFrom z1_testFrom z1_testTo z1_clauses z1_readsTime x2 x3 FU (0 : Int32) (0 : Int32) (0 : Int32) z0_minute z0_goods z0_till z0_wealth z0_sold z0_purse z0_had z1_words z1_stack
set_option maxHeartbeats 4000000 in
set_option maxRecDepth 20000 in
theorem cFair_gor {q : Int32 × Int32 × (Nat → Int32) × (Nat → Int32) × (Nat → Int32) × (Nat → Int32) × (Nat → Int32) × (Nat → Int32) × (Nat → Int64) × (Nat → Int64)} {x2 : Int32} {x3 : Int32} (h : mFair_gor x2 x3 z0_lasts z0_keeps z0_stalls z0_buyers z0_minute z0_goods z0_price z0_till z0_wealth z0_sold z0_purse z0_came z0_had z0_seller z0_praise z0_borne z1_steps z1_size z1_sumFrom z1_testFrom z1_testTo z1_clauses z1_readsTime z1_words z1_stack = some q) : rMet l D Z (ty7 K) MFair_gor [.ref (a0 0), .ref (a1 0), .int x2, .int x3] (List.flatten [bFair K a0 z0_lasts z0_keeps z0_stalls z0_buyers z0_minute z0_goods z0_price z0_tongue z0_till z0_wealth z0_sold z0_ring z0_grudges z0_purse z0_came z0_had z0_seller z0_praise z0_borne, bRule K a1 z1_steps z1_size z1_sumFrom z1_testFrom z1_testTo z1_clauses z1_parts z1_readsTime z1_words z1_stack]) (List.flatten [bFair K a0 z0_lasts z0_keeps z0_stalls z0_buyers q.2.1 q.2.2.1 z0_price z0_tongue q.2.2.2.1 q.2.2.2.2.1 q.2.2.2.2.2.1 z0_ring z0_grudges q.2.2.2.2.2.2.1 z0_came q.2.2.2.2.2.2.2.1 z0_seller z0_praise z0_borne, bRule K a1 z1_steps z1_size z1_sumFrom z1_testFrom z1_testTo z1_clauses z1_parts z1_readsTime q.2.2.2.2.2.2.2.2.1 q.2.2.2.2.2.2.2.2.2]) (some (.int q.1)) := by
  refine rMet.of (by decide) rfl (Nat.le_of_ble_eq_true rfl) ?_
  refine r_sub (lv' := [(0, .ref (a0 0)), (1, .ref (a1 0)), (2, .int x2), (3, .int x3)]) [0, 1, 2, 3] rfl ?_
  unfold mFair_gor at h
  refine r_iconst (x := (0 : Int32)) dX1_go_0 (by decide) ?_
  refine r_istore (lv' := [(4, .int (0 : Int32)), (0, .ref (a0 0)), (1, .ref (a1 0)), (2, .int x2), (3, .int x3)]) dX1_go_1 (Nat.le_of_ble_eq_true rfl) rfl ?_
  refine r_iconst (x := (0 : Int32)) dX1_go_3 (by decide) ?_
  refine r_istore (lv' := [(5, .int (0 : Int32)), (4, .int (0 : Int32)), (0, .ref (a0 0)), (1, .ref (a1 0)), (2, .int x2), (3, .int x3)]) dX1_go_4 (Nat.le_of_ble_eq_true rfl) rfl ?_
  refine r_iconst (x := (0 : Int32)) dX1_go_6 (by decide) ?_
  refine r_istore (lv' := [(6, .int (0 : Int32)), (5, .int (0 : Int32)), (4, .int (0 : Int32)), (0, .ref (a0 0)), (1, .ref (a1 0)), (2, .int x2), (3, .int x3)]) dX1_go_7 (Nat.le_of_ble_eq_true rfl) rfl ?_
  refine r_sub (lv' := [(0, .ref (a0 0)), (1, .ref (a1 0)), (2, .int x2), (3, .int x3), (4, .int (0 : Int32)), (5, .int (0 : Int32)), (6, .int (0 : Int32))]) [3, 4, 5, 6, 2, 1, 0] rfl ?_
  exact cFair_gor_l9   FU (0 : Int32) (0 : Int32) (0 : Int32) z0_minute z0_goods z0_till z0_wealth z0_sold z0_purse z0_had z1_words z1_stack h
end
abbrev MFair_choicen : rx_M := (RX1, yX1_choice, cX1_choice, 9, (some .int), 2)
theorem kFair_choicen : rKv MFair_choicen 2 := ⟨tb_in (i := 5) (j := 9) rfl rfl, tb_in (i := 5) (j := 10) rfl rfl, tb_in (i := 3) (j := 26) rfl rfl, tb_in (i := 5) (j := 7) rfl rfl, ⟨by decide, by decide, by decide +kernel⟩, by decide⟩
section
variable {a0 : Nat → Nat} {z0_lasts : Int32} {z0_keeps : Int32} {z0_stalls : Int32} {z0_buyers : Int32} {z0_minute : Int32} {z0_goods : Nat → Int32} {z0_price : Nat → Int32} {z0_tongue : Nat → Int32} {z0_till : Nat → Int32} {z0_wealth : Nat → Int32} {z0_sold : Nat → Int32} {z0_ring : Nat → Int32} {z0_grudges : Nat → Int32} {z0_purse : Nat → Int32} {z0_came : Nat → Int32} {z0_had : Nat → Int32} {z0_seller : Nat → Int32} {z0_praise : Nat → Int32} {z0_borne : Nat → Int32}
def mFair_choicen_l8 (z0_stalls : Int32) (z0_goods : Nat → Int32) (z0_price : Nat → Int32) (z0_purse : Nat → Int32) (z0_came : Nat → Int32) (z0_praise : Nat → Int32) (x2 : Int32) : Nat → Int32 → Int64 → Int32 → Option (Int32)
  | 0, _, _, _ => none
  | n + 1, x3, x4, x6 => (if z0_stalls ≤ x6 then some (x3) else (mFair_can x2 x6 z0_goods z0_price z0_purse).bind (fun q2 => (if q2 = 0 then mFair_choicen_l8 z0_stalls z0_goods z0_price z0_purse z0_came z0_praise x2 n x3 x4 (x6 + (1 : Int32)) else rq (inb x6 6) (rq (inb x2 6) ((if (z0_came x2.toNatClampNeg) = x6 then lt ((((1 : Int32) + (z0_praise x6.toNatClampNeg)) + (3 : Int32)).toInt64) (fun y9 => (if (lg_cmp y9 x4) ≤ 0 then mFair_choicen_l8 z0_stalls z0_goods z0_price z0_purse z0_came z0_praise x2 n x3 x4 (x6 + (1 : Int32)) else mFair_choicen_l8 z0_stalls z0_goods z0_price z0_purse z0_came z0_praise x2 n x6 y9 (x6 + (1 : Int32)))) else lt ((((1 : Int32) + (z0_praise x6.toNatClampNeg)) + (0 : Int32)).toInt64) (fun y7 => (if (lg_cmp y7 x4) ≤ 0 then mFair_choicen_l8 z0_stalls z0_goods z0_price z0_purse z0_came z0_praise x2 n x3 x4 (x6 + (1 : Int32)) else mFair_choicen_l8 z0_stalls z0_goods z0_price z0_purse z0_came z0_praise x2 n x6 y7 (x6 + (1 : Int32))))))))))
set_option maxHeartbeats 4000000 in
set_option maxRecDepth 20000 in
theorem cFair_choicen_l8 {q : Int32} {x2 : Int32}  : ∀ (n : Nat) (x3 : Int32) (x4 : Int64) (x6 : Int32), mFair_choicen_l8 z0_stalls z0_goods z0_price z0_purse z0_came z0_praise x2 n x3 x4 x6 = some q → rW l D Z (ty7 K) MFair_choicen 8 [(0, .ref (a0 0)), (1, .null), (2, .int x2), (3, .int x3), (4, .long x4), (6, .int x6)] [] (List.flatten [bFair K a0 z0_lasts z0_keeps z0_stalls z0_buyers z0_minute z0_goods z0_price z0_tongue z0_till z0_wealth z0_sold z0_ring z0_grudges z0_purse z0_came z0_had z0_seller z0_praise z0_borne]) (List.flatten [bFair K a0 z0_lasts z0_keeps z0_stalls z0_buyers z0_minute z0_goods z0_price z0_tongue z0_till z0_wealth z0_sold z0_ring z0_grudges z0_purse z0_came z0_had z0_seller z0_praise z0_borne]) (some (.int q)) := by
  intro n
  induction n with
  | zero => intro x3 x4 x6 h; unfold mFair_choicen_l8 at h; cases h
  | succ n ih =>
    intro x3 x4 x6 h
    unfold mFair_choicen_l8 at h
    refine r_iload 5 dX1_choice_8 rfl ?_
    refine r_aload_n 0 dX1_choice_10 rfl ?_
    refine gFair_stalls 0 rfl (tb_in (i := 2) (j := 31) rfl rfl) dX1_choice_11 ?_
    refine r_icmp_ge 95 dX1_choice_14 (by decide) (fun c1 => ?_) (fun c1 => ?_)
    · replace h := it_pos c1 h
      refine r_iload_n 3 dX1_choice_95 rfl ?_
      have hq := Option.some.inj h
      subst hq
      exact r_iret rfl dX1_choice_96
    · replace h := it_neg c1 h
      refine r_aload_n 0 dX1_choice_17 rfl ?_
      refine r_iload_n 2 dX1_choice_18 rfl ?_
      refine r_iload 5 dX1_choice_19 rfl ?_
      obtain ⟨q2, h2, h⟩ := bd_some h
      refine b_callV (isC := [0]) (ci := 1)  (st := []) (bs1 := [bFair K a0 z0_lasts z0_keeps z0_stalls z0_buyers z0_minute z0_goods z0_price z0_tongue z0_till z0_wealth z0_sold z0_ring z0_grudges z0_purse z0_came z0_had z0_seller z0_praise z0_borne]) (cFair_can (a0 := a0) (z0_lasts := z0_lasts) (z0_keeps := z0_keeps) (z0_stalls := z0_stalls) (z0_buyers := z0_buyers) (z0_minute := z0_minute) (z0_goods := z0_goods) (z0_price := z0_price) (z0_tongue := z0_tongue) (z0_till := z0_till) (z0_wealth := z0_wealth) (z0_sold := z0_sold) (z0_ring := z0_ring) (z0_grudges := z0_grudges) (z0_purse := z0_purse) (z0_came := z0_came) (z0_had := z0_had) (z0_seller := z0_seller) (z0_praise := z0_praise) (z0_borne := z0_borne) h2) rfl rfl (Nat.le_of_ble_eq_true rfl) kFair_can (tb_in (i := 4) (j := 15) rfl rfl) (by decide) (by decide) rfl rfl rfl rfl rfl rfl rfl dX1_choice_21 ?_
      refine r_if_ne 30 dX1_choice_24 (by decide) (fun c3 => ?_) (fun c3 => ?_)
      · replace h := it_neg c3 h
        refine r_aload_nN 1 dX1_choice_30 rfl ?_
        refine r_ifnull_nil 45 dX1_choice_31 (by decide) ?_
        refine r_iconst (x := (1 : Int32)) dX1_choice_45 (by decide) ?_
        refine r_aload_n 0 dX1_choice_46 rfl ?_
        refine gFair_praise 0 rfl (tb_in (i := 3) (j := 15) rfl rfl) dX1_choice_47 ?_
        refine r_iload 5 dX1_choice_50 rfl ?_
        obtain ⟨h4, h⟩ := rq_some h
        refine lFair_praise 0 rfl (inb_in h4) dX1_choice_52 ?_
        refine r_iadd dX1_choice_53 ?_
        refine r_aload_n 0 dX1_choice_54 rfl ?_
        refine gFair_came 0 rfl (tb_in (i := 3) (j := 12) rfl rfl) dX1_choice_55 ?_
        refine r_iload_n 2 dX1_choice_58 rfl ?_
        obtain ⟨h5, h⟩ := rq_some h
        refine lFair_came 0 rfl (inb_in h5) dX1_choice_59 ?_
        refine r_iload 5 dX1_choice_60 rfl ?_
        refine r_icmp_ne 69 dX1_choice_62 (by decide) (fun c6 => ?_) (fun c6 => ?_)
        · replace h := it_neg c6 h
          refine r_iconst (x := (0 : Int32)) dX1_choice_69 (by decide) ?_
          refine r_iadd dX1_choice_70 ?_
          refine r_i2l dX1_choice_71 ?_
          obtain ⟨y7, e7, h⟩ := lt_some h
          refine r_topl e7 ?_
          refine r_lstore (lv' := [(7, .long y7), (0, .ref (a0 0)), (1, .null), (2, .int x2), (3, .int x3), (4, .long x4), (6, .int x6)]) dX1_choice_72 (Nat.le_of_ble_eq_true rfl) rfl ?_
          refine r_lload 0 dX1_choice_74 rfl ?_
          refine r_lload 5 dX1_choice_76 rfl ?_
          refine r_lcmp dX1_choice_78 ?_
          refine r_if_le 89 dX1_choice_79 (by decide) (fun c8 => ?_) (fun c8 => ?_)
          · replace h := it_pos c8 h
            refine r_iinc (y := (x6 + (1 : Int32))) (lv' := [(6, .int (x6 + (1 : Int32))), (7, .long y7), (0, .ref (a0 0)), (1, .null), (2, .int x2), (3, .int x3), (4, .long x4)]) 6 dX1_choice_89 rfl rfl (Nat.le_of_ble_eq_true rfl) rfl ?_
            refine r_goto 8 dX1_choice_92 (by decide) ?_
            refine r_sub (lv' := [(0, .ref (a0 0)), (1, .null), (2, .int x2), (3, .int x3), (4, .long x4), (6, .int (x6 + (1 : Int32)))]) [2, 3, 4, 5, 6, 0] rfl ?_
            exact ih x3 x4 (x6 + (1 : Int32)) h
          · replace h := it_neg c8 h
            refine r_lload 0 dX1_choice_82 rfl ?_
            refine r_lstore (lv' := [(4, .long y7), (7, .long y7), (0, .ref (a0 0)), (1, .null), (2, .int x2), (3, .int x3), (6, .int x6)]) dX1_choice_84 (Nat.le_of_ble_eq_true rfl) rfl ?_
            refine r_iload 6 dX1_choice_86 rfl ?_
            refine r_istore_n (lv' := [(3, .int x6), (4, .long y7), (7, .long y7), (0, .ref (a0 0)), (1, .null), (2, .int x2), (6, .int x6)]) dX1_choice_88 (Nat.le_of_ble_eq_true rfl) rfl ?_
            refine r_iinc (y := (x6 + (1 : Int32))) (lv' := [(6, .int (x6 + (1 : Int32))), (3, .int x6), (4, .long y7), (7, .long y7), (0, .ref (a0 0)), (1, .null), (2, .int x2)]) 6 dX1_choice_89 rfl rfl (Nat.le_of_ble_eq_true rfl) rfl ?_
            refine r_goto 8 dX1_choice_92 (by decide) ?_
            refine r_sub (lv' := [(0, .ref (a0 0)), (1, .null), (2, .int x2), (3, .int x6), (4, .long y7), (6, .int (x6 + (1 : Int32)))]) [4, 5, 6, 1, 2, 0] rfl ?_
            exact ih x6 y7 (x6 + (1 : Int32)) h
        · replace h := it_pos c6 h
          refine r_iconst (x := (3 : Int32)) dX1_choice_65 (by decide) ?_
          refine r_goto 70 dX1_choice_66 (by decide) ?_
          refine r_iadd dX1_choice_70 ?_
          refine r_i2l dX1_choice_71 ?_
          obtain ⟨y9, e9, h⟩ := lt_some h
          refine r_topl e9 ?_
          refine r_lstore (lv' := [(7, .long y9), (0, .ref (a0 0)), (1, .null), (2, .int x2), (3, .int x3), (4, .long x4), (6, .int x6)]) dX1_choice_72 (Nat.le_of_ble_eq_true rfl) rfl ?_
          refine r_lload 0 dX1_choice_74 rfl ?_
          refine r_lload 5 dX1_choice_76 rfl ?_
          refine r_lcmp dX1_choice_78 ?_
          refine r_if_le 89 dX1_choice_79 (by decide) (fun c10 => ?_) (fun c10 => ?_)
          · replace h := it_pos c10 h
            refine r_iinc (y := (x6 + (1 : Int32))) (lv' := [(6, .int (x6 + (1 : Int32))), (7, .long y9), (0, .ref (a0 0)), (1, .null), (2, .int x2), (3, .int x3), (4, .long x4)]) 6 dX1_choice_89 rfl rfl (Nat.le_of_ble_eq_true rfl) rfl ?_
            refine r_goto 8 dX1_choice_92 (by decide) ?_
            refine r_sub (lv' := [(0, .ref (a0 0)), (1, .null), (2, .int x2), (3, .int x3), (4, .long x4), (6, .int (x6 + (1 : Int32)))]) [2, 3, 4, 5, 6, 0] rfl ?_
            exact ih x3 x4 (x6 + (1 : Int32)) h
          · replace h := it_neg c10 h
            refine r_lload 0 dX1_choice_82 rfl ?_
            refine r_lstore (lv' := [(4, .long y9), (7, .long y9), (0, .ref (a0 0)), (1, .null), (2, .int x2), (3, .int x3), (6, .int x6)]) dX1_choice_84 (Nat.le_of_ble_eq_true rfl) rfl ?_
            refine r_iload 6 dX1_choice_86 rfl ?_
            refine r_istore_n (lv' := [(3, .int x6), (4, .long y9), (7, .long y9), (0, .ref (a0 0)), (1, .null), (2, .int x2), (6, .int x6)]) dX1_choice_88 (Nat.le_of_ble_eq_true rfl) rfl ?_
            refine r_iinc (y := (x6 + (1 : Int32))) (lv' := [(6, .int (x6 + (1 : Int32))), (3, .int x6), (4, .long y9), (7, .long y9), (0, .ref (a0 0)), (1, .null), (2, .int x2)]) 6 dX1_choice_89 rfl rfl (Nat.le_of_ble_eq_true rfl) rfl ?_
            refine r_goto 8 dX1_choice_92 (by decide) ?_
            refine r_sub (lv' := [(0, .ref (a0 0)), (1, .null), (2, .int x2), (3, .int x6), (4, .long y9), (6, .int (x6 + (1 : Int32)))]) [4, 5, 6, 1, 2, 0] rfl ?_
            exact ih x6 y9 (x6 + (1 : Int32)) h
      · replace h := it_pos c3 h
        refine r_goto 89 dX1_choice_27 (by decide) ?_
        refine r_iinc (y := (x6 + (1 : Int32))) (lv' := [(6, .int (x6 + (1 : Int32))), (0, .ref (a0 0)), (1, .null), (2, .int x2), (3, .int x3), (4, .long x4)]) 5 dX1_choice_89 rfl rfl (Nat.le_of_ble_eq_true rfl) rfl ?_
        refine r_goto 8 dX1_choice_92 (by decide) ?_
        refine r_sub (lv' := [(0, .ref (a0 0)), (1, .null), (2, .int x2), (3, .int x3), (4, .long x4), (6, .int (x6 + (1 : Int32)))]) [1, 2, 3, 4, 5, 0] rfl ?_
        exact ih x3 x4 (x6 + (1 : Int32)) h
def mFair_choicen (x2 : Int32) (z0_stalls : Int32) (z0_goods : Nat → Int32) (z0_price : Nat → Int32) (z0_purse : Nat → Int32) (z0_came : Nat → Int32) (z0_praise : Nat → Int32) : Option (Int32) := mFair_choicen_l8 z0_stalls z0_goods z0_price z0_purse z0_came z0_praise x2 FU (-1 : Int32) (0 : Int64) (0 : Int32)
set_option maxHeartbeats 4000000 in
set_option maxRecDepth 20000 in
theorem cFair_choicen {q : Int32} {x2 : Int32} (h : mFair_choicen x2 z0_stalls z0_goods z0_price z0_purse z0_came z0_praise = some q) : rMet l D Z (ty7 K) MFair_choicen [.ref (a0 0), .null, .int x2] (List.flatten [bFair K a0 z0_lasts z0_keeps z0_stalls z0_buyers z0_minute z0_goods z0_price z0_tongue z0_till z0_wealth z0_sold z0_ring z0_grudges z0_purse z0_came z0_had z0_seller z0_praise z0_borne]) (List.flatten [bFair K a0 z0_lasts z0_keeps z0_stalls z0_buyers z0_minute z0_goods z0_price z0_tongue z0_till z0_wealth z0_sold z0_ring z0_grudges z0_purse z0_came z0_had z0_seller z0_praise z0_borne]) (some (.int q)) := by
  refine rMet.of (by decide) rfl (Nat.le_of_ble_eq_true rfl) ?_
  refine r_sub (lv' := [(0, .ref (a0 0)), (1, .null), (2, .int x2)]) [0, 1, 2] rfl ?_
  unfold mFair_choicen at h
  refine r_iconst (x := (-1 : Int32)) dX1_choice_0 (by decide) ?_
  refine r_istore_n (lv' := [(3, .int (-1 : Int32)), (0, .ref (a0 0)), (1, .null), (2, .int x2)]) dX1_choice_1 (Nat.le_of_ble_eq_true rfl) rfl ?_
  refine r_lconst (x := (0 : Int64)) dX1_choice_2 (by decide) ?_
  refine r_lstore (lv' := [(4, .long (0 : Int64)), (3, .int (-1 : Int32)), (0, .ref (a0 0)), (1, .null), (2, .int x2)]) dX1_choice_3 (Nat.le_of_ble_eq_true rfl) rfl ?_
  refine r_iconst (x := (0 : Int32)) dX1_choice_5 (by decide) ?_
  refine r_istore (lv' := [(6, .int (0 : Int32)), (4, .long (0 : Int64)), (3, .int (-1 : Int32)), (0, .ref (a0 0)), (1, .null), (2, .int x2)]) dX1_choice_6 (Nat.le_of_ble_eq_true rfl) rfl ?_
  refine r_sub (lv' := [(0, .ref (a0 0)), (1, .null), (2, .int x2), (3, .int (-1 : Int32)), (4, .long (0 : Int64)), (6, .int (0 : Int32))]) [3, 4, 5, 2, 1, 0] rfl ?_
  exact cFair_choicen_l8   FU (-1 : Int32) (0 : Int64) (0 : Int32) h
end
abbrev MFair_traden : rx_M := (RX1, yX1_trade, cX1_trade, 6, (some .int), 3)
theorem kFair_traden : rKv MFair_traden 2 := ⟨tb_in (i := 5) (j := 22) rfl rfl, tb_in (i := 5) (j := 23) rfl rfl, tb_in (i := 3) (j := 26) rfl rfl, tb_in (i := 5) (j := 11) rfl rfl, ⟨by decide, by decide, by decide +kernel⟩, by decide⟩
section
variable {a0 : Nat → Nat} {z0_lasts : Int32} {z0_keeps : Int32} {z0_stalls : Int32} {z0_buyers : Int32} {z0_minute : Int32} {z0_goods : Nat → Int32} {z0_price : Nat → Int32} {z0_tongue : Nat → Int32} {z0_till : Nat → Int32} {z0_wealth : Nat → Int32} {z0_sold : Nat → Int32} {z0_ring : Nat → Int32} {z0_grudges : Nat → Int32} {z0_purse : Nat → Int32} {z0_came : Nat → Int32} {z0_had : Nat → Int32} {z0_seller : Nat → Int32} {z0_praise : Nat → Int32} {z0_borne : Nat → Int32}
def mFair_traden_j31 (k5 : Int32 → Int32 → (Nat → Int32) → (Nat → Int32) → (Nat → Int32) → (Nat → Int32) → (Nat → Int32) → Option (Int32 × (Nat → Int32) × (Nat → Int32) × (Nat → Int32) × (Nat → Int32) × (Nat → Int32))) (x2 : Int32) (x3 : Int32) (x4 : Int32) (z0_stalls : Int32) (z0_buyers : Int32) (z0_goods : Nat → Int32) (z0_price : Nat → Int32) (z0_till : Nat → Int32) (z0_sold : Nat → Int32) (z0_purse : Nat → Int32) (z0_came : Nat → Int32) (z0_had : Nat → Int32) (z0_seller : Nat → Int32) (z0_praise : Nat → Int32) (s0 : Int32) : Option (Int32 × (Nat → Int32) × (Nat → Int32) × (Nat → Int32) × (Nat → Int32) × (Nat → Int32)) := (if s0 = (-1 : Int32) then k5 x3 (x4 + (1 : Int32)) z0_goods z0_till z0_sold z0_purse z0_had else rq (inb s0 6) (rq (inb s0 6) (lt (upd z0_goods s0.toNatClampNeg ((z0_goods s0.toNatClampNeg) - (1 : Int32))) (fun u6 => rq (inb s0 6) (rq (inb s0 6) (lt (upd z0_sold s0.toNatClampNeg ((z0_sold s0.toNatClampNeg) + (1 : Int32))) (fun u8 => lt ((x4 * (6 : Int32)) + s0) (fun y9 => rq (inb y9 36) (rq (inb y9 36) (lt (upd z0_had y9.toNatClampNeg ((z0_had y9.toNatClampNeg) + (1 : Int32))) (fun u11 => rq (inb x4 6) (rq (inb s0 6) (rq (inb x4 6) (lt (upd z0_purse x4.toNatClampNeg ((z0_purse x4.toNatClampNeg) - (z0_price s0.toNatClampNeg))) (fun u14 => rq (inb s0 6) (lt (z0_seller s0.toNatClampNeg) (fun y16 => rq (inb y16 6) (rq (inb s0 6) (rq (inb y16 6) (lt (upd z0_till y16.toNatClampNeg ((z0_till y16.toNatClampNeg) + (z0_price s0.toNatClampNeg))) (fun u19 => rq (inb s0 6) (lt (x3 + (z0_price s0.toNatClampNeg)) (fun y21 => k5 y21 (x4 + (1 : Int32)) u6 u19 u8 u14 u11)))))))))))))))))))))))
set_option maxHeartbeats 4000000 in
set_option maxRecDepth 20000 in
theorem cFair_traden_j31 {q : Int32 × (Nat → Int32) × (Nat → Int32) × (Nat → Int32) × (Nat → Int32) × (Nat → Int32)} {x2 : Int32} {x3 : Int32} {x4 : Int32} {s0 : Int32} {k5 : Int32 → Int32 → (Nat → Int32) → (Nat → Int32) → (Nat → Int32) → (Nat → Int32) → (Nat → Int32) → Option (Int32 × (Nat → Int32) × (Nat → Int32) × (Nat → Int32) × (Nat → Int32) × (Nat → Int32))} (hk5 : ∀ (x3 : Int32) (x4 : Int32) (z0_goods : Nat → Int32) (z0_till : Nat → Int32) (z0_sold : Nat → Int32) (z0_purse : Nat → Int32) (z0_had : Nat → Int32), k5 x3 x4 z0_goods z0_till z0_sold z0_purse z0_had = some q → rW l D Z (ty7 K) MFair_traden 5 [(0, .ref (a0 0)), (1, .null), (2, .int x2), (3, .int x3), (4, .int x4)] [] (List.flatten [bFair K a0 z0_lasts z0_keeps z0_stalls z0_buyers z0_minute z0_goods z0_price z0_tongue z0_till z0_wealth z0_sold z0_ring z0_grudges z0_purse z0_came z0_had z0_seller z0_praise z0_borne]) (List.flatten [bFair K a0 z0_lasts z0_keeps z0_stalls z0_buyers z0_minute q.2.1 z0_price z0_tongue q.2.2.1 z0_wealth q.2.2.2.1 z0_ring z0_grudges q.2.2.2.2.1 z0_came q.2.2.2.2.2 z0_seller z0_praise z0_borne]) (some (.int q.1))) (h : mFair_traden_j31 k5 x2 x3 x4 z0_stalls z0_buyers z0_goods z0_price z0_till z0_sold z0_purse z0_came z0_had z0_seller z0_praise s0 = some q) : rW l D Z (ty7 K) MFair_traden 31 [(0, .ref (a0 0)), (1, .null), (2, .int x2), (3, .int x3), (4, .int x4)] [.int s0] (List.flatten [bFair K a0 z0_lasts z0_keeps z0_stalls z0_buyers z0_minute z0_goods z0_price z0_tongue z0_till z0_wealth z0_sold z0_ring z0_grudges z0_purse z0_came z0_had z0_seller z0_praise z0_borne]) (List.flatten [bFair K a0 z0_lasts z0_keeps z0_stalls z0_buyers z0_minute q.2.1 z0_price z0_tongue q.2.2.1 z0_wealth q.2.2.2.1 z0_ring z0_grudges q.2.2.2.2.1 z0_came q.2.2.2.2.2 z0_seller z0_praise z0_borne]) (some (.int q.1)) := by
  unfold mFair_traden_j31 at h
  refine r_istore (lv' := [(5, .int s0), (0, .ref (a0 0)), (1, .null), (2, .int x2), (3, .int x3), (4, .int x4)]) dX1_trade_31 (Nat.le_of_ble_eq_true rfl) rfl ?_
  refine r_iload 0 dX1_trade_33 rfl ?_
  refine r_iconst (x := (-1 : Int32)) dX1_trade_35 (by decide) ?_
  refine r_icmp_ne 42 dX1_trade_36 (by decide) (fun c4 => ?_) (fun c4 => ?_)
  · replace h := it_neg c4 h
    refine r_aload_n 1 dX1_trade_42 rfl ?_
    refine gFair_goods 0 rfl (tb_in (i := 3) (j := 3) rfl rfl) dX1_trade_43 ?_
    refine r_iload 0 dX1_trade_46 rfl ?_
    refine r_dup2 dX1_trade_48 rfl rfl ?_
    obtain ⟨h5, h⟩ := rq_some h
    refine lFair_goods 0 rfl (inb_in h5) dX1_trade_49 ?_
    refine r_iconst (x := (1 : Int32)) dX1_trade_50 (by decide) ?_
    refine r_isub dX1_trade_51 ?_
    obtain ⟨h6, h⟩ := rq_some h
    obtain ⟨u6, e6, h⟩ := lt_some h
    refine sFair_goods (bs1 := [bFair K a0 z0_lasts z0_keeps z0_stalls z0_buyers z0_minute u6 z0_price z0_tongue z0_till z0_wealth z0_sold z0_ring z0_grudges z0_purse z0_came z0_had z0_seller z0_praise z0_borne]) 0 e6 rfl (inb_in h6) rfl dX1_trade_52 ?_
    refine r_aload_n 1 dX1_trade_53 rfl ?_
    refine gFair_sold 0 rfl (tb_in (i := 3) (j := 8) rfl rfl) dX1_trade_54 ?_
    refine r_iload 0 dX1_trade_57 rfl ?_
    refine r_dup2 dX1_trade_59 rfl rfl ?_
    obtain ⟨h7, h⟩ := rq_some h
    refine lFair_sold 0 rfl (inb_in h7) dX1_trade_60 ?_
    refine r_iconst (x := (1 : Int32)) dX1_trade_61 (by decide) ?_
    refine r_iadd dX1_trade_62 ?_
    obtain ⟨h8, h⟩ := rq_some h
    obtain ⟨u8, e8, h⟩ := lt_some h
    refine sFair_sold (bs1 := [bFair K a0 z0_lasts z0_keeps z0_stalls z0_buyers z0_minute u6 z0_price z0_tongue z0_till z0_wealth u8 z0_ring z0_grudges z0_purse z0_came z0_had z0_seller z0_praise z0_borne]) 0 e8 rfl (inb_in h8) rfl dX1_trade_63 ?_
    refine r_aload_n 1 dX1_trade_64 rfl ?_
    refine gFair_had 0 rfl (tb_in (i := 3) (j := 13) rfl rfl) dX1_trade_65 ?_
    refine r_iload 5 dX1_trade_68 rfl ?_
    refine r_bipush (x := (6 : Int32)) dX1_trade_70 (by decide) ?_
    refine r_imul dX1_trade_72 ?_
    refine r_iload 0 dX1_trade_73 rfl ?_
    refine r_iadd dX1_trade_75 ?_
    obtain ⟨y9, e9, h⟩ := lt_some h
    refine r_top e9 ?_
    refine r_dup2 dX1_trade_76 rfl rfl ?_
    obtain ⟨h10, h⟩ := rq_some h
    refine lFair_had 0 rfl (inb_in h10) dX1_trade_77 ?_
    refine r_iconst (x := (1 : Int32)) dX1_trade_78 (by decide) ?_
    refine r_iadd dX1_trade_79 ?_
    obtain ⟨h11, h⟩ := rq_some h
    obtain ⟨u11, e11, h⟩ := lt_some h
    refine sFair_had (bs1 := [bFair K a0 z0_lasts z0_keeps z0_stalls z0_buyers z0_minute u6 z0_price z0_tongue z0_till z0_wealth u8 z0_ring z0_grudges z0_purse z0_came u11 z0_seller z0_praise z0_borne]) 0 e11 rfl (inb_in h11) rfl dX1_trade_80 ?_
    refine r_aload_n 1 dX1_trade_81 rfl ?_
    refine gFair_purse 0 rfl (tb_in (i := 3) (j := 11) rfl rfl) dX1_trade_82 ?_
    refine r_iload 5 dX1_trade_85 rfl ?_
    refine r_dup2 dX1_trade_87 rfl rfl ?_
    obtain ⟨h12, h⟩ := rq_some h
    refine lFair_purse 0 rfl (inb_in h12) dX1_trade_88 ?_
    refine r_aload_n 1 dX1_trade_89 rfl ?_
    refine gFair_price 0 rfl (tb_in (i := 3) (j := 4) rfl rfl) dX1_trade_90 ?_
    refine r_iload 0 dX1_trade_93 rfl ?_
    obtain ⟨h13, h⟩ := rq_some h
    refine lFair_price 0 rfl (inb_in h13) dX1_trade_95 ?_
    refine r_isub dX1_trade_96 ?_
    obtain ⟨h14, h⟩ := rq_some h
    obtain ⟨u14, e14, h⟩ := lt_some h
    refine sFair_purse (bs1 := [bFair K a0 z0_lasts z0_keeps z0_stalls z0_buyers z0_minute u6 z0_price z0_tongue z0_till z0_wealth u8 z0_ring z0_grudges u14 z0_came u11 z0_seller z0_praise z0_borne]) 0 e14 rfl (inb_in h14) rfl dX1_trade_97 ?_
    refine r_aload_n 1 dX1_trade_98 rfl ?_
    refine gFair_till 0 rfl (tb_in (i := 3) (j := 6) rfl rfl) dX1_trade_99 ?_
    refine r_aload_n 1 dX1_trade_102 rfl ?_
    refine gFair_seller 0 rfl (tb_in (i := 3) (j := 14) rfl rfl) dX1_trade_103 ?_
    refine r_iload 0 dX1_trade_106 rfl ?_
    obtain ⟨h15, h⟩ := rq_some h
    refine lFair_seller 0 rfl (inb_in h15) dX1_trade_108 ?_
    obtain ⟨y16, e16, h⟩ := lt_some h
    refine r_top e16 ?_
    refine r_dup2 dX1_trade_109 rfl rfl ?_
    obtain ⟨h17, h⟩ := rq_some h
    refine lFair_till 0 rfl (inb_in h17) dX1_trade_110 ?_
    refine r_aload_n 1 dX1_trade_111 rfl ?_
    refine gFair_price 0 rfl (tb_in (i := 3) (j := 4) rfl rfl) dX1_trade_112 ?_
    refine r_iload 0 dX1_trade_115 rfl ?_
    obtain ⟨h18, h⟩ := rq_some h
    refine lFair_price 0 rfl (inb_in h18) dX1_trade_117 ?_
    refine r_iadd dX1_trade_118 ?_
    obtain ⟨h19, h⟩ := rq_some h
    obtain ⟨u19, e19, h⟩ := lt_some h
    refine sFair_till (bs1 := [bFair K a0 z0_lasts z0_keeps z0_stalls z0_buyers z0_minute u6 z0_price z0_tongue u19 z0_wealth u8 z0_ring z0_grudges u14 z0_came u11 z0_seller z0_praise z0_borne]) 0 e19 rfl (inb_in h19) rfl dX1_trade_119 ?_
    refine r_iload_n 4 dX1_trade_120 rfl ?_
    refine r_aload_n 1 dX1_trade_121 rfl ?_
    refine gFair_price 0 rfl (tb_in (i := 3) (j := 4) rfl rfl) dX1_trade_122 ?_
    refine r_iload 0 dX1_trade_125 rfl ?_
    obtain ⟨h20, h⟩ := rq_some h
    refine lFair_price 0 rfl (inb_in h20) dX1_trade_127 ?_
    refine r_iadd dX1_trade_128 ?_
    obtain ⟨y21, e21, h⟩ := lt_some h
    refine r_top e21 ?_
    refine r_istore_n (lv' := [(3, .int y21), (5, .int s0), (0, .ref (a0 0)), (1, .null), (2, .int x2), (4, .int x4)]) dX1_trade_129 (Nat.le_of_ble_eq_true rfl) rfl ?_
    refine r_iinc (y := (x4 + (1 : Int32))) (lv' := [(4, .int (x4 + (1 : Int32))), (3, .int y21), (5, .int s0), (0, .ref (a0 0)), (1, .null), (2, .int x2)]) 5 dX1_trade_130 rfl rfl (Nat.le_of_ble_eq_true rfl) rfl ?_
    refine r_goto 5 dX1_trade_133 (by decide) ?_
    refine r_sub (lv' := [(0, .ref (a0 0)), (1, .null), (2, .int x2), (3, .int y21), (4, .int (x4 + (1 : Int32)))]) [3, 4, 5, 1, 0] rfl ?_
    exact hk5 y21 (x4 + (1 : Int32)) u6 u19 u8 u14 u11 h
  · replace h := it_pos c4 h
    refine r_goto 130 dX1_trade_39 (by decide) ?_
    refine r_iinc (y := (x4 + (1 : Int32))) (lv' := [(4, .int (x4 + (1 : Int32))), (5, .int s0), (0, .ref (a0 0)), (1, .null), (2, .int x2), (3, .int x3)]) 5 dX1_trade_130 rfl rfl (Nat.le_of_ble_eq_true rfl) rfl ?_
    refine r_goto 5 dX1_trade_133 (by decide) ?_
    refine r_sub (lv' := [(0, .ref (a0 0)), (1, .null), (2, .int x2), (3, .int x3), (4, .int (x4 + (1 : Int32)))]) [2, 3, 4, 5, 0] rfl ?_
    exact hk5 x3 (x4 + (1 : Int32)) z0_goods z0_till z0_sold z0_purse z0_had h
def mFair_traden_l5 (z0_stalls : Int32) (z0_buyers : Int32) (z0_price : Nat → Int32) (z0_came : Nat → Int32) (z0_seller : Nat → Int32) (z0_praise : Nat → Int32) (x2 : Int32) : Nat → Int32 → Int32 → (Nat → Int32) → (Nat → Int32) → (Nat → Int32) → (Nat → Int32) → (Nat → Int32) → Option (Int32 × (Nat → Int32) × (Nat → Int32) × (Nat → Int32) × (Nat → Int32) × (Nat → Int32))
  | 0, _, _, _, _, _, _, _ => none
  | n + 1, x3, x4, z0_goods, z0_till, z0_sold, z0_purse, z0_had => (if z0_buyers ≤ x4 then some (x3, z0_goods, z0_till, z0_sold, z0_purse, z0_had) else (if x4 = x2 then mFair_traden_j31 (mFair_traden_l5 z0_stalls z0_buyers z0_price z0_came z0_seller z0_praise x2 n) x2 x3 x4 z0_stalls z0_buyers z0_goods z0_price z0_till z0_sold z0_purse z0_came z0_had z0_seller z0_praise (-1 : Int32) else (mFair_choicen x4 z0_stalls z0_goods z0_price z0_purse z0_came z0_praise).bind (fun q3 => mFair_traden_j31 (mFair_traden_l5 z0_stalls z0_buyers z0_price z0_came z0_seller z0_praise x2 n) x2 x3 x4 z0_stalls z0_buyers z0_goods z0_price z0_till z0_sold z0_purse z0_came z0_had z0_seller z0_praise q3)))
set_option maxHeartbeats 4000000 in
set_option maxRecDepth 20000 in
theorem cFair_traden_l5 {q : Int32 × (Nat → Int32) × (Nat → Int32) × (Nat → Int32) × (Nat → Int32) × (Nat → Int32)} {x2 : Int32}  : ∀ (n : Nat) (x3 : Int32) (x4 : Int32) (z0_goods : Nat → Int32) (z0_till : Nat → Int32) (z0_sold : Nat → Int32) (z0_purse : Nat → Int32) (z0_had : Nat → Int32), mFair_traden_l5 z0_stalls z0_buyers z0_price z0_came z0_seller z0_praise x2 n x3 x4 z0_goods z0_till z0_sold z0_purse z0_had = some q → rW l D Z (ty7 K) MFair_traden 5 [(0, .ref (a0 0)), (1, .null), (2, .int x2), (3, .int x3), (4, .int x4)] [] (List.flatten [bFair K a0 z0_lasts z0_keeps z0_stalls z0_buyers z0_minute z0_goods z0_price z0_tongue z0_till z0_wealth z0_sold z0_ring z0_grudges z0_purse z0_came z0_had z0_seller z0_praise z0_borne]) (List.flatten [bFair K a0 z0_lasts z0_keeps z0_stalls z0_buyers z0_minute q.2.1 z0_price z0_tongue q.2.2.1 z0_wealth q.2.2.2.1 z0_ring z0_grudges q.2.2.2.2.1 z0_came q.2.2.2.2.2 z0_seller z0_praise z0_borne]) (some (.int q.1)) := by
  intro n
  induction n with
  | zero => intro x3 x4 z0_goods z0_till z0_sold z0_purse z0_had h; unfold mFair_traden_l5 at h; cases h
  | succ n ih =>
    intro x3 x4 z0_goods z0_till z0_sold z0_purse z0_had h
    unfold mFair_traden_l5 at h
    refine r_iload 4 dX1_trade_5 rfl ?_
    refine r_aload_n 0 dX1_trade_7 rfl ?_
    refine gFair_buyers 0 rfl (tb_in (i := 3) (j := 0) rfl rfl) dX1_trade_8 ?_
    refine r_icmp_ge 136 dX1_trade_11 (by decide) (fun c1 => ?_) (fun c1 => ?_)
    · replace h := it_pos c1 h
      refine r_iload_n 3 dX1_trade_136 rfl ?_
      have hq := Option.some.inj h
      subst hq
      exact r_iret rfl dX1_trade_137
    · replace h := it_neg c1 h
      refine r_iload 4 dX1_trade_14 rfl ?_
      refine r_iload_n 2 dX1_trade_16 rfl ?_
      refine r_icmp_ne 24 dX1_trade_17 (by decide) (fun c2 => ?_) (fun c2 => ?_)
      · replace h := it_neg c2 h
        refine r_aload_n 0 dX1_trade_24 rfl ?_
        refine r_aload_nN 1 dX1_trade_25 rfl ?_
        refine r_iload 4 dX1_trade_26 rfl ?_
        obtain ⟨q3, h3, h⟩ := bd_some h
        refine b_callV (isC := [0]) (ci := 1)  (st := []) (bs1 := [bFair K a0 z0_lasts z0_keeps z0_stalls z0_buyers z0_minute z0_goods z0_price z0_tongue z0_till z0_wealth z0_sold z0_ring z0_grudges z0_purse z0_came z0_had z0_seller z0_praise z0_borne]) (cFair_choicen (a0 := a0) (z0_lasts := z0_lasts) (z0_keeps := z0_keeps) (z0_stalls := z0_stalls) (z0_buyers := z0_buyers) (z0_minute := z0_minute) (z0_goods := z0_goods) (z0_price := z0_price) (z0_tongue := z0_tongue) (z0_till := z0_till) (z0_wealth := z0_wealth) (z0_sold := z0_sold) (z0_ring := z0_ring) (z0_grudges := z0_grudges) (z0_purse := z0_purse) (z0_came := z0_came) (z0_had := z0_had) (z0_seller := z0_seller) (z0_praise := z0_praise) (z0_borne := z0_borne) h3) rfl rfl (Nat.le_of_ble_eq_true rfl) kFair_choicen (tb_in (i := 5) (j := 8) rfl rfl) (by decide) (by decide) rfl rfl rfl rfl rfl rfl rfl dX1_trade_28 ?_
        exact cFair_traden_j31  (ih) h
      · replace h := it_pos c2 h
        refine r_iconst (x := (-1 : Int32)) dX1_trade_20 (by decide) ?_
        refine r_goto 31 dX1_trade_21 (by decide) ?_
        exact cFair_traden_j31  (ih) h
def mFair_traden (x2 : Int32) (z0_stalls : Int32) (z0_buyers : Int32) (z0_goods : Nat → Int32) (z0_price : Nat → Int32) (z0_till : Nat → Int32) (z0_sold : Nat → Int32) (z0_purse : Nat → Int32) (z0_came : Nat → Int32) (z0_had : Nat → Int32) (z0_seller : Nat → Int32) (z0_praise : Nat → Int32) : Option (Int32 × (Nat → Int32) × (Nat → Int32) × (Nat → Int32) × (Nat → Int32) × (Nat → Int32)) := mFair_traden_l5 z0_stalls z0_buyers z0_price z0_came z0_seller z0_praise x2 FU (0 : Int32) (0 : Int32) z0_goods z0_till z0_sold z0_purse z0_had
set_option maxHeartbeats 4000000 in
set_option maxRecDepth 20000 in
theorem cFair_traden {q : Int32 × (Nat → Int32) × (Nat → Int32) × (Nat → Int32) × (Nat → Int32) × (Nat → Int32)} {x2 : Int32} (h : mFair_traden x2 z0_stalls z0_buyers z0_goods z0_price z0_till z0_sold z0_purse z0_came z0_had z0_seller z0_praise = some q) : rMet l D Z (ty7 K) MFair_traden [.ref (a0 0), .null, .int x2] (List.flatten [bFair K a0 z0_lasts z0_keeps z0_stalls z0_buyers z0_minute z0_goods z0_price z0_tongue z0_till z0_wealth z0_sold z0_ring z0_grudges z0_purse z0_came z0_had z0_seller z0_praise z0_borne]) (List.flatten [bFair K a0 z0_lasts z0_keeps z0_stalls z0_buyers z0_minute q.2.1 z0_price z0_tongue q.2.2.1 z0_wealth q.2.2.2.1 z0_ring z0_grudges q.2.2.2.2.1 z0_came q.2.2.2.2.2 z0_seller z0_praise z0_borne]) (some (.int q.1)) := by
  refine rMet.of (by decide) rfl (Nat.le_of_ble_eq_true rfl) ?_
  refine r_sub (lv' := [(0, .ref (a0 0)), (1, .null), (2, .int x2)]) [0, 1, 2] rfl ?_
  unfold mFair_traden at h
  refine r_iconst (x := (0 : Int32)) dX1_trade_0 (by decide) ?_
  refine r_istore_n (lv' := [(3, .int (0 : Int32)), (0, .ref (a0 0)), (1, .null), (2, .int x2)]) dX1_trade_1 (Nat.le_of_ble_eq_true rfl) rfl ?_
  refine r_iconst (x := (0 : Int32)) dX1_trade_2 (by decide) ?_
  refine r_istore (lv' := [(4, .int (0 : Int32)), (3, .int (0 : Int32)), (0, .ref (a0 0)), (1, .null), (2, .int x2)]) dX1_trade_3 (Nat.le_of_ble_eq_true rfl) rfl ?_
  refine r_sub (lv' := [(0, .ref (a0 0)), (1, .null), (2, .int x2), (3, .int (0 : Int32)), (4, .int (0 : Int32))]) [2, 3, 4, 1, 0] rfl ?_
  exact cFair_traden_l5   FU (0 : Int32) (0 : Int32) z0_goods z0_till z0_sold z0_purse z0_had h
end
end PC1
