theorem wd_t_8 : Cond.classLink RL 10 RX5 ∈ hTb := hTb_t (List.mem_of_getElem? (i := 8) (by decide +kernel)) (by decide +kernel)
theorem wd_t_9 : Cond.instantiable RX5 8 ∈ hTb := hTb_t (List.mem_of_getElem? (i := 9) (by decide +kernel)) (by decide +kernel)
theorem wd_t_10 : Cond.methodLink RL 101 yX5_init ∈ hTb := hTb_t (List.mem_of_getElem? (i := 10) (by decide +kernel)) (by decide +kernel)
theorem wd_t_12 : Cond.code yX5_init prog_1_method_1_code 1 none ∈ hTb := hTb_t (List.mem_of_getElem? (i := 12) (by decide +kernel)) (by decide +kernel)
theorem wd_t_11 : Cond.instanceMethod yX5_init ∈ hTb := hTb_t (List.mem_of_getElem? (i := 11) (by decide +kernel)) (by decide +kernel)
theorem wd_t_426 : Cond.methodLink RL 102 yL_cell ∈ hTb := hTb_t (List.mem_of_getElem? (i := 426) (by decide +kernel)) (by decide +kernel)
set_option maxRecDepth 100000 in
theorem wd_t_428 : Cond.code yL_cell method_2_code 2 (some .int) ∈ hTb := hTb_t (List.mem_of_getElem? (i := 428) rfl) (by decide +kernel)
theorem wd_t_427 : Cond.static yL_cell ∈ hTb := hTb_t (List.mem_of_getElem? (i := 427) (by decide +kernel)) (by decide +kernel)
theorem wd_t_219 : Cond.methodLink RL 106 yX5_addGuest ∈ hTb := hTb_t (List.mem_of_getElem? (i := 219) (by decide +kernel)) (by decide +kernel)
theorem wd_t_222 : Cond.code yX5_addGuest prog_1_method_2_code 3 (some .int) ∈ hTb := hTb_t (List.mem_of_getElem? (i := 222) (by decide +kernel)) (by decide +kernel)
theorem wd_t_220 : Cond.instanceMethod yX5_addGuest ∈ hTb := hTb_t (List.mem_of_getElem? (i := 220) (by decide +kernel)) (by decide +kernel)
theorem wd_t_221 : Cond.selects RX5 yX5_addGuest yX5_addGuest ∈ hTb := hTb_t (List.mem_of_getElem? (i := 221) (by decide +kernel)) (by decide +kernel)
theorem wd_t_495 : Cond.methodLink RL 109 yL_acts ∈ hTb := hTb_t (List.mem_of_getElem? (i := 495) (by decide +kernel)) (by decide +kernel)
set_option maxRecDepth 100000 in
theorem wd_t_497 : Cond.code yL_acts method_8_code 13 (some .boolean) ∈ hTb := hTb_t (List.mem_of_getElem? (i := 497) rfl) (by decide +kernel)
theorem wd_t_496 : Cond.static yL_acts ∈ hTb := hTb_t (List.mem_of_getElem? (i := 496) (by decide +kernel)) (by decide +kernel)
theorem wd_t_431 : Cond.methodLink RL 113 yL_companies ∈ hTb := hTb_t (List.mem_of_getElem? (i := 431) (by decide +kernel)) (by decide +kernel)
set_option maxRecDepth 100000 in
theorem wd_t_433 : Cond.code yL_companies method_5_code 10 (some .boolean) ∈ hTb := hTb_t (List.mem_of_getElem? (i := 433) rfl) (by decide +kernel)
theorem wd_t_432 : Cond.static yL_companies ∈ hTb := hTb_t (List.mem_of_getElem? (i := 432) (by decide +kernel)) (by decide +kernel)
theorem wd_t_467 : Cond.methodLink RL 116 yL_guests ∈ hTb := hTb_t (List.mem_of_getElem? (i := 467) (by decide +kernel)) (by decide +kernel)
set_option maxRecDepth 100000 in
theorem wd_t_469 : Cond.code yL_guests method_6_code 12 (some .boolean) ∈ hTb := hTb_t (List.mem_of_getElem? (i := 469) rfl) (by decide +kernel)
theorem wd_t_468 : Cond.static yL_guests ∈ hTb := hTb_t (List.mem_of_getElem? (i := 468) (by decide +kernel)) (by decide +kernel)
theorem wd_t_381 : Cond.methodLink RL 119 yX5_keep ∈ hTb := hTb_t (List.mem_of_getElem? (i := 381) (by decide +kernel)) (by decide +kernel)
theorem wd_t_384 : Cond.code yX5_keep prog_1_method_15_code 1 (some .int) ∈ hTb := hTb_t (List.mem_of_getElem? (i := 384) (by decide +kernel)) (by decide +kernel)
theorem wd_t_382 : Cond.instanceMethod yX5_keep ∈ hTb := hTb_t (List.mem_of_getElem? (i := 382) (by decide +kernel)) (by decide +kernel)
theorem wd_t_383 : Cond.selects RX5 yX5_keep yX5_keep ∈ hTb := hTb_t (List.mem_of_getElem? (i := 383) (by decide +kernel)) (by decide +kernel)
theorem wd_t_373 : Cond.methodLink RL 122 yX5_undo ∈ hTb := hTb_t (List.mem_of_getElem? (i := 373) (by decide +kernel)) (by decide +kernel)
theorem wd_t_376 : Cond.code yX5_undo prog_1_method_14_code 1 (some .int) ∈ hTb := hTb_t (List.mem_of_getElem? (i := 376) (by decide +kernel)) (by decide +kernel)
theorem wd_t_374 : Cond.instanceMethod yX5_undo ∈ hTb := hTb_t (List.mem_of_getElem? (i := 374) (by decide +kernel)) (by decide +kernel)
theorem wd_t_375 : Cond.selects RX5 yX5_undo yX5_undo ∈ hTb := hTb_t (List.mem_of_getElem? (i := 375) (by decide +kernel)) (by decide +kernel)
theorem wd_t_386 : Cond.methodLink RL 125 yX5_restore ∈ hTb := hTb_t (List.mem_of_getElem? (i := 386) (by decide +kernel)) (by decide +kernel)
theorem wd_t_389 : Cond.code yX5_restore prog_1_method_16_code 1 (some .int) ∈ hTb := hTb_t (List.mem_of_getElem? (i := 389) (by decide +kernel)) (by decide +kernel)
theorem wd_t_387 : Cond.instanceMethod yX5_restore ∈ hTb := hTb_t (List.mem_of_getElem? (i := 387) (by decide +kernel)) (by decide +kernel)
theorem wd_t_388 : Cond.selects RX5 yX5_restore yX5_restore ∈ hTb := hTb_t (List.mem_of_getElem? (i := 388) (by decide +kernel)) (by decide +kernel)
def M_La_law : hM := (yL_law, code, 6, (some .boolean), 12, 472)
def code_La_law (K : hK) (B : Nat × Nat) (Q : hPost) : List hSem := [x_new B 3 5 8 [.null, .null, .null, .int 0, .null, .int 0, .null, .null], x_no, x_no, x_dup 4, x_callI K B 7 M_Pa_init 0, x_no, x_no, x_astore 8 1, x_aload 9 0, x_const 10 (0), x_callS K 13 M_La_cell 2, x_no, x_no, x_istore 14 2, x_aload 15 1, x_const 16 (0), x_callV K 19 M_Pa_company 5 1, x_no, x_no, x_ifne 97 22, x_no, x_no, x_aload 23 1, x_const 24 (2), x_callV K 27 M_Pa_company 5 1, x_no, x_no, x_const 29 (-5), x_no, x_icne 97 32, x_no, x_no, x_aload 33 1, x_callV K 36 M_Pa_companies 5 0, x_no, x_no, x_const 37 (1), x_icne 97 40, x_no, x_no, x_aload 41 1, x_callV K 44 M_Pa_rounds 5 0, x_no, x_no, x_const 45 (1), x_icne 97 48, x_no, x_no, x_aload 49 1, x_callV K 52 M_Pa_fix 5 0, x_no, x_no, x_const 54 (-5), x_no, x_icne 97 57, x_no, x_no, x_aload 58 1, x_const 59 (0), x_const 62 (900), x_no, x_no, x_iload 63 2, x_const 66 (6000), x_no, x_no, x_irem 67, x_iadd 68, x_callV K 71 M_Pa_set 5 2, x_no, x_no, x_const 74 (10000), x_no, x_no, x_icne 97 77, x_no, x_no, x_aload 78 1, x_const 79 (1), x_iload 80 2, x_const 83 (300), x_no, x_no, x_irem 84, x_callV K 87 M_Pa_set 5 2, x_no, x_no, x_const 90 (500), x_no, x_no, x_icne 97 93, x_no, x_no, x_const 94 (1), x_goto 98, x_no, x_no, x_const 98 (0), x_istore 99 3, x_const 100 (0), x_istore 102 4, x_no, x_iload 104 4, x_no, x_const 105 (3), x_iload 106 2, x_const 107 (4), x_irem 108, x_iadd 109, x_icge 167 112, x_no, x_no, x_iload 113 3, x_ifeq 167 116, x_no, x_no, x_aload 117 0, x_const 118 (1), x_iload 120 4, x_no, x_iadd 121, x_callS K 124 M_La_cell 2, x_no, x_no, x_istore 126 5, x_no, x_aload 127 1, x_const 130 (200), x_no, x_no, x_iload 132 5, x_no, x_const 135 (4000), x_no, x_no, x_irem 136, x_iadd 137, x_const 138 (1), x_iload 140 5, x_no, x_const 142 (12), x_no, x_ishr 143, x_const 145 (9), x_no, x_irem 146, x_iadd 147, x_callV K 150 M_Pa_addGuest 5 2, x_no, x_no, x_iload 152 4, x_no, x_icne 159 155, x_no, x_no, x_const 156 (1), x_goto 160, x_no, x_no, x_const 160 (0), x_istore 161 3, x_iinc 164 4 (1), x_no, x_no, x_goto 102, x_no, x_no, x_const 168 (0), x_istore 170 4, x_no, x_iload 172 4, x_no, x_const 174 (26), x_no, x_icge 223 177, x_no, x_no, x_iload 178 3, x_ifeq 223 181, x_no, x_no, x_aload 182 1, x_aload 183 0, x_const 185 (8), x_no, x_iload 187 4, x_no, x_iadd 188, x_callS K 191 M_La_cell 2, x_no, x_no, x_callS K 194 M_La_acts 2, x_no, x_no, x_ifeq 215 197, x_no, x_no, x_aload 198 1, x_callS K 201 M_La_companies 1, x_no, x_no, x_ifeq 215 204, x_no, x_no, x_aload 205 1, x_callS K 208 M_La_guests 1, x_no, x_no, x_ifeq 215 211, x_no, x_no, x_const 212 (1), x_goto 216, x_no, x_no, x_const 216 (0), x_istore 217 3, x_iinc 220 4 (1), x_no, x_no, x_goto 170, x_no, x_no, x_aload 224 1, x_const 225 (0), x_callV K 228 M_Pa_company 5 1, x_no, x_no, x_istore 230 4, x_no, x_aload 231 1, x_const 232 (0), x_callV K 235 M_Pa_count 5 1, x_no, x_no, x_istore 237 5, x_no, x_iload 238 3, x_ifeq 310 241, x_no, x_no, x_aload 242 1, x_callV K 245 M_Pa_keep 5 0, x_no, x_no, x_aload 246 1, x_const 247 (1), x_callV K 250 M_Pa_count 5 1, x_no, x_no, x_icne 310 253, x_no, x_no, x_aload 254 1, x_const 255 (1), x_callV K 258 M_Pa_pass 5 1, x_no, x_no, x_iload 260 5, x_no, x_const 261 (1), x_iadd 262, x_icne 310 265, x_no, x_no, x_aload 266 1, x_callV K 269 M_Pa_undo 5 0, x_no, x_no, x_iflt 310 272, x_no, x_no, x_aload 273 1, x_const 274 (0), x_callV K 277 M_Pa_count 5 1, x_no, x_no, x_iload 279 5, x_no, x_icne 310 282, x_no, x_no, x_aload 283 1, x_const 284 (2), x_callV K 287 M_Pa_pass 5 1, x_no, x_no, x_iload 289 5, x_no, x_const 290 (2), x_iadd 291, x_icne 310 294, x_no, x_no, x_aload 295 1, x_callV K 298 M_Pa_restore 5 0, x_no, x_no, x_aload 299 1, x_const 300 (1), x_callV K 303 M_Pa_count 5 1, x_no, x_no, x_icne 310 306, x_no, x_no, x_const 307 (1), x_goto 311, x_no, x_no, x_const 311 (0), x_istore 312 3, x_iload 313 3, x_ifeq 340 316, x_no, x_no, x_aload 317 1, x_const 318 (0), x_callV K 321 M_Pa_count 5 1, x_no, x_no, x_iload 323 5, x_no, x_icne 340 326, x_no, x_no, x_aload 327 1, x_const 328 (0), x_callV K 331 M_Pa_company 5 1, x_no, x_no, x_iload 333 4, x_no, x_icne 340 336, x_no, x_no, x_const 337 (1), x_goto 341, x_no, x_no, x_const 341 (0), x_ireturn (some .boolean) Q]
set_option maxRecDepth 100000 in
set_option maxHeartbeats 4000000 in
theorem okc_La_law (K : hK) (B : Nat × Nat) (Q : hPost) : hAllOk (hJ K M_La_law B Q) 0 (code_La_law K B Q) := by
  refine hAllOk.c 0 (ok_new (idx := 10) (N := 8) (T := TX5) tyX5_ok rfl inTb5 (by decide +kernel) wd_t_8 wd_t_9 wd_t_1 (by decide +kernel) rfl) ?_
  refine hAllOk.c 1 (ok_no) ?_
  refine hAllOk.c 2 (ok_no) ?_
  refine hAllOk.c 3 (ok_dup (by decide +kernel) rfl) ?_
  refine hAllOk.c 4 (ok_callI (idx := 101) ⟨wd_t_12, wd_t_1, by decide +kernel, by decide +kernel⟩ rfl rfl wd_t_10 wd_t_11 (by decide +kernel) rfl) ?_
  refine hAllOk.c 5 (ok_no) ?_
  refine hAllOk.c 6 (ok_no) ?_
  refine hAllOk.c 7 (ok_astore_n (f := 1) rfl (by decide) (by decide +kernel) rfl) ?_
  refine hAllOk.c 8 (ok_aload_n (f := 0) rfl (by decide +kernel) rfl) ?_
  refine hAllOk.c 9 (ok_iconst (n := 0) (by decide +kernel) (by decide +kernel) rfl) ?_
  refine hAllOk.c 10 (ok_callS (idx := 102) ⟨wd_t_428, wd_t_0, by decide +kernel, by decide +kernel⟩ wd_t_426 wd_t_427 (by decide +kernel) rfl) ?_
  refine hAllOk.c 11 (ok_no) ?_
  refine hAllOk.c 12 (ok_no) ?_
  refine hAllOk.c 13 (ok_istore_n (f := 2) rfl (by decide) (by decide +kernel) rfl) ?_
  refine hAllOk.c 14 (ok_aload_n (f := 1) rfl (by decide +kernel) rfl) ?_
  refine hAllOk.c 15 (ok_iconst (n := 0) (by decide +kernel) (by decide +kernel) rfl) ?_
  refine hAllOk.c 16 (ok_callV (idx := 19) ⟨wd_t_393, wd_t_1, by decide +kernel, by decide +kernel⟩ rfl rfl wd_t_390 wd_t_391 wd_t_392 (by decide +kernel) rfl) ?_
  refine hAllOk.c 17 (ok_no) ?_
  refine hAllOk.c 18 (ok_no) ?_
  refine hAllOk.c 19 (ok_ifne (off := 78) (by decide +kernel) (by decide +kernel) rfl) ?_
  refine hAllOk.c 20 (ok_no) ?_
  refine hAllOk.c 21 (ok_no) ?_
  refine hAllOk.c 22 (ok_aload_n (f := 1) rfl (by decide +kernel) rfl) ?_
  refine hAllOk.c 23 (ok_iconst (n := 2) (by decide +kernel) (by decide +kernel) rfl) ?_
  refine hAllOk.c 24 (ok_callV (idx := 19) ⟨wd_t_393, wd_t_1, by decide +kernel, by decide +kernel⟩ rfl rfl wd_t_390 wd_t_391 wd_t_392 (by decide +kernel) rfl) ?_
  refine hAllOk.c 25 (ok_no) ?_
  refine hAllOk.c 26 (ok_no) ?_
  refine hAllOk.c 27 (ok_bipush (n := -5) (by decide +kernel) (by decide +kernel) rfl) ?_
  refine hAllOk.c 28 (ok_no) ?_
  refine hAllOk.c 29 (ok_icne (off := 68) (by decide +kernel) (by decide +kernel) rfl) ?_
  refine hAllOk.c 30 (ok_no) ?_
  refine hAllOk.c 31 (ok_no) ?_
  refine hAllOk.c 32 (ok_aload_n (f := 1) rfl (by decide +kernel) rfl) ?_
  refine hAllOk.c 33 (ok_callV (idx := 40) ⟨wd_t_401, wd_t_1, by decide +kernel, by decide +kernel⟩ rfl rfl wd_t_398 wd_t_399 wd_t_400 (by decide +kernel) rfl) ?_
  refine hAllOk.c 34 (ok_no) ?_
  refine hAllOk.c 35 (ok_no) ?_
  refine hAllOk.c 36 (ok_iconst (n := 1) (by decide +kernel) (by decide +kernel) rfl) ?_
  refine hAllOk.c 37 (ok_icne (off := 60) (by decide +kernel) (by decide +kernel) rfl) ?_
  refine hAllOk.c 38 (ok_no) ?_
  refine hAllOk.c 39 (ok_no) ?_
  refine hAllOk.c 40 (ok_aload_n (f := 1) rfl (by decide +kernel) rfl) ?_
  refine hAllOk.c 41 (ok_callV (idx := 50) ⟨wd_t_409, wd_t_1, by decide +kernel, by decide +kernel⟩ rfl rfl wd_t_406 wd_t_407 wd_t_408 (by decide +kernel) rfl) ?_
  refine hAllOk.c 42 (ok_no) ?_
  refine hAllOk.c 43 (ok_no) ?_
  refine hAllOk.c 44 (ok_iconst (n := 1) (by decide +kernel) (by decide +kernel) rfl) ?_
  refine hAllOk.c 45 (ok_icne (off := 52) (by decide +kernel) (by decide +kernel) rfl) ?_
  refine hAllOk.c 46 (ok_no) ?_
  refine hAllOk.c 47 (ok_no) ?_
  refine hAllOk.c 48 (ok_aload_n (f := 1) rfl (by decide +kernel) rfl) ?_
  refine hAllOk.c 49 (ok_callV (idx := 89) ⟨wd_t_281, wd_t_1, by decide +kernel, by decide +kernel⟩ rfl rfl wd_t_278 wd_t_279 wd_t_280 (by decide +kernel) rfl) ?_
  refine hAllOk.c 50 (ok_no) ?_
  refine hAllOk.c 51 (ok_no) ?_
  refine hAllOk.c 52 (ok_bipush (n := -5) (by decide +kernel) (by decide +kernel) rfl) ?_
  refine hAllOk.c 53 (ok_no) ?_
  refine hAllOk.c 54 (ok_icne (off := 43) (by decide +kernel) (by decide +kernel) rfl) ?_
  refine hAllOk.c 55 (ok_no) ?_
  refine hAllOk.c 56 (ok_no) ?_
  refine hAllOk.c 57 (ok_aload_n (f := 1) rfl (by decide +kernel) rfl) ?_
  refine hAllOk.c 58 (ok_iconst (n := 0) (by decide +kernel) (by decide +kernel) rfl) ?_
  refine hAllOk.c 59 (ok_sipush (n := 900) (by decide +kernel) (by decide +kernel) rfl) ?_
  refine hAllOk.c 60 (ok_no) ?_
  refine hAllOk.c 61 (ok_no) ?_
  refine hAllOk.c 62 (ok_iload_n (f := 2) rfl (by decide +kernel) rfl) ?_
  refine hAllOk.c 63 (ok_sipush (n := 6000) (by decide +kernel) (by decide +kernel) rfl) ?_
  refine hAllOk.c 64 (ok_no) ?_
  refine hAllOk.c 65 (ok_no) ?_
  refine hAllOk.c 66 (ok_irem (by decide +kernel) rfl) ?_
  refine hAllOk.c 67 (ok_iadd (by decide +kernel) rfl) ?_
  refine hAllOk.c 68 (ok_callV (idx := 86) ⟨wd_t_269, wd_t_1, by decide +kernel, by decide +kernel⟩ rfl rfl wd_t_266 wd_t_267 wd_t_268 (by decide +kernel) rfl) ?_
  refine hAllOk.c 69 (ok_no) ?_
  refine hAllOk.c 70 (ok_no) ?_
  refine hAllOk.c 71 (ok_sipush (n := 10000) (by decide +kernel) (by decide +kernel) rfl) ?_
  refine hAllOk.c 72 (ok_no) ?_
  refine hAllOk.c 73 (ok_no) ?_
  refine hAllOk.c 74 (ok_icne (off := 23) (by decide +kernel) (by decide +kernel) rfl) ?_
  refine hAllOk.c 75 (ok_no) ?_
  refine hAllOk.c 76 (ok_no) ?_
  refine hAllOk.c 77 (ok_aload_n (f := 1) rfl (by decide +kernel) rfl) ?_
  refine hAllOk.c 78 (ok_iconst (n := 1) (by decide +kernel) (by decide +kernel) rfl) ?_
  refine hAllOk.c 79 (ok_iload_n (f := 2) rfl (by decide +kernel) rfl) ?_
  refine hAllOk.c 80 (ok_sipush (n := 300) (by decide +kernel) (by decide +kernel) rfl) ?_
  refine hAllOk.c 81 (ok_no) ?_
  refine hAllOk.c 82 (ok_no) ?_
  refine hAllOk.c 83 (ok_irem (by decide +kernel) rfl) ?_
  refine hAllOk.c 84 (ok_callV (idx := 86) ⟨wd_t_269, wd_t_1, by decide +kernel, by decide +kernel⟩ rfl rfl wd_t_266 wd_t_267 wd_t_268 (by decide +kernel) rfl) ?_
  refine hAllOk.c 85 (ok_no) ?_
  refine hAllOk.c 86 (ok_no) ?_
  refine hAllOk.c 87 (ok_sipush (n := 500) (by decide +kernel) (by decide +kernel) rfl) ?_
  refine hAllOk.c 88 (ok_no) ?_
  refine hAllOk.c 89 (ok_no) ?_
  refine hAllOk.c 90 (ok_icne (off := 7) (by decide +kernel) (by decide +kernel) rfl) ?_
  refine hAllOk.c 91 (ok_no) ?_
  refine hAllOk.c 92 (ok_no) ?_
  refine hAllOk.c 93 (ok_iconst (n := 1) (by decide +kernel) (by decide +kernel) rfl) ?_
  refine hAllOk.c 94 (ok_goto (off := 4) (by decide +kernel) (by decide +kernel)) ?_
  refine hAllOk.c 95 (ok_no) ?_
  refine hAllOk.c 96 (ok_no) ?_
  refine hAllOk.c 97 (ok_iconst (n := 0) (by decide +kernel) (by decide +kernel) rfl) ?_
  refine hAllOk.c 98 (ok_istore_n (f := 3) rfl (by decide) (by decide +kernel) rfl) ?_
  refine hAllOk.c 99 (ok_iconst (n := 0) (by decide +kernel) (by decide +kernel) rfl) ?_
  refine hAllOk.c 100 (ok_istore (by decide) (by decide +kernel) rfl) ?_
  refine hAllOk.c 101 (ok_no) ?_
  refine hAllOk.c 102 (ok_iload (by decide +kernel) rfl) ?_
  refine hAllOk.c 103 (ok_no) ?_
  refine hAllOk.c 104 (ok_iconst (n := 3) (by decide +kernel) (by decide +kernel) rfl) ?_
  refine hAllOk.c 105 (ok_iload_n (f := 2) rfl (by decide +kernel) rfl) ?_
  refine hAllOk.c 106 (ok_iconst (n := 4) (by decide +kernel) (by decide +kernel) rfl) ?_
  refine hAllOk.c 107 (ok_irem (by decide +kernel) rfl) ?_
  refine hAllOk.c 108 (ok_iadd (by decide +kernel) rfl) ?_
  refine hAllOk.c 109 (ok_icge (off := 58) (by decide +kernel) (by decide +kernel) rfl) ?_
  refine hAllOk.c 110 (ok_no) ?_
  refine hAllOk.c 111 (ok_no) ?_
  refine hAllOk.c 112 (ok_iload_n (f := 3) rfl (by decide +kernel) rfl) ?_
  refine hAllOk.c 113 (ok_ifeq (off := 54) (by decide +kernel) (by decide +kernel) rfl) ?_
  refine hAllOk.c 114 (ok_no) ?_
  refine hAllOk.c 115 (ok_no) ?_
  refine hAllOk.c 116 (ok_aload_n (f := 0) rfl (by decide +kernel) rfl) ?_
  refine hAllOk.c 117 (ok_iconst (n := 1) (by decide +kernel) (by decide +kernel) rfl) ?_
  refine hAllOk.c 118 (ok_iload (by decide +kernel) rfl) ?_
  refine hAllOk.c 119 (ok_no) ?_
  refine hAllOk.c 120 (ok_iadd (by decide +kernel) rfl) ?_
  refine hAllOk.c 121 (ok_callS (idx := 102) ⟨wd_t_428, wd_t_0, by decide +kernel, by decide +kernel⟩ wd_t_426 wd_t_427 (by decide +kernel) rfl) ?_
  refine hAllOk.c 122 (ok_no) ?_
  refine hAllOk.c 123 (ok_no) ?_
  refine hAllOk.c 124 (ok_istore (by decide) (by decide +kernel) rfl) ?_
  refine hAllOk.c 125 (ok_no) ?_
  refine hAllOk.c 126 (ok_aload_n (f := 1) rfl (by decide +kernel) rfl) ?_
  refine hAllOk.c 127 (ok_sipush (n := 200) (by decide +kernel) (by decide +kernel) rfl) ?_
  refine hAllOk.c 128 (ok_no) ?_
  refine hAllOk.c 129 (ok_no) ?_
  refine hAllOk.c 130 (ok_iload (by decide +kernel) rfl) ?_
  refine hAllOk.c 131 (ok_no) ?_
  refine hAllOk.c 132 (ok_sipush (n := 4000) (by decide +kernel) (by decide +kernel) rfl) ?_
  refine hAllOk.c 133 (ok_no) ?_
  refine hAllOk.c 134 (ok_no) ?_
  refine hAllOk.c 135 (ok_irem (by decide +kernel) rfl) ?_
  refine hAllOk.c 136 (ok_iadd (by decide +kernel) rfl) ?_
  refine hAllOk.c 137 (ok_iconst (n := 1) (by decide +kernel) (by decide +kernel) rfl) ?_
  refine hAllOk.c 138 (ok_iload (by decide +kernel) rfl) ?_
  refine hAllOk.c 139 (ok_no) ?_
  refine hAllOk.c 140 (ok_bipush (n := 12) (by decide +kernel) (by decide +kernel) rfl) ?_
  refine hAllOk.c 141 (ok_no) ?_
  refine hAllOk.c 142 (ok_ishr (by decide +kernel) rfl) ?_
  refine hAllOk.c 143 (ok_bipush (n := 9) (by decide +kernel) (by decide +kernel) rfl) ?_
  refine hAllOk.c 144 (ok_no) ?_
  refine hAllOk.c 145 (ok_irem (by decide +kernel) rfl) ?_
  refine hAllOk.c 146 (ok_iadd (by decide +kernel) rfl) ?_
  refine hAllOk.c 147 (ok_callV (idx := 106) ⟨wd_t_222, wd_t_1, by decide +kernel, by decide +kernel⟩ rfl rfl wd_t_219 wd_t_220 wd_t_221 (by decide +kernel) rfl) ?_
  refine hAllOk.c 148 (ok_no) ?_
  refine hAllOk.c 149 (ok_no) ?_
  refine hAllOk.c 150 (ok_iload (by decide +kernel) rfl) ?_
  refine hAllOk.c 151 (ok_no) ?_
  refine hAllOk.c 152 (ok_icne (off := 7) (by decide +kernel) (by decide +kernel) rfl) ?_
  refine hAllOk.c 153 (ok_no) ?_
  refine hAllOk.c 154 (ok_no) ?_
  refine hAllOk.c 155 (ok_iconst (n := 1) (by decide +kernel) (by decide +kernel) rfl) ?_
  refine hAllOk.c 156 (ok_goto (off := 4) (by decide +kernel) (by decide +kernel)) ?_
  refine hAllOk.c 157 (ok_no) ?_
  refine hAllOk.c 158 (ok_no) ?_
  refine hAllOk.c 159 (ok_iconst (n := 0) (by decide +kernel) (by decide +kernel) rfl) ?_
  refine hAllOk.c 160 (ok_istore_n (f := 3) rfl (by decide) (by decide +kernel) rfl) ?_
  refine hAllOk.c 161 (ok_iinc (n := 1) (by decide +kernel) (by decide) (by decide +kernel) rfl) ?_
  refine hAllOk.c 162 (ok_no) ?_
  refine hAllOk.c 163 (ok_no) ?_
  refine hAllOk.c 164 (ok_goto (off := (-62)) (by decide +kernel) (by decide +kernel)) ?_
  refine hAllOk.c 165 (ok_no) ?_
  refine hAllOk.c 166 (ok_no) ?_
  refine hAllOk.c 167 (ok_iconst (n := 0) (by decide +kernel) (by decide +kernel) rfl) ?_
  refine hAllOk.c 168 (ok_istore (by decide) (by decide +kernel) rfl) ?_
  refine hAllOk.c 169 (ok_no) ?_
  refine hAllOk.c 170 (ok_iload (by decide +kernel) rfl) ?_
  refine hAllOk.c 171 (ok_no) ?_
  refine hAllOk.c 172 (ok_bipush (n := 26) (by decide +kernel) (by decide +kernel) rfl) ?_
  refine hAllOk.c 173 (ok_no) ?_
  refine hAllOk.c 174 (ok_icge (off := 49) (by decide +kernel) (by decide +kernel) rfl) ?_
  refine hAllOk.c 175 (ok_no) ?_
  refine hAllOk.c 176 (ok_no) ?_
  refine hAllOk.c 177 (ok_iload_n (f := 3) rfl (by decide +kernel) rfl) ?_
  refine hAllOk.c 178 (ok_ifeq (off := 45) (by decide +kernel) (by decide +kernel) rfl) ?_
  refine hAllOk.c 179 (ok_no) ?_
  refine hAllOk.c 180 (ok_no) ?_
  refine hAllOk.c 181 (ok_aload_n (f := 1) rfl (by decide +kernel) rfl) ?_
  refine hAllOk.c 182 (ok_aload_n (f := 0) rfl (by decide +kernel) rfl) ?_
  refine hAllOk.c 183 (ok_bipush (n := 8) (by decide +kernel) (by decide +kernel) rfl) ?_
  refine hAllOk.c 184 (ok_no) ?_
  refine hAllOk.c 185 (ok_iload (by decide +kernel) rfl) ?_
  refine hAllOk.c 186 (ok_no) ?_
  refine hAllOk.c 187 (ok_iadd (by decide +kernel) rfl) ?_
  refine hAllOk.c 188 (ok_callS (idx := 102) ⟨wd_t_428, wd_t_0, by decide +kernel, by decide +kernel⟩ wd_t_426 wd_t_427 (by decide +kernel) rfl) ?_
  refine hAllOk.c 189 (ok_no) ?_
  refine hAllOk.c 190 (ok_no) ?_
  refine hAllOk.c 191 (ok_callS (idx := 109) ⟨wd_t_497, wd_t_0, by decide +kernel, by decide +kernel⟩ wd_t_495 wd_t_496 (by decide +kernel) rfl) ?_
  refine hAllOk.c 192 (ok_no) ?_
  refine hAllOk.c 193 (ok_no) ?_
  refine hAllOk.c 194 (ok_ifeq (off := 21) (by decide +kernel) (by decide +kernel) rfl) ?_
  refine hAllOk.c 195 (ok_no) ?_
  refine hAllOk.c 196 (ok_no) ?_
  refine hAllOk.c 197 (ok_aload_n (f := 1) rfl (by decide +kernel) rfl) ?_
  refine hAllOk.c 198 (ok_callS (idx := 113) ⟨wd_t_433, wd_t_0, by decide +kernel, by decide +kernel⟩ wd_t_431 wd_t_432 (by decide +kernel) rfl) ?_
  refine hAllOk.c 199 (ok_no) ?_
  refine hAllOk.c 200 (ok_no) ?_
  refine hAllOk.c 201 (ok_ifeq (off := 14) (by decide +kernel) (by decide +kernel) rfl) ?_
  refine hAllOk.c 202 (ok_no) ?_
  refine hAllOk.c 203 (ok_no) ?_
  refine hAllOk.c 204 (ok_aload_n (f := 1) rfl (by decide +kernel) rfl) ?_
  refine hAllOk.c 205 (ok_callS (idx := 116) ⟨wd_t_469, wd_t_0, by decide +kernel, by decide +kernel⟩ wd_t_467 wd_t_468 (by decide +kernel) rfl) ?_
  refine hAllOk.c 206 (ok_no) ?_
  refine hAllOk.c 207 (ok_no) ?_
  refine hAllOk.c 208 (ok_ifeq (off := 7) (by decide +kernel) (by decide +kernel) rfl) ?_
  refine hAllOk.c 209 (ok_no) ?_
  refine hAllOk.c 210 (ok_no) ?_
  refine hAllOk.c 211 (ok_iconst (n := 1) (by decide +kernel) (by decide +kernel) rfl) ?_
  refine hAllOk.c 212 (ok_goto (off := 4) (by decide +kernel) (by decide +kernel)) ?_
  refine hAllOk.c 213 (ok_no) ?_
  refine hAllOk.c 214 (ok_no) ?_
  refine hAllOk.c 215 (ok_iconst (n := 0) (by decide +kernel) (by decide +kernel) rfl) ?_
  refine hAllOk.c 216 (ok_istore_n (f := 3) rfl (by decide) (by decide +kernel) rfl) ?_
  refine hAllOk.c 217 (ok_iinc (n := 1) (by decide +kernel) (by decide) (by decide +kernel) rfl) ?_
  refine hAllOk.c 218 (ok_no) ?_
  refine hAllOk.c 219 (ok_no) ?_
  refine hAllOk.c 220 (ok_goto (off := (-50)) (by decide +kernel) (by decide +kernel)) ?_
  refine hAllOk.c 221 (ok_no) ?_
  refine hAllOk.c 222 (ok_no) ?_
  refine hAllOk.c 223 (ok_aload_n (f := 1) rfl (by decide +kernel) rfl) ?_
  refine hAllOk.c 224 (ok_iconst (n := 0) (by decide +kernel) (by decide +kernel) rfl) ?_
  refine hAllOk.c 225 (ok_callV (idx := 19) ⟨wd_t_393, wd_t_1, by decide +kernel, by decide +kernel⟩ rfl rfl wd_t_390 wd_t_391 wd_t_392 (by decide +kernel) rfl) ?_
  refine hAllOk.c 226 (ok_no) ?_
  refine hAllOk.c 227 (ok_no) ?_
  refine hAllOk.c 228 (ok_istore (by decide) (by decide +kernel) rfl) ?_
  refine hAllOk.c 229 (ok_no) ?_
  refine hAllOk.c 230 (ok_aload_n (f := 1) rfl (by decide +kernel) rfl) ?_
  refine hAllOk.c 231 (ok_iconst (n := 0) (by decide +kernel) (by decide +kernel) rfl) ?_
  refine hAllOk.c 232 (ok_callV (idx := 9) ⟨wd_t_413, wd_t_1, by decide +kernel, by decide +kernel⟩ rfl rfl wd_t_410 wd_t_411 wd_t_412 (by decide +kernel) rfl) ?_
  refine hAllOk.c 233 (ok_no) ?_
  refine hAllOk.c 234 (ok_no) ?_
  refine hAllOk.c 235 (ok_istore (by decide) (by decide +kernel) rfl) ?_
  refine hAllOk.c 236 (ok_no) ?_
  refine hAllOk.c 237 (ok_iload_n (f := 3) rfl (by decide +kernel) rfl) ?_
  refine hAllOk.c 238 (ok_ifeq (off := 72) (by decide +kernel) (by decide +kernel) rfl) ?_
  refine hAllOk.c 239 (ok_no) ?_
  refine hAllOk.c 240 (ok_no) ?_
  refine hAllOk.c 241 (ok_aload_n (f := 1) rfl (by decide +kernel) rfl) ?_
  refine hAllOk.c 242 (ok_callV (idx := 119) ⟨wd_t_384, wd_t_1, by decide +kernel, by decide +kernel⟩ rfl rfl wd_t_381 wd_t_382 wd_t_383 (by decide +kernel) rfl) ?_
  refine hAllOk.c 243 (ok_no) ?_
  refine hAllOk.c 244 (ok_no) ?_
  refine hAllOk.c 245 (ok_aload_n (f := 1) rfl (by decide +kernel) rfl) ?_
  refine hAllOk.c 246 (ok_iconst (n := 1) (by decide +kernel) (by decide +kernel) rfl) ?_
  refine hAllOk.c 247 (ok_callV (idx := 9) ⟨wd_t_413, wd_t_1, by decide +kernel, by decide +kernel⟩ rfl rfl wd_t_410 wd_t_411 wd_t_412 (by decide +kernel) rfl) ?_
  refine hAllOk.c 248 (ok_no) ?_
  refine hAllOk.c 249 (ok_no) ?_
  refine hAllOk.c 250 (ok_icne (off := 60) (by decide +kernel) (by decide +kernel) rfl) ?_
  refine hAllOk.c 251 (ok_no) ?_
  refine hAllOk.c 252 (ok_no) ?_
  refine hAllOk.c 253 (ok_aload_n (f := 1) rfl (by decide +kernel) rfl) ?_
  refine hAllOk.c 254 (ok_iconst (n := 1) (by decide +kernel) (by decide +kernel) rfl) ?_
  refine hAllOk.c 255 (ok_callV (idx := 83) ⟨wd_t_277, wd_t_1, by decide +kernel, by decide +kernel⟩ rfl rfl wd_t_274 wd_t_275 wd_t_276 (by decide +kernel) rfl) ?_
  refine hAllOk.c 256 (ok_no) ?_
  refine hAllOk.c 257 (ok_no) ?_
  refine hAllOk.c 258 (ok_iload (by decide +kernel) rfl) ?_
  refine hAllOk.c 259 (ok_no) ?_
  refine hAllOk.c 260 (ok_iconst (n := 1) (by decide +kernel) (by decide +kernel) rfl) ?_
  refine hAllOk.c 261 (ok_iadd (by decide +kernel) rfl) ?_
  refine hAllOk.c 262 (ok_icne (off := 48) (by decide +kernel) (by decide +kernel) rfl) ?_
  refine hAllOk.c 263 (ok_no) ?_
  refine hAllOk.c 264 (ok_no) ?_
  refine hAllOk.c 265 (ok_aload_n (f := 1) rfl (by decide +kernel) rfl) ?_
  refine hAllOk.c 266 (ok_callV (idx := 122) ⟨wd_t_376, wd_t_1, by decide +kernel, by decide +kernel⟩ rfl rfl wd_t_373 wd_t_374 wd_t_375 (by decide +kernel) rfl) ?_
  refine hAllOk.c 267 (ok_no) ?_
  refine hAllOk.c 268 (ok_no) ?_
  refine hAllOk.c 269 (ok_iflt (off := 41) (by decide +kernel) (by decide +kernel) rfl) ?_
  refine hAllOk.c 270 (ok_no) ?_
  refine hAllOk.c 271 (ok_no) ?_
  refine hAllOk.c 272 (ok_aload_n (f := 1) rfl (by decide +kernel) rfl) ?_
  refine hAllOk.c 273 (ok_iconst (n := 0) (by decide +kernel) (by decide +kernel) rfl) ?_
  refine hAllOk.c 274 (ok_callV (idx := 9) ⟨wd_t_413, wd_t_1, by decide +kernel, by decide +kernel⟩ rfl rfl wd_t_410 wd_t_411 wd_t_412 (by decide +kernel) rfl) ?_
  refine hAllOk.c 275 (ok_no) ?_
  refine hAllOk.c 276 (ok_no) ?_
  refine hAllOk.c 277 (ok_iload (by decide +kernel) rfl) ?_
  refine hAllOk.c 278 (ok_no) ?_
  refine hAllOk.c 279 (ok_icne (off := 31) (by decide +kernel) (by decide +kernel) rfl) ?_
  refine hAllOk.c 280 (ok_no) ?_
  refine hAllOk.c 281 (ok_no) ?_
  refine hAllOk.c 282 (ok_aload_n (f := 1) rfl (by decide +kernel) rfl) ?_
  refine hAllOk.c 283 (ok_iconst (n := 2) (by decide +kernel) (by decide +kernel) rfl) ?_
  refine hAllOk.c 284 (ok_callV (idx := 83) ⟨wd_t_277, wd_t_1, by decide +kernel, by decide +kernel⟩ rfl rfl wd_t_274 wd_t_275 wd_t_276 (by decide +kernel) rfl) ?_
  refine hAllOk.c 285 (ok_no) ?_
  refine hAllOk.c 286 (ok_no) ?_
  refine hAllOk.c 287 (ok_iload (by decide +kernel) rfl) ?_
  refine hAllOk.c 288 (ok_no) ?_
  refine hAllOk.c 289 (ok_iconst (n := 2) (by decide +kernel) (by decide +kernel) rfl) ?_
  refine hAllOk.c 290 (ok_iadd (by decide +kernel) rfl) ?_
  refine hAllOk.c 291 (ok_icne (off := 19) (by decide +kernel) (by decide +kernel) rfl) ?_
  refine hAllOk.c 292 (ok_no) ?_
  refine hAllOk.c 293 (ok_no) ?_
  refine hAllOk.c 294 (ok_aload_n (f := 1) rfl (by decide +kernel) rfl) ?_
  refine hAllOk.c 295 (ok_callV (idx := 125) ⟨wd_t_389, wd_t_1, by decide +kernel, by decide +kernel⟩ rfl rfl wd_t_386 wd_t_387 wd_t_388 (by decide +kernel) rfl) ?_
  refine hAllOk.c 296 (ok_no) ?_
  refine hAllOk.c 297 (ok_no) ?_
  refine hAllOk.c 298 (ok_aload_n (f := 1) rfl (by decide +kernel) rfl) ?_
  refine hAllOk.c 299 (ok_iconst (n := 1) (by decide +kernel) (by decide +kernel) rfl) ?_
  refine hAllOk.c 300 (ok_callV (idx := 9) ⟨wd_t_413, wd_t_1, by decide +kernel, by decide +kernel⟩ rfl rfl wd_t_410 wd_t_411 wd_t_412 (by decide +kernel) rfl) ?_
  refine hAllOk.c 301 (ok_no) ?_
  refine hAllOk.c 302 (ok_no) ?_
  refine hAllOk.c 303 (ok_icne (off := 7) (by decide +kernel) (by decide +kernel) rfl) ?_
  refine hAllOk.c 304 (ok_no) ?_
  refine hAllOk.c 305 (ok_no) ?_
  refine hAllOk.c 306 (ok_iconst (n := 1) (by decide +kernel) (by decide +kernel) rfl) ?_
  refine hAllOk.c 307 (ok_goto (off := 4) (by decide +kernel) (by decide +kernel)) ?_
  refine hAllOk.c 308 (ok_no) ?_
  refine hAllOk.c 309 (ok_no) ?_
  refine hAllOk.c 310 (ok_iconst (n := 0) (by decide +kernel) (by decide +kernel) rfl) ?_
  refine hAllOk.c 311 (ok_istore_n (f := 3) rfl (by decide) (by decide +kernel) rfl) ?_
  refine hAllOk.c 312 (ok_iload_n (f := 3) rfl (by decide +kernel) rfl) ?_
  refine hAllOk.c 313 (ok_ifeq (off := 27) (by decide +kernel) (by decide +kernel) rfl) ?_
  refine hAllOk.c 314 (ok_no) ?_
  refine hAllOk.c 315 (ok_no) ?_
  refine hAllOk.c 316 (ok_aload_n (f := 1) rfl (by decide +kernel) rfl) ?_
  refine hAllOk.c 317 (ok_iconst (n := 0) (by decide +kernel) (by decide +kernel) rfl) ?_
  refine hAllOk.c 318 (ok_callV (idx := 9) ⟨wd_t_413, wd_t_1, by decide +kernel, by decide +kernel⟩ rfl rfl wd_t_410 wd_t_411 wd_t_412 (by decide +kernel) rfl) ?_
  refine hAllOk.c 319 (ok_no) ?_
  refine hAllOk.c 320 (ok_no) ?_
  refine hAllOk.c 321 (ok_iload (by decide +kernel) rfl) ?_
  refine hAllOk.c 322 (ok_no) ?_
  refine hAllOk.c 323 (ok_icne (off := 17) (by decide +kernel) (by decide +kernel) rfl) ?_
  refine hAllOk.c 324 (ok_no) ?_
  refine hAllOk.c 325 (ok_no) ?_
  refine hAllOk.c 326 (ok_aload_n (f := 1) rfl (by decide +kernel) rfl) ?_
  refine hAllOk.c 327 (ok_iconst (n := 0) (by decide +kernel) (by decide +kernel) rfl) ?_
  refine hAllOk.c 328 (ok_callV (idx := 19) ⟨wd_t_393, wd_t_1, by decide +kernel, by decide +kernel⟩ rfl rfl wd_t_390 wd_t_391 wd_t_392 (by decide +kernel) rfl) ?_
  refine hAllOk.c 329 (ok_no) ?_
  refine hAllOk.c 330 (ok_no) ?_
  refine hAllOk.c 331 (ok_iload (by decide +kernel) rfl) ?_
  refine hAllOk.c 332 (ok_no) ?_
  refine hAllOk.c 333 (ok_icne (off := 7) (by decide +kernel) (by decide +kernel) rfl) ?_
  refine hAllOk.c 334 (ok_no) ?_
  refine hAllOk.c 335 (ok_no) ?_
  refine hAllOk.c 336 (ok_iconst (n := 1) (by decide +kernel) (by decide +kernel) rfl) ?_
  refine hAllOk.c 337 (ok_goto (off := 4) (by decide +kernel) (by decide +kernel)) ?_
  refine hAllOk.c 338 (ok_no) ?_
  refine hAllOk.c 339 (ok_no) ?_
  refine hAllOk.c 340 (ok_iconst (n := 0) (by decide +kernel) (by decide +kernel) rfl) ?_
  refine hAllOk.c 341 (ok_ireturn (by decide +kernel)) ?_
  trivial
