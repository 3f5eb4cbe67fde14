theorem wd_t_429 : Cond.constant RL 7 (15565427) ∈ hTb := hTb_t (List.mem_of_getElem? (i := 429) (by decide +kernel)) (by decide +kernel)
theorem wd_t_430 : Cond.constant RL 8 (2147483647) ∈ hTb := hTb_t (List.mem_of_getElem? (i := 430) (by decide +kernel)) (by decide +kernel)
def M_La_cell : hM := (yL_cell, method_2_code, 2, (some .int), 0, 0)
def code_La_cell (K : hK) (B : Nat × Nat) (Q : hPost) : List hSem := [x_iload 1 1, x_aload 2 0, x_alen K 3, x_icge 12 6, x_no, x_no, x_aload 7 0, x_iload 8 1, x_iaload K 9, x_goto 20, x_no, x_no, x_const 14 (15565427), x_no, x_iload 15 1, x_imul 16, x_const 19 (1907), x_no, x_no, x_iadd 20, x_const 22 (2147483647), x_no, x_iand 23, x_ireturn (some .int) Q]
set_option maxRecDepth 100000 in
set_option maxHeartbeats 4000000 in
theorem okc_La_cell (K : hK) (B : Nat × Nat) (Q : hPost) : hAllOk (hJ K M_La_cell B Q) 0 (code_La_cell K B Q) := by
  refine hAllOk.c 0 (ok_iload_n (f := 1) rfl (by decide +kernel) rfl) ?_
  refine hAllOk.c 1 (ok_aload_n (f := 0) rfl (by decide +kernel) rfl) ?_
  refine hAllOk.c 2 (ok_alen (by decide +kernel) rfl) ?_
  refine hAllOk.c 3 (ok_icge (off := 9) (by decide +kernel) (by decide +kernel) rfl) ?_
  refine hAllOk.c 4 (ok_no) ?_
  refine hAllOk.c 5 (ok_no) ?_
  refine hAllOk.c 6 (ok_aload_n (f := 0) rfl (by decide +kernel) rfl) ?_
  refine hAllOk.c 7 (ok_iload_n (f := 1) rfl (by decide +kernel) rfl) ?_
  refine hAllOk.c 8 (ok_iaload (by decide +kernel) rfl) ?_
  refine hAllOk.c 9 (ok_goto (off := 11) (by decide +kernel) (by decide +kernel)) ?_
  refine hAllOk.c 10 (ok_no) ?_
  refine hAllOk.c 11 (ok_no) ?_
  refine hAllOk.c 12 (ok_ldc (i := 7) wd_t_429 (by decide +kernel) rfl) ?_
  refine hAllOk.c 13 (ok_no) ?_
  refine hAllOk.c 14 (ok_iload_n (f := 1) rfl (by decide +kernel) rfl) ?_
  refine hAllOk.c 15 (ok_imul (by decide +kernel) rfl) ?_
  refine hAllOk.c 16 (ok_sipush (n := 1907) (by decide +kernel) (by decide +kernel) rfl) ?_
  refine hAllOk.c 17 (ok_no) ?_
  refine hAllOk.c 18 (ok_no) ?_
  refine hAllOk.c 19 (ok_iadd (by decide +kernel) rfl) ?_
  refine hAllOk.c 20 (ok_ldc (i := 8) wd_t_430 (by decide +kernel) rfl) ?_
  refine hAllOk.c 21 (ok_no) ?_
  refine hAllOk.c 22 (ok_iand (by decide +kernel) rfl) ?_
  refine hAllOk.c 23 (ok_ireturn (by decide +kernel)) ?_
  trivial
def M_La_ones : hM := (yL_ones, method_3_code, 3, (some .int), 0, 0)
def code_La_ones (K : hK) (B : Nat × Nat) (Q : hPost) : List hSem := [x_const 1 (0), x_istore 2 1, x_const 3 (0), x_istore 4 2, x_iload 5 2, x_const 7 (12), x_no, x_icge 24 10, x_no, x_no, x_iload 11 1, x_iload 12 0, x_iload 13 2, x_ishr 14, x_const 15 (1), x_iand 16, x_iadd 17, x_istore 18 1, x_iinc 21 2 (1), x_no, x_no, x_goto 4, x_no, x_no, x_iload 25 1, x_ireturn (some .int) Q]
set_option maxRecDepth 100000 in
set_option maxHeartbeats 4000000 in
theorem okc_La_ones (K : hK) (B : Nat × Nat) (Q : hPost) : hAllOk (hJ K M_La_ones B Q) 0 (code_La_ones K B Q) := by
  refine hAllOk.c 0 (ok_iconst (n := 0) (by decide +kernel) (by decide +kernel) rfl) ?_
  refine hAllOk.c 1 (ok_istore_n (f := 1) rfl (by decide) (by decide +kernel) rfl) ?_
  refine hAllOk.c 2 (ok_iconst (n := 0) (by decide +kernel) (by decide +kernel) rfl) ?_
  refine hAllOk.c 3 (ok_istore_n (f := 2) rfl (by decide) (by decide +kernel) rfl) ?_
  refine hAllOk.c 4 (ok_iload_n (f := 2) rfl (by decide +kernel) rfl) ?_
  refine hAllOk.c 5 (ok_bipush (n := 12) (by decide +kernel) (by decide +kernel) rfl) ?_
  refine hAllOk.c 6 (ok_no) ?_
  refine hAllOk.c 7 (ok_icge (off := 17) (by decide +kernel) (by decide +kernel) rfl) ?_
  refine hAllOk.c 8 (ok_no) ?_
  refine hAllOk.c 9 (ok_no) ?_
  refine hAllOk.c 10 (ok_iload_n (f := 1) rfl (by decide +kernel) rfl) ?_
  refine hAllOk.c 11 (ok_iload_n (f := 0) rfl (by decide +kernel) rfl) ?_
  refine hAllOk.c 12 (ok_iload_n (f := 2) rfl (by decide +kernel) rfl) ?_
  refine hAllOk.c 13 (ok_ishr (by decide +kernel) rfl) ?_
  refine hAllOk.c 14 (ok_iconst (n := 1) (by decide +kernel) (by decide +kernel) rfl) ?_
  refine hAllOk.c 15 (ok_iand (by decide +kernel) rfl) ?_
  refine hAllOk.c 16 (ok_iadd (by decide +kernel) rfl) ?_
  refine hAllOk.c 17 (ok_istore_n (f := 1) rfl (by decide) (by decide +kernel) rfl) ?_
  refine hAllOk.c 18 (ok_iinc (n := 1) (by decide +kernel) (by decide) (by decide +kernel) rfl) ?_
  refine hAllOk.c 19 (ok_no) ?_
  refine hAllOk.c 20 (ok_no) ?_
  refine hAllOk.c 21 (ok_goto (off := (-17)) (by decide +kernel) (by decide +kernel)) ?_
  refine hAllOk.c 22 (ok_no) ?_
  refine hAllOk.c 23 (ok_no) ?_
  refine hAllOk.c 24 (ok_iload_n (f := 1) rfl (by decide +kernel) rfl) ?_
  refine hAllOk.c 25 (ok_ireturn (by decide +kernel)) ?_
  trivial
theorem wd_t_501 : Cond.methodLink RL 59 yX5_clearText ∈ hTb := hTb_t (List.mem_of_getElem? (i := 501) (by decide +kernel)) (by decide +kernel)
theorem wd_t_504 : Cond.code yX5_clearText prog_1_method_13_code 2 (some .int) ∈ hTb := hTb_t (List.mem_of_getElem? (i := 504) (by decide +kernel)) (by decide +kernel)
theorem wd_t_502 : Cond.instanceMethod yX5_clearText ∈ hTb := hTb_t (List.mem_of_getElem? (i := 502) (by decide +kernel)) (by decide +kernel)
theorem wd_t_503 : Cond.selects RX5 yX5_clearText yX5_clearText ∈ hTb := hTb_t (List.mem_of_getElem? (i := 503) (by decide +kernel)) (by decide +kernel)
theorem wd_t_505 : Cond.methodLink RL 62 yX5_type ∈ hTb := hTb_t (List.mem_of_getElem? (i := 505) (by decide +kernel)) (by decide +kernel)
theorem wd_t_508 : Cond.code yX5_type prog_1_method_12_code 2 (some .int) ∈ hTb := hTb_t (List.mem_of_getElem? (i := 508) (by decide +kernel)) (by decide +kernel)
theorem wd_t_506 : Cond.instanceMethod yX5_type ∈ hTb := hTb_t (List.mem_of_getElem? (i := 506) (by decide +kernel)) (by decide +kernel)
theorem wd_t_507 : Cond.selects RX5 yX5_type yX5_type ∈ hTb := hTb_t (List.mem_of_getElem? (i := 507) (by decide +kernel)) (by decide +kernel)
theorem wd_t_410 : Cond.methodLink RL 9 yX5_count ∈ hTb := hTb_t (List.mem_of_getElem? (i := 410) (by decide +kernel)) (by decide +kernel)
theorem wd_t_413 : Cond.code yX5_count prog_1_method_29_code 2 (some .int) ∈ hTb := hTb_t (List.mem_of_getElem? (i := 413) (by decide +kernel)) (by decide +kernel)
theorem wd_t_411 : Cond.instanceMethod yX5_count ∈ hTb := hTb_t (List.mem_of_getElem? (i := 411) (by decide +kernel)) (by decide +kernel)
theorem wd_t_412 : Cond.selects RX5 yX5_count yX5_count ∈ hTb := hTb_t (List.mem_of_getElem? (i := 412) (by decide +kernel)) (by decide +kernel)
theorem wd_t_448 : Cond.methodLink RL 15 yX5_guest ∈ hTb := hTb_t (List.mem_of_getElem? (i := 448) (by decide +kernel)) (by decide +kernel)
theorem wd_t_451 : Cond.code yX5_guest prog_1_method_17_code 4 (some .int) ∈ hTb := hTb_t (List.mem_of_getElem? (i := 451) (by decide +kernel)) (by decide +kernel)
theorem wd_t_449 : Cond.instanceMethod yX5_guest ∈ hTb := hTb_t (List.mem_of_getElem? (i := 449) (by decide +kernel)) (by decide +kernel)
theorem wd_t_450 : Cond.selects RX5 yX5_guest yX5_guest ∈ hTb := hTb_t (List.mem_of_getElem? (i := 450) (by decide +kernel)) (by decide +kernel)
theorem wd_t_509 : Cond.methodLink RL 66 yX5_setCondition ∈ hTb := hTb_t (List.mem_of_getElem? (i := 509) (by decide +kernel)) (by decide +kernel)
theorem wd_t_512 : Cond.code yX5_setCondition prog_1_method_3_code 4 (some .int) ∈ hTb := hTb_t (List.mem_of_getElem? (i := 512) (by decide +kernel)) (by decide +kernel)
theorem wd_t_510 : Cond.instanceMethod yX5_setCondition ∈ hTb := hTb_t (List.mem_of_getElem? (i := 510) (by decide +kernel)) (by decide +kernel)
theorem wd_t_511 : Cond.selects RX5 yX5_setCondition yX5_setCondition ∈ hTb := hTb_t (List.mem_of_getElem? (i := 511) (by decide +kernel)) (by decide +kernel)
theorem wd_t_445 : Cond.methodLink RL 25 yL_ones ∈ hTb := hTb_t (List.mem_of_getElem? (i := 445) (by decide +kernel)) (by decide +kernel)
theorem wd_t_447 : Cond.code yL_ones method_3_code 3 (some .int) ∈ hTb := hTb_t (List.mem_of_getElem? (i := 447) (by decide +kernel)) (by decide +kernel)
theorem wd_t_0 : Cond.initialized RL ∈ hTb := hTb_t (List.mem_of_getElem? (i := 0) (by decide +kernel)) (by decide +kernel)
theorem wd_t_446 : Cond.static yL_ones ∈ hTb := hTb_t (List.mem_of_getElem? (i := 446) (by decide +kernel)) (by decide +kernel)
def M_La_condition : hM := (yL_condition, method_7_code, 7, (some .boolean), 6, 129)
def code_La_condition (K : hK) (B : Nat × Nat) (Q : hPost) : List hSem := [x_aload 1 0, x_callV K 4 M_Pa_clearText 5 0, x_no, x_no, x_iflt 11 7, x_no, x_no, x_const 8 (1), x_goto 12, x_no, x_no, x_const 12 (0), x_istore 13 3, x_const 14 (0), x_istore 16 4, x_no, x_iload 18 4, x_no, x_const 19 (1), x_iload 20 2, x_const 21 (3), x_irem 22, x_iadd 23, x_icge 253 26, x_no, x_no, x_iload 27 3, x_ifeq 253 30, x_no, x_no, x_iload 31 2, x_const 32 (3), x_const 34 (7), x_no, x_iload 36 4, x_no, x_imul 37, x_iadd 38, x_ishr 39, x_istore 41 5, x_no, x_iload 43 5, x_no, x_const 44 (3), x_iand 45, x_istore 47 6, x_no, x_iload 49 4, x_no, x_ifeq 77 52, x_no, x_no, x_aload 53 0, x_iload 55 5, x_no, x_const 57 (6), x_no, x_ishr 58, x_const 59 (1), x_iand 60, x_const 61 (1), x_icne 69 64, x_no, x_no, x_const 66 (38), x_no, x_goto 71, x_no, x_no, x_const 71 (124), x_no, x_callV K 74 M_Pa_type 5 1, x_no, x_no, x_ifle 81 77, x_no, x_no, x_const 78 (1), x_goto 82, x_no, x_no, x_const 82 (0), x_istore 83 3, x_iload 85 6, x_no, x_const 86 (2), x_icge 123 89, x_no, x_no, x_iload 90 3, x_ifeq 118 93, x_no, x_no, x_aload 94 0, x_const 96 (97), x_no, x_iload 98 5, x_no, x_const 99 (2), x_ishr 100, x_aload 101 0, x_const 102 (1), x_callV K 105 M_Pa_count 5 1, x_no, x_no, x_irem 106, x_iadd 107, x_i2c 108, x_callV K 111 M_Pa_type 5 1, x_no, x_no, x_ifle 118 114, x_no, x_no, x_const 115 (1), x_goto 119, x_no, x_no, x_const 119 (0), x_istore 120 3, x_goto 247, x_no, x_no, x_iload 125 6, x_no, x_const 126 (2), x_icne 169 129, x_no, x_no, x_iload 130 3, x_ifeq 164 133, x_no, x_no, x_aload 134 0, x_const 136 (35), x_no, x_callV K 139 M_Pa_type 5 1, x_no, x_no, x_ifle 164 142, x_no, x_no, x_aload 143 0, x_const 145 (49), x_no, x_iload 147 5, x_no, x_const 148 (2), x_ishr 149, x_const 151 (6), x_no, x_irem 152, x_iadd 153, x_i2c 154, x_callV K 157 M_Pa_type 5 1, x_no, x_no, x_ifle 164 160, x_no, x_no, x_const 161 (1), x_goto 165, x_no, x_no, x_const 165 (0), x_istore 166 3, x_goto 247, x_no, x_no, x_iload 170 3, x_ifeq 245 173, x_no, x_no, x_aload 174 0, x_const 176 (49), x_no, x_iload 178 5, x_no, x_const 179 (2), x_ishr 180, x_const 181 (2), x_irem 182, x_iadd 183, x_i2c 184, x_callV K 187 M_Pa_type 5 1, x_no, x_no, x_ifle 245 190, x_no, x_no, x_aload 191 0, x_const 193 (58), x_no, x_callV K 196 M_Pa_type 5 1, x_no, x_no, x_ifle 245 199, x_no, x_no, x_aload 200 0, x_const 202 (97), x_no, x_iload 204 5, x_no, x_const 205 (3), x_ishr 206, x_aload 207 0, x_const 208 (1), x_callV K 211 M_Pa_count 5 1, x_no, x_no, x_irem 212, x_iadd 213, x_i2c 214, x_callV K 217 M_Pa_type 5 1, x_no, x_no, x_ifle 245 220, x_no, x_no, x_aload 221 0, x_const 223 (97), x_no, x_iload 225 5, x_no, x_const 226 (4), x_ishr 227, x_aload 228 0, x_const 229 (1), x_callV K 232 M_Pa_count 5 1, x_no, x_no, x_irem 233, x_iadd 234, x_i2c 235, x_callV K 238 M_Pa_type 5 1, x_no, x_no, x_ifle 245 241, x_no, x_no, x_const 242 (1), x_goto 246, x_no, x_no, x_const 246 (0), x_istore 247 3, x_iinc 250 4 (1), x_no, x_no, x_goto 16, x_no, x_no, x_aload 254 0, x_iload 255 1, x_const 256 (3), x_callV K 259 M_Pa_guest 5 2, x_no, x_no, x_istore 261 4, x_no, x_aload 262 0, x_const 263 (0), x_callV K 266 M_Pa_count 5 1, x_no, x_no, x_aload 267 0, x_const 269 (6), x_no, x_callV K 272 M_Pa_count 5 1, x_no, x_no, x_icle 284 275, x_no, x_no, x_aload 276 0, x_const 278 (7), x_no, x_callV K 281 M_Pa_count 5 1, x_no, x_no, x_goto 285, x_no, x_no, x_const 285 (0), x_istore 287 5, x_no, x_aload 288 0, x_iload 289 1, x_callV K 292 M_Pa_setCondition 5 1, x_no, x_no, x_istore 294 6, x_no, x_iload 295 3, x_ifeq 355 298, x_no, x_no, x_aload 299 0, x_const 301 (8), x_no, x_callV K 304 M_Pa_count 5 1, x_no, x_no, x_const 305 (1), x_icne 318 308, x_no, x_no, x_iload 310 6, x_no, x_const 312 (-4), x_no, x_icne 355 315, x_no, x_no, x_goto 351, x_no, x_no, x_iload 320 6, x_no, x_iflt 355 323, x_no, x_no, x_iload 325 6, x_no, x_aload 326 0, x_iload 327 1, x_const 328 (4), x_callV K 331 M_Pa_guest 5 2, x_no, x_no, x_callS K 334 M_La_ones 1, x_no, x_no, x_icne 355 337, x_no, x_no, x_aload 338 0, x_iload 339 1, x_const 340 (3), x_callV K 343 M_Pa_guest 5 2, x_no, x_no, x_iload 345 4, x_no, x_iload 347 5, x_no, x_iadd 348, x_icne 355 351, x_no, x_no, x_const 352 (1), x_goto 356, x_no, x_no, x_const 356 (0), x_ireturn (some .boolean) Q]
set_option maxRecDepth 100000 in
set_option maxHeartbeats 4000000 in
theorem okc_La_condition (K : hK) (B : Nat × Nat) (Q : hPost) : hAllOk (hJ K M_La_condition B Q) 0 (code_La_condition K B Q) := by
  refine hAllOk.c 0 (ok_aload_n (f := 0) rfl (by decide +kernel) rfl) ?_
  refine hAllOk.c 1 (ok_callV (idx := 59) ⟨wd_t_504, wd_t_1, by decide +kernel, by decide +kernel⟩ rfl rfl wd_t_501 wd_t_502 wd_t_503 (by decide +kernel) rfl) ?_
  refine hAllOk.c 2 (ok_no) ?_
  refine hAllOk.c 3 (ok_no) ?_
  refine hAllOk.c 4 (ok_iflt (off := 7) (by decide +kernel) (by decide +kernel) rfl) ?_
  refine hAllOk.c 5 (ok_no) ?_
  refine hAllOk.c 6 (ok_no) ?_
  refine hAllOk.c 7 (ok_iconst (n := 1) (by decide +kernel) (by decide +kernel) rfl) ?_
  refine hAllOk.c 8 (ok_goto (off := 4) (by decide +kernel) (by decide +kernel)) ?_
  refine hAllOk.c 9 (ok_no) ?_
  refine hAllOk.c 10 (ok_no) ?_
  refine hAllOk.c 11 (ok_iconst (n := 0) (by decide +kernel) (by decide +kernel) rfl) ?_
  refine hAllOk.c 12 (ok_istore_n (f := 3) rfl (by decide) (by decide +kernel) rfl) ?_
  refine hAllOk.c 13 (ok_iconst (n := 0) (by decide +kernel) (by decide +kernel) rfl) ?_
  refine hAllOk.c 14 (ok_istore (by decide) (by decide +kernel) rfl) ?_
  refine hAllOk.c 15 (ok_no) ?_
  refine hAllOk.c 16 (ok_iload (by decide +kernel) rfl) ?_
  refine hAllOk.c 17 (ok_no) ?_
  refine hAllOk.c 18 (ok_iconst (n := 1) (by decide +kernel) (by decide +kernel) rfl) ?_
  refine hAllOk.c 19 (ok_iload_n (f := 2) rfl (by decide +kernel) rfl) ?_
  refine hAllOk.c 20 (ok_iconst (n := 3) (by decide +kernel) (by decide +kernel) rfl) ?_
  refine hAllOk.c 21 (ok_irem (by decide +kernel) rfl) ?_
  refine hAllOk.c 22 (ok_iadd (by decide +kernel) rfl) ?_
  refine hAllOk.c 23 (ok_icge (off := 230) (by decide +kernel) (by decide +kernel) rfl) ?_
  refine hAllOk.c 24 (ok_no) ?_
  refine hAllOk.c 25 (ok_no) ?_
  refine hAllOk.c 26 (ok_iload_n (f := 3) rfl (by decide +kernel) rfl) ?_
  refine hAllOk.c 27 (ok_ifeq (off := 226) (by decide +kernel) (by decide +kernel) rfl) ?_
  refine hAllOk.c 28 (ok_no) ?_
  refine hAllOk.c 29 (ok_no) ?_
  refine hAllOk.c 30 (ok_iload_n (f := 2) rfl (by decide +kernel) rfl) ?_
  refine hAllOk.c 31 (ok_iconst (n := 3) (by decide +kernel) (by decide +kernel) rfl) ?_
  refine hAllOk.c 32 (ok_bipush (n := 7) (by decide +kernel) (by decide +kernel) rfl) ?_
  refine hAllOk.c 33 (ok_no) ?_
  refine hAllOk.c 34 (ok_iload (by decide +kernel) rfl) ?_
  refine hAllOk.c 35 (ok_no) ?_
  refine hAllOk.c 36 (ok_imul (by decide +kernel) rfl) ?_
  refine hAllOk.c 37 (ok_iadd (by decide +kernel) rfl) ?_
  refine hAllOk.c 38 (ok_ishr (by decide +kernel) rfl) ?_
  refine hAllOk.c 39 (ok_istore (by decide) (by decide +kernel) rfl) ?_
  refine hAllOk.c 40 (ok_no) ?_
  refine hAllOk.c 41 (ok_iload (by decide +kernel) rfl) ?_
  refine hAllOk.c 42 (ok_no) ?_
  refine hAllOk.c 43 (ok_iconst (n := 3) (by decide +kernel) (by decide +kernel) rfl) ?_
  refine hAllOk.c 44 (ok_iand (by decide +kernel) rfl) ?_
  refine hAllOk.c 45 (ok_istore (by decide) (by decide +kernel) rfl) ?_
  refine hAllOk.c 46 (ok_no) ?_
  refine hAllOk.c 47 (ok_iload (by decide +kernel) rfl) ?_
  refine hAllOk.c 48 (ok_no) ?_
  refine hAllOk.c 49 (ok_ifeq (off := 28) (by decide +kernel) (by decide +kernel) rfl) ?_
  refine hAllOk.c 50 (ok_no) ?_
  refine hAllOk.c 51 (ok_no) ?_
  refine hAllOk.c 52 (ok_aload_n (f := 0) rfl (by decide +kernel) rfl) ?_
  refine hAllOk.c 53 (ok_iload (by decide +kernel) rfl) ?_
  refine hAllOk.c 54 (ok_no) ?_
  refine hAllOk.c 55 (ok_bipush (n := 6) (by decide +kernel) (by decide +kernel) rfl) ?_
  refine hAllOk.c 56 (ok_no) ?_
  refine hAllOk.c 57 (ok_ishr (by decide +kernel) rfl) ?_
  refine hAllOk.c 58 (ok_iconst (n := 1) (by decide +kernel) (by decide +kernel) rfl) ?_
  refine hAllOk.c 59 (ok_iand (by decide +kernel) rfl) ?_
  refine hAllOk.c 60 (ok_iconst (n := 1) (by decide +kernel) (by decide +kernel) rfl) ?_
  refine hAllOk.c 61 (ok_icne (off := 8) (by decide +kernel) (by decide +kernel) rfl) ?_
  refine hAllOk.c 62 (ok_no) ?_
  refine hAllOk.c 63 (ok_no) ?_
  refine hAllOk.c 64 (ok_bipush (n := 38) (by decide +kernel) (by decide +kernel) rfl) ?_
  refine hAllOk.c 65 (ok_no) ?_
  refine hAllOk.c 66 (ok_goto (off := 5) (by decide +kernel) (by decide +kernel)) ?_
  refine hAllOk.c 67 (ok_no) ?_
  refine hAllOk.c 68 (ok_no) ?_
  refine hAllOk.c 69 (ok_bipush (n := 124) (by decide +kernel) (by decide +kernel) rfl) ?_
  refine hAllOk.c 70 (ok_no) ?_
  refine hAllOk.c 71 (ok_callV (idx := 62) ⟨wd_t_508, wd_t_1, by decide +kernel, by decide +kernel⟩ rfl rfl wd_t_505 wd_t_506 wd_t_507 (by decide +kernel) rfl) ?_
  refine hAllOk.c 72 (ok_no) ?_
  refine hAllOk.c 73 (ok_no) ?_
  refine hAllOk.c 74 (ok_ifle (off := 7) (by decide +kernel) (by decide +kernel) rfl) ?_
  refine hAllOk.c 75 (ok_no) ?_
  refine hAllOk.c 76 (ok_no) ?_
  refine hAllOk.c 77 (ok_iconst (n := 1) (by decide +kernel) (by decide +kernel) rfl) ?_
  refine hAllOk.c 78 (ok_goto (off := 4) (by decide +kernel) (by decide +kernel)) ?_
  refine hAllOk.c 79 (ok_no) ?_
  refine hAllOk.c 80 (ok_no) ?_
  refine hAllOk.c 81 (ok_iconst (n := 0) (by decide +kernel) (by decide +kernel) rfl) ?_
  refine hAllOk.c 82 (ok_istore_n (f := 3) rfl (by decide) (by decide +kernel) rfl) ?_
  refine hAllOk.c 83 (ok_iload (by decide +kernel) rfl) ?_
  refine hAllOk.c 84 (ok_no) ?_
  refine hAllOk.c 85 (ok_iconst (n := 2) (by decide +kernel) (by decide +kernel) rfl) ?_
  refine hAllOk.c 86 (ok_icge (off := 37) (by decide +kernel) (by decide +kernel) rfl) ?_
  refine hAllOk.c 87 (ok_no) ?_
  refine hAllOk.c 88 (ok_no) ?_
  refine hAllOk.c 89 (ok_iload_n (f := 3) rfl (by decide +kernel) rfl) ?_
  refine hAllOk.c 90 (ok_ifeq (off := 28) (by decide +kernel) (by decide +kernel) rfl) ?_
  refine hAllOk.c 91 (ok_no) ?_
  refine hAllOk.c 92 (ok_no) ?_
  refine hAllOk.c 93 (ok_aload_n (f := 0) rfl (by decide +kernel) rfl) ?_
  refine hAllOk.c 94 (ok_bipush (n := 97) (by decide +kernel) (by decide +kernel) rfl) ?_
  refine hAllOk.c 95 (ok_no) ?_
  refine hAllOk.c 96 (ok_iload (by decide +kernel) rfl) ?_
  refine hAllOk.c 97 (ok_no) ?_
  refine hAllOk.c 98 (ok_iconst (n := 2) (by decide +kernel) (by decide +kernel) rfl) ?_
  refine hAllOk.c 99 (ok_ishr (by decide +kernel) rfl) ?_
  refine hAllOk.c 100 (ok_aload_n (f := 0) rfl (by decide +kernel) rfl) ?_
  refine hAllOk.c 101 (ok_iconst (n := 1) (by decide +kernel) (by decide +kernel) rfl) ?_
  refine hAllOk.c 102 (ok_callV (idx := 9) ⟨wd_t_413, wd_t_1, by decide +kernel, by decide +kernel⟩ rfl rfl wd_t_410 wd_t_411 wd_t_412 (by decide +kernel) rfl) ?_
  refine hAllOk.c 103 (ok_no) ?_
  refine hAllOk.c 104 (ok_no) ?_
  refine hAllOk.c 105 (ok_irem (by decide +kernel) rfl) ?_
  refine hAllOk.c 106 (ok_iadd (by decide +kernel) rfl) ?_
  refine hAllOk.c 107 (ok_i2c (by decide +kernel) rfl) ?_
  refine hAllOk.c 108 (ok_callV (idx := 62) ⟨wd_t_508, wd_t_1, by decide +kernel, by decide +kernel⟩ rfl rfl wd_t_505 wd_t_506 wd_t_507 (by decide +kernel) rfl) ?_
  refine hAllOk.c 109 (ok_no) ?_
  refine hAllOk.c 110 (ok_no) ?_
  refine hAllOk.c 111 (ok_ifle (off := 7) (by decide +kernel) (by decide +kernel) rfl) ?_
  refine hAllOk.c 112 (ok_no) ?_
  refine hAllOk.c 113 (ok_no) ?_
  refine hAllOk.c 114 (ok_iconst (n := 1) (by decide +kernel) (by decide +kernel) rfl) ?_
  refine hAllOk.c 115 (ok_goto (off := 4) (by decide +kernel) (by decide +kernel)) ?_
  refine hAllOk.c 116 (ok_no) ?_
  refine hAllOk.c 117 (ok_no) ?_
  refine hAllOk.c 118 (ok_iconst (n := 0) (by decide +kernel) (by decide +kernel) rfl) ?_
  refine hAllOk.c 119 (ok_istore_n (f := 3) rfl (by decide) (by decide +kernel) rfl) ?_
  refine hAllOk.c 120 (ok_goto (off := 127) (by decide +kernel) (by decide +kernel)) ?_
  refine hAllOk.c 121 (ok_no) ?_
  refine hAllOk.c 122 (ok_no) ?_
  refine hAllOk.c 123 (ok_iload (by decide +kernel) rfl) ?_
  refine hAllOk.c 124 (ok_no) ?_
  refine hAllOk.c 125 (ok_iconst (n := 2) (by decide +kernel) (by decide +kernel) rfl) ?_
  refine hAllOk.c 126 (ok_icne (off := 43) (by decide +kernel) (by decide +kernel) rfl) ?_
  refine hAllOk.c 127 (ok_no) ?_
  refine hAllOk.c 128 (ok_no) ?_
  refine hAllOk.c 129 (ok_iload_n (f := 3) rfl (by decide +kernel) rfl) ?_
  refine hAllOk.c 130 (ok_ifeq (off := 34) (by decide +kernel) (by decide +kernel) rfl) ?_
  refine hAllOk.c 131 (ok_no) ?_
  refine hAllOk.c 132 (ok_no) ?_
  refine hAllOk.c 133 (ok_aload_n (f := 0) rfl (by decide +kernel) rfl) ?_
  refine hAllOk.c 134 (ok_bipush (n := 35) (by decide +kernel) (by decide +kernel) rfl) ?_
  refine hAllOk.c 135 (ok_no) ?_
  refine hAllOk.c 136 (ok_callV (idx := 62) ⟨wd_t_508, wd_t_1, by decide +kernel, by decide +kernel⟩ rfl rfl wd_t_505 wd_t_506 wd_t_507 (by decide +kernel) rfl) ?_
  refine hAllOk.c 137 (ok_no) ?_
  refine hAllOk.c 138 (ok_no) ?_
  refine hAllOk.c 139 (ok_ifle (off := 25) (by decide +kernel) (by decide +kernel) rfl) ?_
  refine hAllOk.c 140 (ok_no) ?_
  refine hAllOk.c 141 (ok_no) ?_
  refine hAllOk.c 142 (ok_aload_n (f := 0) rfl (by decide +kernel) rfl) ?_
  refine hAllOk.c 143 (ok_bipush (n := 49) (by decide +kernel) (by decide +kernel) rfl) ?_
  refine hAllOk.c 144 (ok_no) ?_
  refine hAllOk.c 145 (ok_iload (by decide +kernel) rfl) ?_
  refine hAllOk.c 146 (ok_no) ?_
  refine hAllOk.c 147 (ok_iconst (n := 2) (by decide +kernel) (by decide +kernel) rfl) ?_
  refine hAllOk.c 148 (ok_ishr (by decide +kernel) rfl) ?_
  refine hAllOk.c 149 (ok_bipush (n := 6) (by decide +kernel) (by decide +kernel) rfl) ?_
  refine hAllOk.c 150 (ok_no) ?_
  refine hAllOk.c 151 (ok_irem (by decide +kernel) rfl) ?_
  refine hAllOk.c 152 (ok_iadd (by decide +kernel) rfl) ?_
  refine hAllOk.c 153 (ok_i2c (by decide +kernel) rfl) ?_
  refine hAllOk.c 154 (ok_callV (idx := 62) ⟨wd_t_508, wd_t_1, by decide +kernel, by decide +kernel⟩ rfl rfl wd_t_505 wd_t_506 wd_t_507 (by decide +kernel) rfl) ?_
  refine hAllOk.c 155 (ok_no) ?_
  refine hAllOk.c 156 (ok_no) ?_
  refine hAllOk.c 157 (ok_ifle (off := 7) (by decide +kernel) (by decide +kernel) rfl) ?_
  refine hAllOk.c 158 (ok_no) ?_
  refine hAllOk.c 159 (ok_no) ?_
  refine hAllOk.c 160 (ok_iconst (n := 1) (by decide +kernel) (by decide +kernel) rfl) ?_
  refine hAllOk.c 161 (ok_goto (off := 4) (by decide +kernel) (by decide +kernel)) ?_
  refine hAllOk.c 162 (ok_no) ?_
  refine hAllOk.c 163 (ok_no) ?_
  refine hAllOk.c 164 (ok_iconst (n := 0) (by decide +kernel) (by decide +kernel) rfl) ?_
  refine hAllOk.c 165 (ok_istore_n (f := 3) rfl (by decide) (by decide +kernel) rfl) ?_
  refine hAllOk.c 166 (ok_goto (off := 81) (by decide +kernel) (by decide +kernel)) ?_
  refine hAllOk.c 167 (ok_no) ?_
  refine hAllOk.c 168 (ok_no) ?_
  refine hAllOk.c 169 (ok_iload_n (f := 3) rfl (by decide +kernel) rfl) ?_
  refine hAllOk.c 170 (ok_ifeq (off := 75) (by decide +kernel) (by decide +kernel) rfl) ?_
  refine hAllOk.c 171 (ok_no) ?_
  refine hAllOk.c 172 (ok_no) ?_
  refine hAllOk.c 173 (ok_aload_n (f := 0) rfl (by decide +kernel) rfl) ?_
  refine hAllOk.c 174 (ok_bipush (n := 49) (by decide +kernel) (by decide +kernel) rfl) ?_
  refine hAllOk.c 175 (ok_no) ?_
  refine hAllOk.c 176 (ok_iload (by decide +kernel) rfl) ?_
  refine hAllOk.c 177 (ok_no) ?_
  refine hAllOk.c 178 (ok_iconst (n := 2) (by decide +kernel) (by decide +kernel) rfl) ?_
  refine hAllOk.c 179 (ok_ishr (by decide +kernel) rfl) ?_
  refine hAllOk.c 180 (ok_iconst (n := 2) (by decide +kernel) (by decide +kernel) rfl) ?_
  refine hAllOk.c 181 (ok_irem (by decide +kernel) rfl) ?_
  refine hAllOk.c 182 (ok_iadd (by decide +kernel) rfl) ?_
  refine hAllOk.c 183 (ok_i2c (by decide +kernel) rfl) ?_
  refine hAllOk.c 184 (ok_callV (idx := 62) ⟨wd_t_508, wd_t_1, by decide +kernel, by decide +kernel⟩ rfl rfl wd_t_505 wd_t_506 wd_t_507 (by decide +kernel) rfl) ?_
  refine hAllOk.c 185 (ok_no) ?_
  refine hAllOk.c 186 (ok_no) ?_
  refine hAllOk.c 187 (ok_ifle (off := 58) (by decide +kernel) (by decide +kernel) rfl) ?_
  refine hAllOk.c 188 (ok_no) ?_
  refine hAllOk.c 189 (ok_no) ?_
  refine hAllOk.c 190 (ok_aload_n (f := 0) rfl (by decide +kernel) rfl) ?_
  refine hAllOk.c 191 (ok_bipush (n := 58) (by decide +kernel) (by decide +kernel) rfl) ?_
  refine hAllOk.c 192 (ok_no) ?_
  refine hAllOk.c 193 (ok_callV (idx := 62) ⟨wd_t_508, wd_t_1, by decide +kernel, by decide +kernel⟩ rfl rfl wd_t_505 wd_t_506 wd_t_507 (by decide +kernel) rfl) ?_
  refine hAllOk.c 194 (ok_no) ?_
  refine hAllOk.c 195 (ok_no) ?_
  refine hAllOk.c 196 (ok_ifle (off := 49) (by decide +kernel) (by decide +kernel) rfl) ?_
  refine hAllOk.c 197 (ok_no) ?_
  refine hAllOk.c 198 (ok_no) ?_
  refine hAllOk.c 199 (ok_aload_n (f := 0) rfl (by decide +kernel) rfl) ?_
  refine hAllOk.c 200 (ok_bipush (n := 97) (by decide +kernel) (by decide +kernel) rfl) ?_
  refine hAllOk.c 201 (ok_no) ?_
  refine hAllOk.c 202 (ok_iload (by decide +kernel) rfl) ?_
  refine hAllOk.c 203 (ok_no) ?_
  refine hAllOk.c 204 (ok_iconst (n := 3) (by decide +kernel) (by decide +kernel) rfl) ?_
  refine hAllOk.c 205 (ok_ishr (by decide +kernel) rfl) ?_
  refine hAllOk.c 206 (ok_aload_n (f := 0) rfl (by decide +kernel) rfl) ?_
  refine hAllOk.c 207 (ok_iconst (n := 1) (by decide +kernel) (by decide +kernel) rfl) ?_
  refine hAllOk.c 208 (ok_callV (idx := 9) ⟨wd_t_413, wd_t_1, by decide +kernel, by decide +kernel⟩ rfl rfl wd_t_410 wd_t_411 wd_t_412 (by decide +kernel) rfl) ?_
  refine hAllOk.c 209 (ok_no) ?_
  refine hAllOk.c 210 (ok_no) ?_
  refine hAllOk.c 211 (ok_irem (by decide +kernel) rfl) ?_
  refine hAllOk.c 212 (ok_iadd (by decide +kernel) rfl) ?_
  refine hAllOk.c 213 (ok_i2c (by decide +kernel) rfl) ?_
  refine hAllOk.c 214 (ok_callV (idx := 62) ⟨wd_t_508, wd_t_1, by decide +kernel, by decide +kernel⟩ rfl rfl wd_t_505 wd_t_506 wd_t_507 (by decide +kernel) rfl) ?_
  refine hAllOk.c 215 (ok_no) ?_
  refine hAllOk.c 216 (ok_no) ?_
  refine hAllOk.c 217 (ok_ifle (off := 28) (by decide +kernel) (by decide +kernel) rfl) ?_
  refine hAllOk.c 218 (ok_no) ?_
  refine hAllOk.c 219 (ok_no) ?_
  refine hAllOk.c 220 (ok_aload_n (f := 0) rfl (by decide +kernel) rfl) ?_
  refine hAllOk.c 221 (ok_bipush (n := 97) (by decide +kernel) (by decide +kernel) rfl) ?_
  refine hAllOk.c 222 (ok_no) ?_
  refine hAllOk.c 223 (ok_iload (by decide +kernel) rfl) ?_
  refine hAllOk.c 224 (ok_no) ?_
  refine hAllOk.c 225 (ok_iconst (n := 4) (by decide +kernel) (by decide +kernel) rfl) ?_
  refine hAllOk.c 226 (ok_ishr (by decide +kernel) rfl) ?_
  refine hAllOk.c 227 (ok_aload_n (f := 0) rfl (by decide +kernel) rfl) ?_
  refine hAllOk.c 228 (ok_iconst (n := 1) (by decide +kernel) (by decide +kernel) rfl) ?_
  refine hAllOk.c 229 (ok_callV (idx := 9) ⟨wd_t_413, wd_t_1, by decide +kernel, by decide +kernel⟩ rfl rfl wd_t_410 wd_t_411 wd_t_412 (by decide +kernel) rfl) ?_
  refine hAllOk.c 230 (ok_no) ?_
  refine hAllOk.c 231 (ok_no) ?_
  refine hAllOk.c 232 (ok_irem (by decide +kernel) rfl) ?_
  refine hAllOk.c 233 (ok_iadd (by decide +kernel) rfl) ?_
  refine hAllOk.c 234 (ok_i2c (by decide +kernel) rfl) ?_
  refine hAllOk.c 235 (ok_callV (idx := 62) ⟨wd_t_508, wd_t_1, by decide +kernel, by decide +kernel⟩ rfl rfl wd_t_505 wd_t_506 wd_t_507 (by decide +kernel) rfl) ?_
  refine hAllOk.c 236 (ok_no) ?_
  refine hAllOk.c 237 (ok_no) ?_
  refine hAllOk.c 238 (ok_ifle (off := 7) (by decide +kernel) (by decide +kernel) rfl) ?_
  refine hAllOk.c 239 (ok_no) ?_
  refine hAllOk.c 240 (ok_no) ?_
  refine hAllOk.c 241 (ok_iconst (n := 1) (by decide +kernel) (by decide +kernel) rfl) ?_
  refine hAllOk.c 242 (ok_goto (off := 4) (by decide +kernel) (by decide +kernel)) ?_
  refine hAllOk.c 243 (ok_no) ?_
  refine hAllOk.c 244 (ok_no) ?_
  refine hAllOk.c 245 (ok_iconst (n := 0) (by decide +kernel) (by decide +kernel) rfl) ?_
  refine hAllOk.c 246 (ok_istore_n (f := 3) rfl (by decide) (by decide +kernel) rfl) ?_
  refine hAllOk.c 247 (ok_iinc (n := 1) (by decide +kernel) (by decide) (by decide +kernel) rfl) ?_
  refine hAllOk.c 248 (ok_no) ?_
  refine hAllOk.c 249 (ok_no) ?_
  refine hAllOk.c 250 (ok_goto (off := (-234)) (by decide +kernel) (by decide +kernel)) ?_
  refine hAllOk.c 251 (ok_no) ?_
  refine hAllOk.c 252 (ok_no) ?_
  refine hAllOk.c 253 (ok_aload_n (f := 0) rfl (by decide +kernel) rfl) ?_
  refine hAllOk.c 254 (ok_iload_n (f := 1) rfl (by decide +kernel) rfl) ?_
  refine hAllOk.c 255 (ok_iconst (n := 3) (by decide +kernel) (by decide +kernel) rfl) ?_
  refine hAllOk.c 256 (ok_callV (idx := 15) ⟨wd_t_451, wd_t_1, by decide +kernel, by decide +kernel⟩ rfl rfl wd_t_448 wd_t_449 wd_t_450 (by decide +kernel) rfl) ?_
  refine hAllOk.c 257 (ok_no) ?_
  refine hAllOk.c 258 (ok_no) ?_
  refine hAllOk.c 259 (ok_istore (by decide) (by decide +kernel) rfl) ?_
  refine hAllOk.c 260 (ok_no) ?_
  refine hAllOk.c 261 (ok_aload_n (f := 0) rfl (by decide +kernel) rfl) ?_
  refine hAllOk.c 262 (ok_iconst (n := 0) (by decide +kernel) (by decide +kernel) rfl) ?_
  refine hAllOk.c 263 (ok_callV (idx := 9) ⟨wd_t_413, wd_t_1, by decide +kernel, by decide +kernel⟩ rfl rfl wd_t_410 wd_t_411 wd_t_412 (by decide +kernel) rfl) ?_
  refine hAllOk.c 264 (ok_no) ?_
  refine hAllOk.c 265 (ok_no) ?_
  refine hAllOk.c 266 (ok_aload_n (f := 0) rfl (by decide +kernel) rfl) ?_
  refine hAllOk.c 267 (ok_bipush (n := 6) (by decide +kernel) (by decide +kernel) rfl) ?_
  refine hAllOk.c 268 (ok_no) ?_
  refine hAllOk.c 269 (ok_callV (idx := 9) ⟨wd_t_413, wd_t_1, by decide +kernel, by decide +kernel⟩ rfl rfl wd_t_410 wd_t_411 wd_t_412 (by decide +kernel) rfl) ?_
  refine hAllOk.c 270 (ok_no) ?_
  refine hAllOk.c 271 (ok_no) ?_
  refine hAllOk.c 272 (ok_icle (off := 12) (by decide +kernel) (by decide +kernel) rfl) ?_
  refine hAllOk.c 273 (ok_no) ?_
  refine hAllOk.c 274 (ok_no) ?_
  refine hAllOk.c 275 (ok_aload_n (f := 0) rfl (by decide +kernel) rfl) ?_
  refine hAllOk.c 276 (ok_bipush (n := 7) (by decide +kernel) (by decide +kernel) rfl) ?_
  refine hAllOk.c 277 (ok_no) ?_
  refine hAllOk.c 278 (ok_callV (idx := 9) ⟨wd_t_413, wd_t_1, by decide +kernel, by decide +kernel⟩ rfl rfl wd_t_410 wd_t_411 wd_t_412 (by decide +kernel) rfl) ?_
  refine hAllOk.c 279 (ok_no) ?_
  refine hAllOk.c 280 (ok_no) ?_
  refine hAllOk.c 281 (ok_goto (off := 4) (by decide +kernel) (by decide +kernel)) ?_
  refine hAllOk.c 282 (ok_no) ?_
  refine hAllOk.c 283 (ok_no) ?_
  refine hAllOk.c 284 (ok_iconst (n := 0) (by decide +kernel) (by decide +kernel) rfl) ?_
  refine hAllOk.c 285 (ok_istore (by decide) (by decide +kernel) rfl) ?_
  refine hAllOk.c 286 (ok_no) ?_
  refine hAllOk.c 287 (ok_aload_n (f := 0) rfl (by decide +kernel) rfl) ?_
  refine hAllOk.c 288 (ok_iload_n (f := 1) rfl (by decide +kernel) rfl) ?_
  refine hAllOk.c 289 (ok_callV (idx := 66) ⟨wd_t_512, wd_t_1, by decide +kernel, by decide +kernel⟩ rfl rfl wd_t_509 wd_t_510 wd_t_511 (by decide +kernel) rfl) ?_
  refine hAllOk.c 290 (ok_no) ?_
  refine hAllOk.c 291 (ok_no) ?_
  refine hAllOk.c 292 (ok_istore (by decide) (by decide +kernel) rfl) ?_
  refine hAllOk.c 293 (ok_no) ?_
  refine hAllOk.c 294 (ok_iload_n (f := 3) rfl (by decide +kernel) rfl) ?_
  refine hAllOk.c 295 (ok_ifeq (off := 60) (by decide +kernel) (by decide +kernel) rfl) ?_
  refine hAllOk.c 296 (ok_no) ?_
  refine hAllOk.c 297 (ok_no) ?_
  refine hAllOk.c 298 (ok_aload_n (f := 0) rfl (by decide +kernel) rfl) ?_
  refine hAllOk.c 299 (ok_bipush (n := 8) (by decide +kernel) (by decide +kernel) rfl) ?_
  refine hAllOk.c 300 (ok_no) ?_
  refine hAllOk.c 301 (ok_callV (idx := 9) ⟨wd_t_413, wd_t_1, by decide +kernel, by decide +kernel⟩ rfl rfl wd_t_410 wd_t_411 wd_t_412 (by decide +kernel) rfl) ?_
  refine hAllOk.c 302 (ok_no) ?_
  refine hAllOk.c 303 (ok_no) ?_
  refine hAllOk.c 304 (ok_iconst (n := 1) (by decide +kernel) (by decide +kernel) rfl) ?_
  refine hAllOk.c 305 (ok_icne (off := 13) (by decide +kernel) (by decide +kernel) rfl) ?_
  refine hAllOk.c 306 (ok_no) ?_
  refine hAllOk.c 307 (ok_no) ?_
  refine hAllOk.c 308 (ok_iload (by decide +kernel) rfl) ?_
  refine hAllOk.c 309 (ok_no) ?_
  refine hAllOk.c 310 (ok_bipush (n := -4) (by decide +kernel) (by decide +kernel) rfl) ?_
  refine hAllOk.c 311 (ok_no) ?_
  refine hAllOk.c 312 (ok_icne (off := 43) (by decide +kernel) (by decide +kernel) rfl) ?_
  refine hAllOk.c 313 (ok_no) ?_
  refine hAllOk.c 314 (ok_no) ?_
  refine hAllOk.c 315 (ok_goto (off := 36) (by decide +kernel) (by decide +kernel)) ?_
  refine hAllOk.c 316 (ok_no) ?_
  refine hAllOk.c 317 (ok_no) ?_
  refine hAllOk.c 318 (ok_iload (by decide +kernel) rfl) ?_
  refine hAllOk.c 319 (ok_no) ?_
  refine hAllOk.c 320 (ok_iflt (off := 35) (by decide +kernel) (by decide +kernel) rfl) ?_
  refine hAllOk.c 321 (ok_no) ?_
  refine hAllOk.c 322 (ok_no) ?_
  refine hAllOk.c 323 (ok_iload (by decide +kernel) rfl) ?_
  refine hAllOk.c 324 (ok_no) ?_
  refine hAllOk.c 325 (ok_aload_n (f := 0) rfl (by decide +kernel) rfl) ?_
  refine hAllOk.c 326 (ok_iload_n (f := 1) rfl (by decide +kernel) rfl) ?_
  refine hAllOk.c 327 (ok_iconst (n := 4) (by decide +kernel) (by decide +kernel) rfl) ?_
  refine hAllOk.c 328 (ok_callV (idx := 15) ⟨wd_t_451, wd_t_1, by decide +kernel, by decide +kernel⟩ rfl rfl wd_t_448 wd_t_449 wd_t_450 (by decide +kernel) rfl) ?_
  refine hAllOk.c 329 (ok_no) ?_
  refine hAllOk.c 330 (ok_no) ?_
  refine hAllOk.c 331 (ok_callS (idx := 25) ⟨wd_t_447, wd_t_0, by decide +kernel, by decide +kernel⟩ wd_t_445 wd_t_446 (by decide +kernel) rfl) ?_
  refine hAllOk.c 332 (ok_no) ?_
  refine hAllOk.c 333 (ok_no) ?_
  refine hAllOk.c 334 (ok_icne (off := 21) (by decide +kernel) (by decide +kernel) rfl) ?_
  refine hAllOk.c 335 (ok_no) ?_
  refine hAllOk.c 336 (ok_no) ?_
  refine hAllOk.c 337 (ok_aload_n (f := 0) rfl (by decide +kernel) rfl) ?_
  refine hAllOk.c 338 (ok_iload_n (f := 1) rfl (by decide +kernel) rfl) ?_
  refine hAllOk.c 339 (ok_iconst (n := 3) (by decide +kernel) (by decide +kernel) rfl) ?_
  refine hAllOk.c 340 (ok_callV (idx := 15) ⟨wd_t_451, wd_t_1, by decide +kernel, by decide +kernel⟩ rfl rfl wd_t_448 wd_t_449 wd_t_450 (by decide +kernel) rfl) ?_
  refine hAllOk.c 341 (ok_no) ?_
  refine hAllOk.c 342 (ok_no) ?_
  refine hAllOk.c 343 (ok_iload (by decide +kernel) rfl) ?_
  refine hAllOk.c 344 (ok_no) ?_
  refine hAllOk.c 345 (ok_iload (by decide +kernel) rfl) ?_
  refine hAllOk.c 346 (ok_no) ?_
  refine hAllOk.c 347 (ok_iadd (by decide +kernel) rfl) ?_
  refine hAllOk.c 348 (ok_icne (off := 7) (by decide +kernel) (by decide +kernel) rfl) ?_
  refine hAllOk.c 349 (ok_no) ?_
  refine hAllOk.c 350 (ok_no) ?_
  refine hAllOk.c 351 (ok_iconst (n := 1) (by decide +kernel) (by decide +kernel) rfl) ?_
  refine hAllOk.c 352 (ok_goto (off := 4) (by decide +kernel) (by decide +kernel)) ?_
  refine hAllOk.c 353 (ok_no) ?_
  refine hAllOk.c 354 (ok_no) ?_
  refine hAllOk.c 355 (ok_iconst (n := 0) (by decide +kernel) (by decide +kernel) rfl) ?_
  refine hAllOk.c 356 (ok_ireturn (by decide +kernel)) ?_
  trivial
theorem wd_t_390 : Cond.methodLink RL 19 yX5_company ∈ hTb := hTb_t (List.mem_of_getElem? (i := 390) (by decide +kernel)) (by decide +kernel)
theorem wd_t_393 : Cond.code yX5_company prog_1_method_21_code 2 (some .int) ∈ hTb := hTb_t (List.mem_of_getElem? (i := 393) (by decide +kernel)) (by decide +kernel)
theorem wd_t_391 : Cond.instanceMethod yX5_company ∈ hTb := hTb_t (List.mem_of_getElem? (i := 391) (by decide +kernel)) (by decide +kernel)
theorem wd_t_392 : Cond.selects RX5 yX5_company yX5_company ∈ hTb := hTb_t (List.mem_of_getElem? (i := 392) (by decide +kernel)) (by decide +kernel)
theorem wd_t_498 : Cond.methodLink RL 69 yL_condition ∈ hTb := hTb_t (List.mem_of_getElem? (i := 498) (by decide +kernel)) (by decide +kernel)
theorem wd_t_500 : Cond.code yL_condition method_7_code 7 (some .boolean) ∈ hTb := hTb_t (List.mem_of_getElem? (i := 500) (by decide +kernel)) (by decide +kernel)
theorem wd_t_499 : Cond.static yL_condition ∈ hTb := hTb_t (List.mem_of_getElem? (i := 499) (by decide +kernel)) (by decide +kernel)
theorem wd_t_577 : Cond.methodLink RL 73 yX5_leastLimit ∈ hTb := hTb_t (List.mem_of_getElem? (i := 577) (by decide +kernel)) (by decide +kernel)
theorem wd_t_580 : Cond.code yX5_leastLimit prog_1_method_27_code 4 (some .int) ∈ hTb := hTb_t (List.mem_of_getElem? (i := 580) (by decide +kernel)) (by decide +kernel)
theorem wd_t_578 : Cond.instanceMethod yX5_leastLimit ∈ hTb := hTb_t (List.mem_of_getElem? (i := 578) (by decide +kernel)) (by decide +kernel)
theorem wd_t_579 : Cond.selects RX5 yX5_leastLimit yX5_leastLimit ∈ hTb := hTb_t (List.mem_of_getElem? (i := 579) (by decide +kernel)) (by decide +kernel)
theorem wd_t_581 : Cond.methodLink RL 76 yX5_setLimit ∈ hTb := hTb_t (List.mem_of_getElem? (i := 581) (by decide +kernel)) (by decide +kernel)
theorem wd_t_584 : Cond.code yX5_setLimit prog_1_method_4_code 5 (some .int) ∈ hTb := hTb_t (List.mem_of_getElem? (i := 584) (by decide +kernel)) (by decide +kernel)
theorem wd_t_582 : Cond.instanceMethod yX5_setLimit ∈ hTb := hTb_t (List.mem_of_getElem? (i := 582) (by decide +kernel)) (by decide +kernel)
theorem wd_t_583 : Cond.selects RX5 yX5_setLimit yX5_setLimit ∈ hTb := hTb_t (List.mem_of_getElem? (i := 583) (by decide +kernel)) (by decide +kernel)
theorem wd_t_585 : Cond.methodLink RL 79 yX5_invite ∈ hTb := hTb_t (List.mem_of_getElem? (i := 585) (by decide +kernel)) (by decide +kernel)
theorem wd_t_588 : Cond.code yX5_invite prog_1_method_6_code 4 (some .int) ∈ hTb := hTb_t (List.mem_of_getElem? (i := 588) (by decide +kernel)) (by decide +kernel)
theorem wd_t_586 : Cond.instanceMethod yX5_invite ∈ hTb := hTb_t (List.mem_of_getElem? (i := 586) (by decide +kernel)) (by decide +kernel)
theorem wd_t_587 : Cond.selects RX5 yX5_invite yX5_invite ∈ hTb := hTb_t (List.mem_of_getElem? (i := 587) (by decide +kernel)) (by decide +kernel)
theorem wd_t_274 : Cond.methodLink RL 83 yX5_pass ∈ hTb := hTb_t (List.mem_of_getElem? (i := 274) (by decide +kernel)) (by decide +kernel)
theorem wd_t_277 : Cond.code yX5_pass prog_1_method_8_code 2 (some .int) ∈ hTb := hTb_t (List.mem_of_getElem? (i := 277) (by decide +kernel)) (by decide +kernel)
theorem wd_t_275 : Cond.instanceMethod yX5_pass ∈ hTb := hTb_t (List.mem_of_getElem? (i := 275) (by decide +kernel)) (by decide +kernel)
theorem wd_t_276 : Cond.selects RX5 yX5_pass yX5_pass ∈ hTb := hTb_t (List.mem_of_getElem? (i := 276) (by decide +kernel)) (by decide +kernel)
theorem wd_t_266 : Cond.methodLink RL 86 yX5_set ∈ hTb := hTb_t (List.mem_of_getElem? (i := 266) (by decide +kernel)) (by decide +kernel)
theorem wd_t_269 : Cond.code yX5_set prog_1_method_7_code 4 (some .int) ∈ hTb := hTb_t (List.mem_of_getElem? (i := 269) (by decide +kernel)) (by decide +kernel)
theorem wd_t_267 : Cond.instanceMethod yX5_set ∈ hTb := hTb_t (List.mem_of_getElem? (i := 267) (by decide +kernel)) (by decide +kernel)
theorem wd_t_268 : Cond.selects RX5 yX5_set yX5_set ∈ hTb := hTb_t (List.mem_of_getElem? (i := 268) (by decide +kernel)) (by decide +kernel)
theorem wd_t_459 : Cond.methodLink RL 33 yX5_fee ∈ hTb := hTb_t (List.mem_of_getElem? (i := 459) (by decide +kernel)) (by decide +kernel)
theorem wd_t_462 : Cond.code yX5_fee prog_1_method_20_code 2 (some .int) ∈ hTb := hTb_t (List.mem_of_getElem? (i := 462) (by decide +kernel)) (by decide +kernel)
theorem wd_t_460 : Cond.instanceMethod yX5_fee ∈ hTb := hTb_t (List.mem_of_getElem? (i := 460) (by decide +kernel)) (by decide +kernel)
theorem wd_t_461 : Cond.selects RX5 yX5_fee yX5_fee ∈ hTb := hTb_t (List.mem_of_getElem? (i := 461) (by decide +kernel)) (by decide +kernel)
theorem wd_t_278 : Cond.methodLink RL 89 yX5_fix ∈ hTb := hTb_t (List.mem_of_getElem? (i := 278) (by decide +kernel)) (by decide +kernel)
theorem wd_t_281 : Cond.code yX5_fix prog_1_method_9_code 2 (some .int) ∈ hTb := hTb_t (List.mem_of_getElem? (i := 281) (by decide +kernel)) (by decide +kernel)
theorem wd_t_279 : Cond.instanceMethod yX5_fix ∈ hTb := hTb_t (List.mem_of_getElem? (i := 279) (by decide +kernel)) (by decide +kernel)
theorem wd_t_280 : Cond.selects RX5 yX5_fix yX5_fix ∈ hTb := hTb_t (List.mem_of_getElem? (i := 280) (by decide +kernel)) (by decide +kernel)
theorem wd_t_478 : Cond.methodLink RL 47 yX5_seat ∈ hTb := hTb_t (List.mem_of_getElem? (i := 478) (by decide +kernel)) (by decide +kernel)
theorem wd_t_481 : Cond.code yX5_seat prog_1_method_28_code 2 (some .int) ∈ hTb := hTb_t (List.mem_of_getElem? (i := 481) (by decide +kernel)) (by decide +kernel)
theorem wd_t_479 : Cond.instanceMethod yX5_seat ∈ hTb := hTb_t (List.mem_of_getElem? (i := 479) (by decide +kernel)) (by decide +kernel)
theorem wd_t_480 : Cond.selects RX5 yX5_seat yX5_seat ∈ hTb := hTb_t (List.mem_of_getElem? (i := 480) (by decide +kernel)) (by decide +kernel)
theorem wd_t_589 : Cond.methodLink RL 92 yX5_cancel ∈ hTb := hTb_t (List.mem_of_getElem? (i := 589) (by decide +kernel)) (by decide +kernel)
theorem wd_t_592 : Cond.code yX5_cancel prog_1_method_10_code 2 (some .int) ∈ hTb := hTb_t (List.mem_of_getElem? (i := 592) (by decide +kernel)) (by decide +kernel)
theorem wd_t_590 : Cond.instanceMethod yX5_cancel ∈ hTb := hTb_t (List.mem_of_getElem? (i := 590) (by decide +kernel)) (by decide +kernel)
theorem wd_t_591 : Cond.selects RX5 yX5_cancel yX5_cancel ∈ hTb := hTb_t (List.mem_of_getElem? (i := 591) (by decide +kernel)) (by decide +kernel)
theorem wd_t_605 : Cond.methodLink RL 95 yX5_setWeight ∈ hTb := hTb_t (List.mem_of_getElem? (i := 605) (by decide +kernel)) (by decide +kernel)
theorem wd_t_608 : Cond.code yX5_setWeight prog_1_method_5_code 5 (some .int) ∈ hTb := hTb_t (List.mem_of_getElem? (i := 608) (by decide +kernel)) (by decide +kernel)
theorem wd_t_606 : Cond.instanceMethod yX5_setWeight ∈ hTb := hTb_t (List.mem_of_getElem? (i := 606) (by decide +kernel)) (by decide +kernel)
theorem wd_t_607 : Cond.selects RX5 yX5_setWeight yX5_setWeight ∈ hTb := hTb_t (List.mem_of_getElem? (i := 607) (by decide +kernel)) (by decide +kernel)
theorem wd_t_609 : Cond.methodLink RL 98 yX5_dissolve ∈ hTb := hTb_t (List.mem_of_getElem? (i := 609) (by decide +kernel)) (by decide +kernel)
theorem wd_t_612 : Cond.code yX5_dissolve prog_1_method_11_code 1 (some .int) ∈ hTb := hTb_t (List.mem_of_getElem? (i := 612) (by decide +kernel)) (by decide +kernel)
theorem wd_t_610 : Cond.instanceMethod yX5_dissolve ∈ hTb := hTb_t (List.mem_of_getElem? (i := 610) (by decide +kernel)) (by decide +kernel)
theorem wd_t_611 : Cond.selects RX5 yX5_dissolve yX5_dissolve ∈ hTb := hTb_t (List.mem_of_getElem? (i := 611) (by decide +kernel)) (by decide +kernel)
def M_La_acts : hM := (yL_acts, method_8_code, 13, (some .boolean), 9, 204)
def code_La_acts (K : hK) (B : Nat × Nat) (Q : hPost) : List hSem := [x_iload 1 1, x_const 2 (3), x_ishr 3, x_istore 4 2, x_iload 5 2, x_aload 6 0, x_const 7 (1), x_callV K 10 M_Pa_count 5 1, x_no, x_no, x_irem 11, x_istore 12 3, x_aload 13 0, x_const 15 (8), x_no, x_callV K 18 M_Pa_count 5 1, x_no, x_no, x_const 19 (1), x_icne 26 22, x_no, x_no, x_const 23 (1), x_goto 27, x_no, x_no, x_const 27 (0), x_istore 29 4, x_no, x_aload 30 0, x_const 31 (3), x_callV K 34 M_Pa_company 5 1, x_no, x_no, x_istore 36 5, x_no, x_iload 37 1, x_const 39 (7), x_no, x_iand 40, x_tab 624 [(0, 84), (1, 84), (2, 93), (3, 192), (4, 304), (5, 380), (6, 532)], x_no, x_no, x_no, x_no, x_no, x_no, x_no, x_no, x_no, x_no, x_no, x_no, x_no, x_no, x_no, x_no, x_no, x_no, x_no, x_no, x_no, x_no, x_no, x_no, x_no, x_no, x_no, x_no, x_no, x_no, x_no, x_no, x_no, x_no, x_no, x_no, x_no, x_no, x_no, x_no, x_no, x_no, x_no, x_aload 85 0, x_iload 86 3, x_iload 87 2, x_const 88 (3), x_ishr 89, x_callS K 92 M_La_condition 3, x_no, x_no, x_ireturn (some .boolean) Q, x_aload 94 0, x_iload 95 3, x_const 96 (0), x_callV K 99 M_Pa_guest 5 2, x_no, x_no, x_istore 101 6, x_no, x_aload 102 0, x_iload 103 3, x_callV K 106 M_Pa_leastLimit 5 1, x_no, x_no, x_istore 108 7, x_no, x_iload 110 7, x_no, x_iflt 186 113, x_no, x_no, x_iload 115 4, x_no, x_ifne 186 118, x_no, x_no, x_aload 119 0, x_iload 120 3, x_iload 122 7, x_no, x_callV K 125 M_Pa_setLimit 5 2, x_no, x_no, x_const 127 (-4), x_no, x_iceq 190 130, x_no, x_no, x_aload 131 0, x_const 132 (0), x_callV K 135 M_Pa_company 5 1, x_no, x_no, x_iload 136 3, x_ishr 137, x_const 138 (1), x_iand 139, x_const 140 (1), x_icne 190 143, x_no, x_no, x_iload 145 7, x_no, x_ifeq 174 148, x_no, x_no, x_aload 149 0, x_iload 150 3, x_iload 152 7, x_no, x_const 153 (1), x_isub 154, x_callV K 157 M_Pa_setLimit 5 2, x_no, x_no, x_iload 159 7, x_no, x_icne 190 162, x_no, x_no, x_aload 163 0, x_const 164 (0), x_callV K 167 M_Pa_company 5 1, x_no, x_no, x_iload 168 3, x_ishr 169, x_const 170 (1), x_iand 171, x_ifne 190 174, x_no, x_no, x_aload 175 0, x_iload 176 3, x_iload 178 6, x_no, x_callV K 181 M_Pa_setLimit 5 2, x_no, x_no, x_const 183 (-5), x_no, x_iclt 190 186, x_no, x_no, x_const 187 (1), x_goto 191, x_no, x_no, x_const 191 (0), x_ireturn (some .boolean) Q, x_aload 193 0, x_iload 194 3, x_const 195 (2), x_callV K 198 M_Pa_guest 5 2, x_no, x_no, x_const 199 (1), x_icne 206 202, x_no, x_no, x_const 203 (1), x_goto 207, x_no, x_no, x_const 207 (0), x_istore 209 8, x_no, x_iload 211 4, x_no, x_ifeq 242 214, x_no, x_no, x_aload 215 0, x_iload 216 3, x_iload 218 8, x_no, x_ifne 225 221, x_no, x_no, x_const 222 (1), x_goto 226, x_no, x_no, x_const 226 (0), x_callV K 229 M_Pa_invite 5 2, x_no, x_no, x_const 231 (-4), x_no, x_icne 238 234, x_no, x_no, x_const 235 (1), x_goto 303, x_no, x_no, x_const 239 (0), x_goto 303, x_no, x_no, x_iload 243 2, x_const 244 (4), x_ishr 245, x_const 246 (3), x_iand 247, x_ifle 255 250, x_no, x_no, x_iload 252 8, x_no, x_ifne 298 255, x_no, x_no, x_aload 256 0, x_iload 257 3, x_iload 259 8, x_no, x_ifne 266 262, x_no, x_no, x_const 263 (1), x_goto 267, x_no, x_no, x_const 267 (0), x_callV K 270 M_Pa_invite 5 2, x_no, x_no, x_aload 271 0, x_const 272 (2), x_callV K 275 M_Pa_count 5 1, x_no, x_no, x_icne 302 278, x_no, x_no, x_aload 279 0, x_iload 280 3, x_iload 282 8, x_no, x_ifne 289 285, x_no, x_no, x_const 286 (1), x_goto 290, x_no, x_no, x_const 290 (0), x_callV K 293 M_Pa_invite 5 2, x_no, x_no, x_const 295 (-5), x_no, x_icne 302 298, x_no, x_no, x_const 299 (1), x_goto 303, x_no, x_no, x_const 303 (0), x_ireturn (some .boolean) Q, x_iload 306 4, x_no, x_ifne 315 309, x_no, x_no, x_iload 310 2, x_const 311 (1), x_iand 312, x_ifne 335 315, x_no, x_no, x_aload 316 0, x_const 317 (1), x_iload 318 2, x_const 319 (5), x_irem 320, x_iadd 321, x_callV K 324 M_Pa_pass 5 1, x_no, x_no, x_ifle 331 327, x_no, x_no, x_const 328 (1), x_goto 379, x_no, x_no, x_const 332 (0), x_goto 379, x_no, x_no, x_aload 336 0, x_const 337 (2), x_const 338 (1), x_iload 339 2, x_const 340 (2), x_ishr 341, x_const 343 (12), x_no, x_irem 344, x_iadd 345, x_callV K 348 M_Pa_set 5 2, x_no, x_no, x_const 350 (-5), x_no, x_iclt 378 353, x_no, x_no, x_aload 354 0, x_const 355 (0), x_const 358 (500), x_no, x_no, x_iload 359 2, x_const 360 (2), x_ishr 361, x_const 364 (9000), x_no, x_no, x_irem 365, x_iadd 366, x_callV K 369 M_Pa_set 5 2, x_no, x_no, x_const 371 (-5), x_no, x_iclt 378 374, x_no, x_no, x_const 375 (1), x_goto 379, x_no, x_no, x_const 379 (0), x_ireturn (some .boolean) Q, x_aload 381 0, x_const 382 (1), x_callV K 385 M_Pa_company 5 1, x_no, x_no, x_istore 387 9, x_no, x_iload 389 9, x_no, x_callS K 392 M_La_ones 1, x_no, x_no, x_ifne 399 395, x_no, x_no, x_const 396 (0), x_goto 414, x_no, x_no, x_iload 401 9, x_no, x_callS K 404 M_La_ones 1, x_no, x_no, x_aload 405 0, x_iload 407 9, x_no, x_callS K 410 M_La_ones 1, x_no, x_no, x_callV K 413 M_Pa_fee 5 1, x_no, x_no, x_imul 414, x_istore 416 10, x_no, x_const 417 (0), x_istore 419 11, x_no, x_iload 421 11, x_no, x_aload 422 0, x_const 423 (1), x_callV K 426 M_Pa_count 5 1, x_no, x_no, x_icge 455 429, x_no, x_no, x_iload 431 10, x_no, x_iload 433 9, x_no, x_iload 435 11, x_no, x_ishr 436, x_const 437 (1), x_iand 438, x_aload 439 0, x_iload 441 11, x_no, x_const 442 (3), x_callV K 445 M_Pa_guest 5 2, x_no, x_no, x_imul 446, x_iadd 447, x_istore 449 10, x_no, x_iinc 452 11 (1), x_no, x_no, x_goto 419, x_no, x_no, x_iload 457 4, x_no, x_ifeq 477 460, x_no, x_no, x_aload 461 0, x_callV K 464 M_Pa_fix 5 0, x_no, x_no, x_const 466 (-4), x_no, x_icne 473 469, x_no, x_no, x_const 470 (1), x_goto 531, x_no, x_no, x_const 474 (0), x_goto 531, x_no, x_no, x_iload 479 9, x_no, x_ifne 499 482, x_no, x_no, x_aload 483 0, x_callV K 486 M_Pa_fix 5 0, x_no, x_no, x_const 488 (-5), x_no, x_icne 495 491, x_no, x_no, x_const 492 (1), x_goto 531, x_no, x_no, x_const 496 (0), x_goto 531, x_no, x_no, x_aload 500 0, x_callV K 503 M_Pa_fix 5 0, x_no, x_no, x_iload 505 10, x_no, x_icne 530 508, x_no, x_no, x_aload 509 0, x_const 510 (3), x_callV K 513 M_Pa_company 5 1, x_no, x_no, x_iload 515 9, x_no, x_icne 530 518, x_no, x_no, x_aload 519 0, x_const 520 (0), x_callV K 523 M_Pa_seat 5 1, x_no, x_no, x_iflt 530 526, x_no, x_no, x_const 527 (1), x_goto 531, x_no, x_no, x_const 531 (0), x_ireturn (some .boolean) Q, x_iload 534 4, x_no, x_ifeq 551 537, x_no, x_no, x_iload 539 5, x_no, x_iload 540 3, x_ishr 541, x_const 542 (1), x_iand 543, x_const 544 (1), x_icne 551 547, x_no, x_no, x_const 548 (1), x_goto 552, x_no, x_no, x_const 552 (0), x_istore 554 11, x_no, x_aload 555 0, x_iload 556 3, x_callV K 559 M_Pa_cancel 5 1, x_no, x_no, x_istore 561 12, x_no, x_iload 563 11, x_no, x_ifeq 611 566, x_no, x_no, x_iload 568 12, x_no, x_const 569 (1), x_iclt 607 572, x_no, x_no, x_aload 573 0, x_const 574 (3), x_callV K 577 M_Pa_company 5 1, x_no, x_no, x_callS K 580 M_La_ones 1, x_no, x_no, x_iload 582 5, x_no, x_callS K 585 M_La_ones 1, x_no, x_no, x_iload 587 12, x_no, x_isub 588, x_icne 607 591, x_no, x_no, x_aload 592 0, x_iload 593 3, x_const 595 (7), x_no, x_callV K 598 M_Pa_guest 5 2, x_no, x_no, x_const 600 (-5), x_no, x_icne 607 603, x_no, x_no, x_const 604 (1), x_goto 623, x_no, x_no, x_const 608 (0), x_goto 623, x_no, x_no, x_iload 613 12, x_no, x_const 615 (-4), x_no, x_icne 622 618, x_no, x_no, x_const 619 (1), x_goto 623, x_no, x_no, x_const 623 (0), x_ireturn (some .boolean) Q, x_iload 625 2, x_const 626 (3), x_iand 627, x_ifle 656 630, x_no, x_no, x_aload 631 0, x_iload 632 3, x_const 633 (1), x_iload 634 2, x_const 635 (4), x_ishr 636, x_const 638 (9), x_no, x_irem 639, x_iadd 640, x_callV K 643 M_Pa_setWeight 5 2, x_no, x_no, x_const 645 (-2), x_no, x_iceq 652 648, x_no, x_no, x_const 649 (1), x_goto 705, x_no, x_no, x_const 653 (0), x_goto 705, x_no, x_no, x_iload 658 4, x_no, x_ifeq 691 661, x_no, x_no, x_aload 662 0, x_callV K 665 M_Pa_dissolve 5 0, x_no, x_no, x_iload 667 5, x_no, x_callS K 670 M_La_ones 1, x_no, x_no, x_icne 687 673, x_no, x_no, x_aload 674 0, x_const 675 (3), x_callV K 678 M_Pa_company 5 1, x_no, x_no, x_const 680 (-5), x_no, x_icne 687 683, x_no, x_no, x_const 684 (1), x_goto 705, x_no, x_no, x_const 688 (0), x_goto 705, x_no, x_no, x_aload 692 0, x_callV K 695 M_Pa_dissolve 5 0, x_no, x_no, x_const 697 (-4), x_no, x_icne 704 700, x_no, x_no, x_const 701 (1), x_goto 705, x_no, x_no, x_const 705 (0), x_ireturn (some .boolean) Q]
set_option maxRecDepth 100000 in
set_option maxHeartbeats 4000000 in
theorem okc_La_acts (K : hK) (B : Nat × Nat) (Q : hPost) : hAllOk (hJ K M_La_acts B Q) 0 (code_La_acts K B Q) := by
  refine hAllOk.c 0 (ok_iload_n (f := 1) rfl (by decide +kernel) rfl) ?_
  refine hAllOk.c 1 (ok_iconst (n := 3) (by decide +kernel) (by decide +kernel) rfl) ?_
  refine hAllOk.c 2 (ok_ishr (by decide +kernel) rfl) ?_
  refine hAllOk.c 3 (ok_istore_n (f := 2) rfl (by decide) (by decide +kernel) rfl) ?_
  refine hAllOk.c 4 (ok_iload_n (f := 2) rfl (by decide +kernel) rfl) ?_
  refine hAllOk.c 5 (ok_aload_n (f := 0) rfl (by decide +kernel) rfl) ?_
  refine hAllOk.c 6 (ok_iconst (n := 1) (by decide +kernel) (by decide +kernel) rfl) ?_
  refine hAllOk.c 7 (ok_callV (idx := 9) ⟨wd_t_413, wd_t_1, by decide +kernel, by decide +kernel⟩ rfl rfl wd_t_410 wd_t_411 wd_t_412 (by decide +kernel) rfl) ?_
  refine hAllOk.c 8 (ok_no) ?_
  refine hAllOk.c 9 (ok_no) ?_
  refine hAllOk.c 10 (ok_irem (by decide +kernel) rfl) ?_
  refine hAllOk.c 11 (ok_istore_n (f := 3) rfl (by decide) (by decide +kernel) rfl) ?_
  refine hAllOk.c 12 (ok_aload_n (f := 0) rfl (by decide +kernel) rfl) ?_
  refine hAllOk.c 13 (ok_bipush (n := 8) (by decide +kernel) (by decide +kernel) rfl) ?_
  refine hAllOk.c 14 (ok_no) ?_
  refine hAllOk.c 15 (ok_callV (idx := 9) ⟨wd_t_413, wd_t_1, by decide +kernel, by decide +kernel⟩ rfl rfl wd_t_410 wd_t_411 wd_t_412 (by decide +kernel) rfl) ?_
  refine hAllOk.c 16 (ok_no) ?_
  refine hAllOk.c 17 (ok_no) ?_
  refine hAllOk.c 18 (ok_iconst (n := 1) (by decide +kernel) (by decide +kernel) rfl) ?_
  refine hAllOk.c 19 (ok_icne (off := 7) (by decide +kernel) (by decide +kernel) rfl) ?_
  refine hAllOk.c 20 (ok_no) ?_
  refine hAllOk.c 21 (ok_no) ?_
  refine hAllOk.c 22 (ok_iconst (n := 1) (by decide +kernel) (by decide +kernel) rfl) ?_
  refine hAllOk.c 23 (ok_goto (off := 4) (by decide +kernel) (by decide +kernel)) ?_
  refine hAllOk.c 24 (ok_no) ?_
  refine hAllOk.c 25 (ok_no) ?_
  refine hAllOk.c 26 (ok_iconst (n := 0) (by decide +kernel) (by decide +kernel) rfl) ?_
  refine hAllOk.c 27 (ok_istore (by decide) (by decide +kernel) rfl) ?_
  refine hAllOk.c 28 (ok_no) ?_
  refine hAllOk.c 29 (ok_aload_n (f := 0) rfl (by decide +kernel) rfl) ?_
  refine hAllOk.c 30 (ok_iconst (n := 3) (by decide +kernel) (by decide +kernel) rfl) ?_
  refine hAllOk.c 31 (ok_callV (idx := 19) ⟨wd_t_393, wd_t_1, by decide +kernel, by decide +kernel⟩ rfl rfl wd_t_390 wd_t_391 wd_t_392 (by decide +kernel) rfl) ?_
  refine hAllOk.c 32 (ok_no) ?_
  refine hAllOk.c 33 (ok_no) ?_
  refine hAllOk.c 34 (ok_istore (by decide) (by decide +kernel) rfl) ?_
  refine hAllOk.c 35 (ok_no) ?_
  refine hAllOk.c 36 (ok_iload_n (f := 1) rfl (by decide +kernel) rfl) ?_
  refine hAllOk.c 37 (ok_bipush (n := 7) (by decide +kernel) (by decide +kernel) rfl) ?_
  refine hAllOk.c 38 (ok_no) ?_
  refine hAllOk.c 39 (ok_iand (by decide +kernel) rfl) ?_
  refine hAllOk.c 40 (ok_tab (dflt := 584) (lo := 0) (hi := 6) (offs := #[44, 44, 53, 152, 264, 340, 492]) (len := 44) (by decide +kernel) (by decide +kernel) (by decide +kernel) (by decide +kernel)) ?_
  refine hAllOk.c 41 (ok_no) ?_
  refine hAllOk.c 42 (ok_no) ?_
  refine hAllOk.c 43 (ok_no) ?_
  refine hAllOk.c 44 (ok_no) ?_
  refine hAllOk.c 45 (ok_no) ?_
  refine hAllOk.c 46 (ok_no) ?_
  refine hAllOk.c 47 (ok_no) ?_
  refine hAllOk.c 48 (ok_no) ?_
  refine hAllOk.c 49 (ok_no) ?_
  refine hAllOk.c 50 (ok_no) ?_
  refine hAllOk.c 51 (ok_no) ?_
  refine hAllOk.c 52 (ok_no) ?_
  refine hAllOk.c 53 (ok_no) ?_
  refine hAllOk.c 54 (ok_no) ?_
  refine hAllOk.c 55 (ok_no) ?_
  refine hAllOk.c 56 (ok_no) ?_
  refine hAllOk.c 57 (ok_no) ?_
  refine hAllOk.c 58 (ok_no) ?_
  refine hAllOk.c 59 (ok_no) ?_
  refine hAllOk.c 60 (ok_no) ?_
  refine hAllOk.c 61 (ok_no) ?_
  refine hAllOk.c 62 (ok_no) ?_
  refine hAllOk.c 63 (ok_no) ?_
  refine hAllOk.c 64 (ok_no) ?_
  refine hAllOk.c 65 (ok_no) ?_
  refine hAllOk.c 66 (ok_no) ?_
  refine hAllOk.c 67 (ok_no) ?_
  refine hAllOk.c 68 (ok_no) ?_
  refine hAllOk.c 69 (ok_no) ?_
  refine hAllOk.c 70 (ok_no) ?_
  refine hAllOk.c 71 (ok_no) ?_
  refine hAllOk.c 72 (ok_no) ?_
  refine hAllOk.c 73 (ok_no) ?_
  refine hAllOk.c 74 (ok_no) ?_
  refine hAllOk.c 75 (ok_no) ?_
  refine hAllOk.c 76 (ok_no) ?_
  refine hAllOk.c 77 (ok_no) ?_
  refine hAllOk.c 78 (ok_no) ?_
  refine hAllOk.c 79 (ok_no) ?_
  refine hAllOk.c 80 (ok_no) ?_
  refine hAllOk.c 81 (ok_no) ?_
  refine hAllOk.c 82 (ok_no) ?_
  refine hAllOk.c 83 (ok_no) ?_
  refine hAllOk.c 84 (ok_aload_n (f := 0) rfl (by decide +kernel) rfl) ?_
  refine hAllOk.c 85 (ok_iload_n (f := 3) rfl (by decide +kernel) rfl) ?_
  refine hAllOk.c 86 (ok_iload_n (f := 2) rfl (by decide +kernel) rfl) ?_
  refine hAllOk.c 87 (ok_iconst (n := 3) (by decide +kernel) (by decide +kernel) rfl) ?_
  refine hAllOk.c 88 (ok_ishr (by decide +kernel) rfl) ?_
  refine hAllOk.c 89 (ok_callS (idx := 69) ⟨wd_t_500, wd_t_0, by decide +kernel, by decide +kernel⟩ wd_t_498 wd_t_499 (by decide +kernel) rfl) ?_
  refine hAllOk.c 90 (ok_no) ?_
  refine hAllOk.c 91 (ok_no) ?_
  refine hAllOk.c 92 (ok_ireturn (by decide +kernel)) ?_
  refine hAllOk.c 93 (ok_aload_n (f := 0) rfl (by decide +kernel) rfl) ?_
  refine hAllOk.c 94 (ok_iload_n (f := 3) rfl (by decide +kernel) rfl) ?_
  refine hAllOk.c 95 (ok_iconst (n := 0) (by decide +kernel) (by decide +kernel) rfl) ?_
  refine hAllOk.c 96 (ok_callV (idx := 15) ⟨wd_t_451, wd_t_1, by decide +kernel, by decide +kernel⟩ rfl rfl wd_t_448 wd_t_449 wd_t_450 (by decide +kernel) rfl) ?_
  refine hAllOk.c 97 (ok_no) ?_
  refine hAllOk.c 98 (ok_no) ?_
  refine hAllOk.c 99 (ok_istore (by decide) (by decide +kernel) rfl) ?_
  refine hAllOk.c 100 (ok_no) ?_
  refine hAllOk.c 101 (ok_aload_n (f := 0) rfl (by decide +kernel) rfl) ?_
  refine hAllOk.c 102 (ok_iload_n (f := 3) rfl (by decide +kernel) rfl) ?_
  refine hAllOk.c 103 (ok_callV (idx := 73) ⟨wd_t_580, wd_t_1, by decide +kernel, by decide +kernel⟩ rfl rfl wd_t_577 wd_t_578 wd_t_579 (by decide +kernel) rfl) ?_
  refine hAllOk.c 104 (ok_no) ?_
  refine hAllOk.c 105 (ok_no) ?_
  refine hAllOk.c 106 (ok_istore (by decide) (by decide +kernel) rfl) ?_
  refine hAllOk.c 107 (ok_no) ?_
  refine hAllOk.c 108 (ok_iload (by decide +kernel) rfl) ?_
  refine hAllOk.c 109 (ok_no) ?_
  refine hAllOk.c 110 (ok_iflt (off := 76) (by decide +kernel) (by decide +kernel) rfl) ?_
  refine hAllOk.c 111 (ok_no) ?_
  refine hAllOk.c 112 (ok_no) ?_
  refine hAllOk.c 113 (ok_iload (by decide +kernel) rfl) ?_
  refine hAllOk.c 114 (ok_no) ?_
  refine hAllOk.c 115 (ok_ifne (off := 71) (by decide +kernel) (by decide +kernel) rfl) ?_
  refine hAllOk.c 116 (ok_no) ?_
  refine hAllOk.c 117 (ok_no) ?_
  refine hAllOk.c 118 (ok_aload_n (f := 0) rfl (by decide +kernel) rfl) ?_
  refine hAllOk.c 119 (ok_iload_n (f := 3) rfl (by decide +kernel) rfl) ?_
  refine hAllOk.c 120 (ok_iload (by decide +kernel) rfl) ?_
  refine hAllOk.c 121 (ok_no) ?_
  refine hAllOk.c 122 (ok_callV (idx := 76) ⟨wd_t_584, wd_t_1, by decide +kernel, by decide +kernel⟩ rfl rfl wd_t_581 wd_t_582 wd_t_583 (by decide +kernel) rfl) ?_
  refine hAllOk.c 123 (ok_no) ?_
  refine hAllOk.c 124 (ok_no) ?_
  refine hAllOk.c 125 (ok_bipush (n := -4) (by decide +kernel) (by decide +kernel) rfl) ?_
  refine hAllOk.c 126 (ok_no) ?_
  refine hAllOk.c 127 (ok_iceq (off := 63) (by decide +kernel) (by decide +kernel) rfl) ?_
  refine hAllOk.c 128 (ok_no) ?_
  refine hAllOk.c 129 (ok_no) ?_
  refine hAllOk.c 130 (ok_aload_n (f := 0) rfl (by decide +kernel) rfl) ?_
  refine hAllOk.c 131 (ok_iconst (n := 0) (by decide +kernel) (by decide +kernel) rfl) ?_
  refine hAllOk.c 132 (ok_callV (idx := 19) ⟨wd_t_393, wd_t_1, by decide +kernel, by decide +kernel⟩ rfl rfl wd_t_390 wd_t_391 wd_t_392 (by decide +kernel) rfl) ?_
  refine hAllOk.c 133 (ok_no) ?_
  refine hAllOk.c 134 (ok_no) ?_
  refine hAllOk.c 135 (ok_iload_n (f := 3) rfl (by decide +kernel) rfl) ?_
  refine hAllOk.c 136 (ok_ishr (by decide +kernel) rfl) ?_
  refine hAllOk.c 137 (ok_iconst (n := 1) (by decide +kernel) (by decide +kernel) rfl) ?_
  refine hAllOk.c 138 (ok_iand (by decide +kernel) rfl) ?_
  refine hAllOk.c 139 (ok_iconst (n := 1) (by decide +kernel) (by decide +kernel) rfl) ?_
  refine hAllOk.c 140 (ok_icne (off := 50) (by decide +kernel) (by decide +kernel) rfl) ?_
  refine hAllOk.c 141 (ok_no) ?_
  refine hAllOk.c 142 (ok_no) ?_
  refine hAllOk.c 143 (ok_iload (by decide +kernel) rfl) ?_
  refine hAllOk.c 144 (ok_no) ?_
  refine hAllOk.c 145 (ok_ifeq (off := 29) (by decide +kernel) (by decide +kernel) rfl) ?_
  refine hAllOk.c 146 (ok_no) ?_
  refine hAllOk.c 147 (ok_no) ?_
  refine hAllOk.c 148 (ok_aload_n (f := 0) rfl (by decide +kernel) rfl) ?_
  refine hAllOk.c 149 (ok_iload_n (f := 3) rfl (by decide +kernel) rfl) ?_
  refine hAllOk.c 150 (ok_iload (by decide +kernel) rfl) ?_
  refine hAllOk.c 151 (ok_no) ?_
  refine hAllOk.c 152 (ok_iconst (n := 1) (by decide +kernel) (by decide +kernel) rfl) ?_
  refine hAllOk.c 153 (ok_isub (by decide +kernel) rfl) ?_
  refine hAllOk.c 154 (ok_callV (idx := 76) ⟨wd_t_584, wd_t_1, by decide +kernel, by decide +kernel⟩ rfl rfl wd_t_581 wd_t_582 wd_t_583 (by decide +kernel) rfl) ?_
  refine hAllOk.c 155 (ok_no) ?_
  refine hAllOk.c 156 (ok_no) ?_
  refine hAllOk.c 157 (ok_iload (by decide +kernel) rfl) ?_
  refine hAllOk.c 158 (ok_no) ?_
  refine hAllOk.c 159 (ok_icne (off := 31) (by decide +kernel) (by decide +kernel) rfl) ?_
  refine hAllOk.c 160 (ok_no) ?_
  refine hAllOk.c 161 (ok_no) ?_
  refine hAllOk.c 162 (ok_aload_n (f := 0) rfl (by decide +kernel) rfl) ?_
  refine hAllOk.c 163 (ok_iconst (n := 0) (by decide +kernel) (by decide +kernel) rfl) ?_
  refine hAllOk.c 164 (ok_callV (idx := 19) ⟨wd_t_393, wd_t_1, by decide +kernel, by decide +kernel⟩ rfl rfl wd_t_390 wd_t_391 wd_t_392 (by decide +kernel) rfl) ?_
  refine hAllOk.c 165 (ok_no) ?_
  refine hAllOk.c 166 (ok_no) ?_
  refine hAllOk.c 167 (ok_iload_n (f := 3) rfl (by decide +kernel) rfl) ?_
  refine hAllOk.c 168 (ok_ishr (by decide +kernel) rfl) ?_
  refine hAllOk.c 169 (ok_iconst (n := 1) (by decide +kernel) (by decide +kernel) rfl) ?_
  refine hAllOk.c 170 (ok_iand (by decide +kernel) rfl) ?_
  refine hAllOk.c 171 (ok_ifne (off := 19) (by decide +kernel) (by decide +kernel) rfl) ?_
  refine hAllOk.c 172 (ok_no) ?_
  refine hAllOk.c 173 (ok_no) ?_
  refine hAllOk.c 174 (ok_aload_n (f := 0) rfl (by decide +kernel) rfl) ?_
  refine hAllOk.c 175 (ok_iload_n (f := 3) rfl (by decide +kernel) rfl) ?_
  refine hAllOk.c 176 (ok_iload (by decide +kernel) rfl) ?_
  refine hAllOk.c 177 (ok_no) ?_
  refine hAllOk.c 178 (ok_callV (idx := 76) ⟨wd_t_584, wd_t_1, by decide +kernel, by decide +kernel⟩ rfl rfl wd_t_581 wd_t_582 wd_t_583 (by decide +kernel) rfl) ?_
  refine hAllOk.c 179 (ok_no) ?_
  refine hAllOk.c 180 (ok_no) ?_
  refine hAllOk.c 181 (ok_bipush (n := -5) (by decide +kernel) (by decide +kernel) rfl) ?_
  refine hAllOk.c 182 (ok_no) ?_
  refine hAllOk.c 183 (ok_iclt (off := 7) (by decide +kernel) (by decide +kernel) rfl) ?_
  refine hAllOk.c 184 (ok_no) ?_
  refine hAllOk.c 185 (ok_no) ?_
  refine hAllOk.c 186 (ok_iconst (n := 1) (by decide +kernel) (by decide +kernel) rfl) ?_
  refine hAllOk.c 187 (ok_goto (off := 4) (by decide +kernel) (by decide +kernel)) ?_
  refine hAllOk.c 188 (ok_no) ?_
  refine hAllOk.c 189 (ok_no) ?_
  refine hAllOk.c 190 (ok_iconst (n := 0) (by decide +kernel) (by decide +kernel) rfl) ?_
  refine hAllOk.c 191 (ok_ireturn (by decide +kernel)) ?_
  refine hAllOk.c 192 (ok_aload_n (f := 0) rfl (by decide +kernel) rfl) ?_
  refine hAllOk.c 193 (ok_iload_n (f := 3) rfl (by decide +kernel) rfl) ?_
  refine hAllOk.c 194 (ok_iconst (n := 2) (by decide +kernel) (by decide +kernel) rfl) ?_
  refine hAllOk.c 195 (ok_callV (idx := 15) ⟨wd_t_451, wd_t_1, by decide +kernel, by decide +kernel⟩ rfl rfl wd_t_448 wd_t_449 wd_t_450 (by decide +kernel) rfl) ?_
  refine hAllOk.c 196 (ok_no) ?_
  refine hAllOk.c 197 (ok_no) ?_
  refine hAllOk.c 198 (ok_iconst (n := 1) (by decide +kernel) (by decide +kernel) rfl) ?_
  refine hAllOk.c 199 (ok_icne (off := 7) (by decide +kernel) (by decide +kernel) rfl) ?_
  refine hAllOk.c 200 (ok_no) ?_
  refine hAllOk.c 201 (ok_no) ?_
  refine hAllOk.c 202 (ok_iconst (n := 1) (by decide +kernel) (by decide +kernel) rfl) ?_
  refine hAllOk.c 203 (ok_goto (off := 4) (by decide +kernel) (by decide +kernel)) ?_
  refine hAllOk.c 204 (ok_no) ?_
  refine hAllOk.c 205 (ok_no) ?_
  refine hAllOk.c 206 (ok_iconst (n := 0) (by decide +kernel) (by decide +kernel) rfl) ?_
  refine hAllOk.c 207 (ok_istore (by decide) (by decide +kernel) rfl) ?_
  refine hAllOk.c 208 (ok_no) ?_
  refine hAllOk.c 209 (ok_iload (by decide +kernel) rfl) ?_
  refine hAllOk.c 210 (ok_no) ?_
  refine hAllOk.c 211 (ok_ifeq (off := 31) (by decide +kernel) (by decide +kernel) rfl) ?_
  refine hAllOk.c 212 (ok_no) ?_
  refine hAllOk.c 213 (ok_no) ?_
  refine hAllOk.c 214 (ok_aload_n (f := 0) rfl (by decide +kernel) rfl) ?_
  refine hAllOk.c 215 (ok_iload_n (f := 3) rfl (by decide +kernel) rfl) ?_
  refine hAllOk.c 216 (ok_iload (by decide +kernel) rfl) ?_
  refine hAllOk.c 217 (ok_no) ?_
  refine hAllOk.c 218 (ok_ifne (off := 7) (by decide +kernel) (by decide +kernel) rfl) ?_
  refine hAllOk.c 219 (ok_no) ?_
  refine hAllOk.c 220 (ok_no) ?_
  refine hAllOk.c 221 (ok_iconst (n := 1) (by decide +kernel) (by decide +kernel) rfl) ?_
  refine hAllOk.c 222 (ok_goto (off := 4) (by decide +kernel) (by decide +kernel)) ?_
  refine hAllOk.c 223 (ok_no) ?_
  refine hAllOk.c 224 (ok_no) ?_
  refine hAllOk.c 225 (ok_iconst (n := 0) (by decide +kernel) (by decide +kernel) rfl) ?_
  refine hAllOk.c 226 (ok_callV (idx := 79) ⟨wd_t_588, wd_t_1, by decide +kernel, by decide +kernel⟩ rfl rfl wd_t_585 wd_t_586 wd_t_587 (by decide +kernel) rfl) ?_
  refine hAllOk.c 227 (ok_no) ?_
  refine hAllOk.c 228 (ok_no) ?_
  refine hAllOk.c 229 (ok_bipush (n := -4) (by decide +kernel) (by decide +kernel) rfl) ?_
  refine hAllOk.c 230 (ok_no) ?_
  refine hAllOk.c 231 (ok_icne (off := 7) (by decide +kernel) (by decide +kernel) rfl) ?_
  refine hAllOk.c 232 (ok_no) ?_
  refine hAllOk.c 233 (ok_no) ?_
  refine hAllOk.c 234 (ok_iconst (n := 1) (by decide +kernel) (by decide +kernel) rfl) ?_
  refine hAllOk.c 235 (ok_goto (off := 68) (by decide +kernel) (by decide +kernel)) ?_
  refine hAllOk.c 236 (ok_no) ?_
  refine hAllOk.c 237 (ok_no) ?_
  refine hAllOk.c 238 (ok_iconst (n := 0) (by decide +kernel) (by decide +kernel) rfl) ?_
  refine hAllOk.c 239 (ok_goto (off := 64) (by decide +kernel) (by decide +kernel)) ?_
  refine hAllOk.c 240 (ok_no) ?_
  refine hAllOk.c 241 (ok_no) ?_
  refine hAllOk.c 242 (ok_iload_n (f := 2) rfl (by decide +kernel) rfl) ?_
  refine hAllOk.c 243 (ok_iconst (n := 4) (by decide +kernel) (by decide +kernel) rfl) ?_
  refine hAllOk.c 244 (ok_ishr (by decide +kernel) rfl) ?_
  refine hAllOk.c 245 (ok_iconst (n := 3) (by decide +kernel) (by decide +kernel) rfl) ?_
  refine hAllOk.c 246 (ok_iand (by decide +kernel) rfl) ?_
  refine hAllOk.c 247 (ok_ifle (off := 8) (by decide +kernel) (by decide +kernel) rfl) ?_
  refine hAllOk.c 248 (ok_no) ?_
  refine hAllOk.c 249 (ok_no) ?_
  refine hAllOk.c 250 (ok_iload (by decide +kernel) rfl) ?_
  refine hAllOk.c 251 (ok_no) ?_
  refine hAllOk.c 252 (ok_ifne (off := 46) (by decide +kernel) (by decide +kernel) rfl) ?_
  refine hAllOk.c 253 (ok_no) ?_
  refine hAllOk.c 254 (ok_no) ?_
  refine hAllOk.c 255 (ok_aload_n (f := 0) rfl (by decide +kernel) rfl) ?_
  refine hAllOk.c 256 (ok_iload_n (f := 3) rfl (by decide +kernel) rfl) ?_
  refine hAllOk.c 257 (ok_iload (by decide +kernel) rfl) ?_
  refine hAllOk.c 258 (ok_no) ?_
  refine hAllOk.c 259 (ok_ifne (off := 7) (by decide +kernel) (by decide +kernel) rfl) ?_
  refine hAllOk.c 260 (ok_no) ?_
  refine hAllOk.c 261 (ok_no) ?_
  refine hAllOk.c 262 (ok_iconst (n := 1) (by decide +kernel) (by decide +kernel) rfl) ?_
  refine hAllOk.c 263 (ok_goto (off := 4) (by decide +kernel) (by decide +kernel)) ?_
  refine hAllOk.c 264 (ok_no) ?_
  refine hAllOk.c 265 (ok_no) ?_
  refine hAllOk.c 266 (ok_iconst (n := 0) (by decide +kernel) (by decide +kernel) rfl) ?_
  refine hAllOk.c 267 (ok_callV (idx := 79) ⟨wd_t_588, wd_t_1, by decide +kernel, by decide +kernel⟩ rfl rfl wd_t_585 wd_t_586 wd_t_587 (by decide +kernel) rfl) ?_
  refine hAllOk.c 268 (ok_no) ?_
  refine hAllOk.c 269 (ok_no) ?_
  refine hAllOk.c 270 (ok_aload_n (f := 0) rfl (by decide +kernel) rfl) ?_
  refine hAllOk.c 271 (ok_iconst (n := 2) (by decide +kernel) (by decide +kernel) rfl) ?_
  refine hAllOk.c 272 (ok_callV (idx := 9) ⟨wd_t_413, wd_t_1, by decide +kernel, by decide +kernel⟩ rfl rfl wd_t_410 wd_t_411 wd_t_412 (by decide +kernel) rfl) ?_
  refine hAllOk.c 273 (ok_no) ?_
  refine hAllOk.c 274 (ok_no) ?_
  refine hAllOk.c 275 (ok_icne (off := 27) (by decide +kernel) (by decide +kernel) rfl) ?_
  refine hAllOk.c 276 (ok_no) ?_
  refine hAllOk.c 277 (ok_no) ?_
  refine hAllOk.c 278 (ok_aload_n (f := 0) rfl (by decide +kernel) rfl) ?_
  refine hAllOk.c 279 (ok_iload_n (f := 3) rfl (by decide +kernel) rfl) ?_
  refine hAllOk.c 280 (ok_iload (by decide +kernel) rfl) ?_
  refine hAllOk.c 281 (ok_no) ?_
  refine hAllOk.c 282 (ok_ifne (off := 7) (by decide +kernel) (by decide +kernel) rfl) ?_
  refine hAllOk.c 283 (ok_no) ?_
  refine hAllOk.c 284 (ok_no) ?_
  refine hAllOk.c 285 (ok_iconst (n := 1) (by decide +kernel) (by decide +kernel) rfl) ?_
  refine hAllOk.c 286 (ok_goto (off := 4) (by decide +kernel) (by decide +kernel)) ?_
  refine hAllOk.c 287 (ok_no) ?_
  refine hAllOk.c 288 (ok_no) ?_
  refine hAllOk.c 289 (ok_iconst (n := 0) (by decide +kernel) (by decide +kernel) rfl) ?_
  refine hAllOk.c 290 (ok_callV (idx := 79) ⟨wd_t_588, wd_t_1, by decide +kernel, by decide +kernel⟩ rfl rfl wd_t_585 wd_t_586 wd_t_587 (by decide +kernel) rfl) ?_
  refine hAllOk.c 291 (ok_no) ?_
  refine hAllOk.c 292 (ok_no) ?_
  refine hAllOk.c 293 (ok_bipush (n := -5) (by decide +kernel) (by decide +kernel) rfl) ?_
  refine hAllOk.c 294 (ok_no) ?_
  refine hAllOk.c 295 (ok_icne (off := 7) (by decide +kernel) (by decide +kernel) rfl) ?_
  refine hAllOk.c 296 (ok_no) ?_
  refine hAllOk.c 297 (ok_no) ?_
  refine hAllOk.c 298 (ok_iconst (n := 1) (by decide +kernel) (by decide +kernel) rfl) ?_
  refine hAllOk.c 299 (ok_goto (off := 4) (by decide +kernel) (by decide +kernel)) ?_
  refine hAllOk.c 300 (ok_no) ?_
  refine hAllOk.c 301 (ok_no) ?_
  refine hAllOk.c 302 (ok_iconst (n := 0) (by decide +kernel) (by decide +kernel) rfl) ?_
  refine hAllOk.c 303 (ok_ireturn (by decide +kernel)) ?_
  refine hAllOk.c 304 (ok_iload (by decide +kernel) rfl) ?_
  refine hAllOk.c 305 (ok_no) ?_
  refine hAllOk.c 306 (ok_ifne (off := 9) (by decide +kernel) (by decide +kernel) rfl) ?_
  refine hAllOk.c 307 (ok_no) ?_
  refine hAllOk.c 308 (ok_no) ?_
  refine hAllOk.c 309 (ok_iload_n (f := 2) rfl (by decide +kernel) rfl) ?_
  refine hAllOk.c 310 (ok_iconst (n := 1) (by decide +kernel) (by decide +kernel) rfl) ?_
  refine hAllOk.c 311 (ok_iand (by decide +kernel) rfl) ?_
  refine hAllOk.c 312 (ok_ifne (off := 23) (by decide +kernel) (by decide +kernel) rfl) ?_
  refine hAllOk.c 313 (ok_no) ?_
  refine hAllOk.c 314 (ok_no) ?_
  refine hAllOk.c 315 (ok_aload_n (f := 0) rfl (by decide +kernel) rfl) ?_
  refine hAllOk.c 316 (ok_iconst (n := 1) (by decide +kernel) (by decide +kernel) rfl) ?_
  refine hAllOk.c 317 (ok_iload_n (f := 2) rfl (by decide +kernel) rfl) ?_
  refine hAllOk.c 318 (ok_iconst (n := 5) (by decide +kernel) (by decide +kernel) rfl) ?_
  refine hAllOk.c 319 (ok_irem (by decide +kernel) rfl) ?_
  refine hAllOk.c 320 (ok_iadd (by decide +kernel) rfl) ?_
  refine hAllOk.c 321 (ok_callV (idx := 83) ⟨wd_t_277, wd_t_1, by decide +kernel, by decide +kernel⟩ rfl rfl wd_t_274 wd_t_275 wd_t_276 (by decide +kernel) rfl) ?_
  refine hAllOk.c 322 (ok_no) ?_
  refine hAllOk.c 323 (ok_no) ?_
  refine hAllOk.c 324 (ok_ifle (off := 7) (by decide +kernel) (by decide +kernel) rfl) ?_
  refine hAllOk.c 325 (ok_no) ?_
  refine hAllOk.c 326 (ok_no) ?_
  refine hAllOk.c 327 (ok_iconst (n := 1) (by decide +kernel) (by decide +kernel) rfl) ?_
  refine hAllOk.c 328 (ok_goto (off := 51) (by decide +kernel) (by decide +kernel)) ?_
  refine hAllOk.c 329 (ok_no) ?_
  refine hAllOk.c 330 (ok_no) ?_
  refine hAllOk.c 331 (ok_iconst (n := 0) (by decide +kernel) (by decide +kernel) rfl) ?_
  refine hAllOk.c 332 (ok_goto (off := 47) (by decide +kernel) (by decide +kernel)) ?_
  refine hAllOk.c 333 (ok_no) ?_
  refine hAllOk.c 334 (ok_no) ?_
  refine hAllOk.c 335 (ok_aload_n (f := 0) rfl (by decide +kernel) rfl) ?_
  refine hAllOk.c 336 (ok_iconst (n := 2) (by decide +kernel) (by decide +kernel) rfl) ?_
  refine hAllOk.c 337 (ok_iconst (n := 1) (by decide +kernel) (by decide +kernel) rfl) ?_
  refine hAllOk.c 338 (ok_iload_n (f := 2) rfl (by decide +kernel) rfl) ?_
  refine hAllOk.c 339 (ok_iconst (n := 2) (by decide +kernel) (by decide +kernel) rfl) ?_
  refine hAllOk.c 340 (ok_ishr (by decide +kernel) rfl) ?_
  refine hAllOk.c 341 (ok_bipush (n := 12) (by decide +kernel) (by decide +kernel) rfl) ?_
  refine hAllOk.c 342 (ok_no) ?_
  refine hAllOk.c 343 (ok_irem (by decide +kernel) rfl) ?_
  refine hAllOk.c 344 (ok_iadd (by decide +kernel) rfl) ?_
  refine hAllOk.c 345 (ok_callV (idx := 86) ⟨wd_t_269, wd_t_1, by decide +kernel, by decide +kernel⟩ rfl rfl wd_t_266 wd_t_267 wd_t_268 (by decide +kernel) rfl) ?_
  refine hAllOk.c 346 (ok_no) ?_
  refine hAllOk.c 347 (ok_no) ?_
  refine hAllOk.c 348 (ok_bipush (n := -5) (by decide +kernel) (by decide +kernel) rfl) ?_
  refine hAllOk.c 349 (ok_no) ?_
  refine hAllOk.c 350 (ok_iclt (off := 28) (by decide +kernel) (by decide +kernel) rfl) ?_
  refine hAllOk.c 351 (ok_no) ?_
  refine hAllOk.c 352 (ok_no) ?_
  refine hAllOk.c 353 (ok_aload_n (f := 0) rfl (by decide +kernel) rfl) ?_
  refine hAllOk.c 354 (ok_iconst (n := 0) (by decide +kernel) (by decide +kernel) rfl) ?_
  refine hAllOk.c 355 (ok_sipush (n := 500) (by decide +kernel) (by decide +kernel) rfl) ?_
  refine hAllOk.c 356 (ok_no) ?_
  refine hAllOk.c 357 (ok_no) ?_
  refine hAllOk.c 358 (ok_iload_n (f := 2) rfl (by decide +kernel) rfl) ?_
  refine hAllOk.c 359 (ok_iconst (n := 2) (by decide +kernel) (by decide +kernel) rfl) ?_
  refine hAllOk.c 360 (ok_ishr (by decide +kernel) rfl) ?_
  refine hAllOk.c 361 (ok_sipush (n := 9000) (by decide +kernel) (by decide +kernel) rfl) ?_
  refine hAllOk.c 362 (ok_no) ?_
  refine hAllOk.c 363 (ok_no) ?_
  refine hAllOk.c 364 (ok_irem (by decide +kernel) rfl) ?_
  refine hAllOk.c 365 (ok_iadd (by decide +kernel) rfl) ?_
  refine hAllOk.c 366 (ok_callV (idx := 86) ⟨wd_t_269, wd_t_1, by decide +kernel, by decide +kernel⟩ rfl rfl wd_t_266 wd_t_267 wd_t_268 (by decide +kernel) rfl) ?_
  refine hAllOk.c 367 (ok_no) ?_
  refine hAllOk.c 368 (ok_no) ?_
  refine hAllOk.c 369 (ok_bipush (n := -5) (by decide +kernel) (by decide +kernel) rfl) ?_
  refine hAllOk.c 370 (ok_no) ?_
  refine hAllOk.c 371 (ok_iclt (off := 7) (by decide +kernel) (by decide +kernel) rfl) ?_
  refine hAllOk.c 372 (ok_no) ?_
  refine hAllOk.c 373 (ok_no) ?_
  refine hAllOk.c 374 (ok_iconst (n := 1) (by decide +kernel) (by decide +kernel) rfl) ?_
  refine hAllOk.c 375 (ok_goto (off := 4) (by decide +kernel) (by decide +kernel)) ?_
  refine hAllOk.c 376 (ok_no) ?_
  refine hAllOk.c 377 (ok_no) ?_
  refine hAllOk.c 378 (ok_iconst (n := 0) (by decide +kernel) (by decide +kernel) rfl) ?_
  refine hAllOk.c 379 (ok_ireturn (by decide +kernel)) ?_
  refine hAllOk.c 380 (ok_aload_n (f := 0) rfl (by decide +kernel) rfl) ?_
  refine hAllOk.c 381 (ok_iconst (n := 1) (by decide +kernel) (by decide +kernel) rfl) ?_
  refine hAllOk.c 382 (ok_callV (idx := 19) ⟨wd_t_393, wd_t_1, by decide +kernel, by decide +kernel⟩ rfl rfl wd_t_390 wd_t_391 wd_t_392 (by decide +kernel) rfl) ?_
  refine hAllOk.c 383 (ok_no) ?_
  refine hAllOk.c 384 (ok_no) ?_
  refine hAllOk.c 385 (ok_istore (by decide) (by decide +kernel) rfl) ?_
  refine hAllOk.c 386 (ok_no) ?_
  refine hAllOk.c 387 (ok_iload (by decide +kernel) rfl) ?_
  refine hAllOk.c 388 (ok_no) ?_
  refine hAllOk.c 389 (ok_callS (idx := 25) ⟨wd_t_447, wd_t_0, by decide +kernel, by decide +kernel⟩ wd_t_445 wd_t_446 (by decide +kernel) rfl) ?_
  refine hAllOk.c 390 (ok_no) ?_
  refine hAllOk.c 391 (ok_no) ?_
  refine hAllOk.c 392 (ok_ifne (off := 7) (by decide +kernel) (by decide +kernel) rfl) ?_
  refine hAllOk.c 393 (ok_no) ?_
  refine hAllOk.c 394 (ok_no) ?_
  refine hAllOk.c 395 (ok_iconst (n := 0) (by decide +kernel) (by decide +kernel) rfl) ?_
  refine hAllOk.c 396 (ok_goto (off := 18) (by decide +kernel) (by decide +kernel)) ?_
  refine hAllOk.c 397 (ok_no) ?_
  refine hAllOk.c 398 (ok_no) ?_
  refine hAllOk.c 399 (ok_iload (by decide +kernel) rfl) ?_
  refine hAllOk.c 400 (ok_no) ?_
  refine hAllOk.c 401 (ok_callS (idx := 25) ⟨wd_t_447, wd_t_0, by decide +kernel, by decide +kernel⟩ wd_t_445 wd_t_446 (by decide +kernel) rfl) ?_
  refine hAllOk.c 402 (ok_no) ?_
  refine hAllOk.c 403 (ok_no) ?_
  refine hAllOk.c 404 (ok_aload_n (f := 0) rfl (by decide +kernel) rfl) ?_
  refine hAllOk.c 405 (ok_iload (by decide +kernel) rfl) ?_
  refine hAllOk.c 406 (ok_no) ?_
  refine hAllOk.c 407 (ok_callS (idx := 25) ⟨wd_t_447, wd_t_0, by decide +kernel, by decide +kernel⟩ wd_t_445 wd_t_446 (by decide +kernel) rfl) ?_
  refine hAllOk.c 408 (ok_no) ?_
  refine hAllOk.c 409 (ok_no) ?_
  refine hAllOk.c 410 (ok_callV (idx := 33) ⟨wd_t_462, wd_t_1, by decide +kernel, by decide +kernel⟩ rfl rfl wd_t_459 wd_t_460 wd_t_461 (by decide +kernel) rfl) ?_
  refine hAllOk.c 411 (ok_no) ?_
  refine hAllOk.c 412 (ok_no) ?_
  refine hAllOk.c 413 (ok_imul (by decide +kernel) rfl) ?_
  refine hAllOk.c 414 (ok_istore (by decide) (by decide +kernel) rfl) ?_
  refine hAllOk.c 415 (ok_no) ?_
  refine hAllOk.c 416 (ok_iconst (n := 0) (by decide +kernel) (by decide +kernel) rfl) ?_
  refine hAllOk.c 417 (ok_istore (by decide) (by decide +kernel) rfl) ?_
  refine hAllOk.c 418 (ok_no) ?_
  refine hAllOk.c 419 (ok_iload (by decide +kernel) rfl) ?_
  refine hAllOk.c 420 (ok_no) ?_
  refine hAllOk.c 421 (ok_aload_n (f := 0) rfl (by decide +kernel) rfl) ?_
  refine hAllOk.c 422 (ok_iconst (n := 1) (by decide +kernel) (by decide +kernel) rfl) ?_
  refine hAllOk.c 423 (ok_callV (idx := 9) ⟨wd_t_413, wd_t_1, by decide +kernel, by decide +kernel⟩ rfl rfl wd_t_410 wd_t_411 wd_t_412 (by decide +kernel) rfl) ?_
  refine hAllOk.c 424 (ok_no) ?_
  refine hAllOk.c 425 (ok_no) ?_
  refine hAllOk.c 426 (ok_icge (off := 29) (by decide +kernel) (by decide +kernel) rfl) ?_
  refine hAllOk.c 427 (ok_no) ?_
  refine hAllOk.c 428 (ok_no) ?_
  refine hAllOk.c 429 (ok_iload (by decide +kernel) rfl) ?_
  refine hAllOk.c 430 (ok_no) ?_
  refine hAllOk.c 431 (ok_iload (by decide +kernel) rfl) ?_
  refine hAllOk.c 432 (ok_no) ?_
  refine hAllOk.c 433 (ok_iload (by decide +kernel) rfl) ?_
  refine hAllOk.c 434 (ok_no) ?_
  refine hAllOk.c 435 (ok_ishr (by decide +kernel) rfl) ?_
  refine hAllOk.c 436 (ok_iconst (n := 1) (by decide +kernel) (by decide +kernel) rfl) ?_
  refine hAllOk.c 437 (ok_iand (by decide +kernel) rfl) ?_
  refine hAllOk.c 438 (ok_aload_n (f := 0) rfl (by decide +kernel) rfl) ?_
  refine hAllOk.c 439 (ok_iload (by decide +kernel) rfl) ?_
  refine hAllOk.c 440 (ok_no) ?_
  refine hAllOk.c 441 (ok_iconst (n := 3) (by decide +kernel) (by decide +kernel) rfl) ?_
  refine hAllOk.c 442 (ok_callV (idx := 15) ⟨wd_t_451, wd_t_1, by decide +kernel, by decide +kernel⟩ rfl rfl wd_t_448 wd_t_449 wd_t_450 (by decide +kernel) rfl) ?_
  refine hAllOk.c 443 (ok_no) ?_
  refine hAllOk.c 444 (ok_no) ?_
  refine hAllOk.c 445 (ok_imul (by decide +kernel) rfl) ?_
  refine hAllOk.c 446 (ok_iadd (by decide +kernel) rfl) ?_
  refine hAllOk.c 447 (ok_istore (by decide) (by decide +kernel) rfl) ?_
  refine hAllOk.c 448 (ok_no) ?_
  refine hAllOk.c 449 (ok_iinc (n := 1) (by decide +kernel) (by decide) (by decide +kernel) rfl) ?_
  refine hAllOk.c 450 (ok_no) ?_
  refine hAllOk.c 451 (ok_no) ?_
  refine hAllOk.c 452 (ok_goto (off := (-33)) (by decide +kernel) (by decide +kernel)) ?_
  refine hAllOk.c 453 (ok_no) ?_
  refine hAllOk.c 454 (ok_no) ?_
  refine hAllOk.c 455 (ok_iload (by decide +kernel) rfl) ?_
  refine hAllOk.c 456 (ok_no) ?_
  refine hAllOk.c 457 (ok_ifeq (off := 20) (by decide +kernel) (by decide +kernel) rfl) ?_
  refine hAllOk.c 458 (ok_no) ?_
  refine hAllOk.c 459 (ok_no) ?_
  refine hAllOk.c 460 (ok_aload_n (f := 0) rfl (by decide +kernel) rfl) ?_
  refine hAllOk.c 461 (ok_callV (idx := 89) ⟨wd_t_281, wd_t_1, by decide +kernel, by decide +kernel⟩ rfl rfl wd_t_278 wd_t_279 wd_t_280 (by decide +kernel) rfl) ?_
  refine hAllOk.c 462 (ok_no) ?_
  refine hAllOk.c 463 (ok_no) ?_
  refine hAllOk.c 464 (ok_bipush (n := -4) (by decide +kernel) (by decide +kernel) rfl) ?_
  refine hAllOk.c 465 (ok_no) ?_
  refine hAllOk.c 466 (ok_icne (off := 7) (by decide +kernel) (by decide +kernel) rfl) ?_
  refine hAllOk.c 467 (ok_no) ?_
  refine hAllOk.c 468 (ok_no) ?_
  refine hAllOk.c 469 (ok_iconst (n := 1) (by decide +kernel) (by decide +kernel) rfl) ?_
  refine hAllOk.c 470 (ok_goto (off := 61) (by decide +kernel) (by decide +kernel)) ?_
  refine hAllOk.c 471 (ok_no) ?_
  refine hAllOk.c 472 (ok_no) ?_
  refine hAllOk.c 473 (ok_iconst (n := 0) (by decide +kernel) (by decide +kernel) rfl) ?_
  refine hAllOk.c 474 (ok_goto (off := 57) (by decide +kernel) (by decide +kernel)) ?_
  refine hAllOk.c 475 (ok_no) ?_
  refine hAllOk.c 476 (ok_no) ?_
  refine hAllOk.c 477 (ok_iload (by decide +kernel) rfl) ?_
  refine hAllOk.c 478 (ok_no) ?_
  refine hAllOk.c 479 (ok_ifne (off := 20) (by decide +kernel) (by decide +kernel) rfl) ?_
  refine hAllOk.c 480 (ok_no) ?_
  refine hAllOk.c 481 (ok_no) ?_
  refine hAllOk.c 482 (ok_aload_n (f := 0) rfl (by decide +kernel) rfl) ?_
  refine hAllOk.c 483 (ok_callV (idx := 89) ⟨wd_t_281, wd_t_1, by decide +kernel, by decide +kernel⟩ rfl rfl wd_t_278 wd_t_279 wd_t_280 (by decide +kernel) rfl) ?_
  refine hAllOk.c 484 (ok_no) ?_
  refine hAllOk.c 485 (ok_no) ?_
  refine hAllOk.c 486 (ok_bipush (n := -5) (by decide +kernel) (by decide +kernel) rfl) ?_
  refine hAllOk.c 487 (ok_no) ?_
  refine hAllOk.c 488 (ok_icne (off := 7) (by decide +kernel) (by decide +kernel) rfl) ?_
  refine hAllOk.c 489 (ok_no) ?_
  refine hAllOk.c 490 (ok_no) ?_
  refine hAllOk.c 491 (ok_iconst (n := 1) (by decide +kernel) (by decide +kernel) rfl) ?_
  refine hAllOk.c 492 (ok_goto (off := 39) (by decide +kernel) (by decide +kernel)) ?_
  refine hAllOk.c 493 (ok_no) ?_
  refine hAllOk.c 494 (ok_no) ?_
  refine hAllOk.c 495 (ok_iconst (n := 0) (by decide +kernel) (by decide +kernel) rfl) ?_
  refine hAllOk.c 496 (ok_goto (off := 35) (by decide +kernel) (by decide +kernel)) ?_
  refine hAllOk.c 497 (ok_no) ?_
  refine hAllOk.c 498 (ok_no) ?_
  refine hAllOk.c 499 (ok_aload_n (f := 0) rfl (by decide +kernel) rfl) ?_
  refine hAllOk.c 500 (ok_callV (idx := 89) ⟨wd_t_281, wd_t_1, by decide +kernel, by decide +kernel⟩ rfl rfl wd_t_278 wd_t_279 wd_t_280 (by decide +kernel) rfl) ?_
  refine hAllOk.c 501 (ok_no) ?_
  refine hAllOk.c 502 (ok_no) ?_
  refine hAllOk.c 503 (ok_iload (by decide +kernel) rfl) ?_
  refine hAllOk.c 504 (ok_no) ?_
  refine hAllOk.c 505 (ok_icne (off := 25) (by decide +kernel) (by decide +kernel) rfl) ?_
  refine hAllOk.c 506 (ok_no) ?_
  refine hAllOk.c 507 (ok_no) ?_
  refine hAllOk.c 508 (ok_aload_n (f := 0) rfl (by decide +kernel) rfl) ?_
  refine hAllOk.c 509 (ok_iconst (n := 3) (by decide +kernel) (by decide +kernel) rfl) ?_
  refine hAllOk.c 510 (ok_callV (idx := 19) ⟨wd_t_393, wd_t_1, by decide +kernel, by decide +kernel⟩ rfl rfl wd_t_390 wd_t_391 wd_t_392 (by decide +kernel) rfl) ?_
  refine hAllOk.c 511 (ok_no) ?_
  refine hAllOk.c 512 (ok_no) ?_
  refine hAllOk.c 513 (ok_iload (by decide +kernel) rfl) ?_
  refine hAllOk.c 514 (ok_no) ?_
  refine hAllOk.c 515 (ok_icne (off := 15) (by decide +kernel) (by decide +kernel) rfl) ?_
  refine hAllOk.c 516 (ok_no) ?_
  refine hAllOk.c 517 (ok_no) ?_
  refine hAllOk.c 518 (ok_aload_n (f := 0) rfl (by decide +kernel) rfl) ?_
  refine hAllOk.c 519 (ok_iconst (n := 0) (by decide +kernel) (by decide +kernel) rfl) ?_
  refine hAllOk.c 520 (ok_callV (idx := 47) ⟨wd_t_481, wd_t_1, by decide +kernel, by decide +kernel⟩ rfl rfl wd_t_478 wd_t_479 wd_t_480 (by decide +kernel) rfl) ?_
  refine hAllOk.c 521 (ok_no) ?_
  refine hAllOk.c 522 (ok_no) ?_
  refine hAllOk.c 523 (ok_iflt (off := 7) (by decide +kernel) (by decide +kernel) rfl) ?_
  refine hAllOk.c 524 (ok_no) ?_
  refine hAllOk.c 525 (ok_no) ?_
  refine hAllOk.c 526 (ok_iconst (n := 1) (by decide +kernel) (by decide +kernel) rfl) ?_
  refine hAllOk.c 527 (ok_goto (off := 4) (by decide +kernel) (by decide +kernel)) ?_
  refine hAllOk.c 528 (ok_no) ?_
  refine hAllOk.c 529 (ok_no) ?_
  refine hAllOk.c 530 (ok_iconst (n := 0) (by decide +kernel) (by decide +kernel) rfl) ?_
  refine hAllOk.c 531 (ok_ireturn (by decide +kernel)) ?_
  refine hAllOk.c 532 (ok_iload (by decide +kernel) rfl) ?_
  refine hAllOk.c 533 (ok_no) ?_
  refine hAllOk.c 534 (ok_ifeq (off := 17) (by decide +kernel) (by decide +kernel) rfl) ?_
  refine hAllOk.c 535 (ok_no) ?_
  refine hAllOk.c 536 (ok_no) ?_
  refine hAllOk.c 537 (ok_iload (by decide +kernel) rfl) ?_
  refine hAllOk.c 538 (ok_no) ?_
  refine hAllOk.c 539 (ok_iload_n (f := 3) rfl (by decide +kernel) rfl) ?_
  refine hAllOk.c 540 (ok_ishr (by decide +kernel) rfl) ?_
  refine hAllOk.c 541 (ok_iconst (n := 1) (by decide +kernel) (by decide +kernel) rfl) ?_
  refine hAllOk.c 542 (ok_iand (by decide +kernel) rfl) ?_
  refine hAllOk.c 543 (ok_iconst (n := 1) (by decide +kernel) (by decide +kernel) rfl) ?_
  refine hAllOk.c 544 (ok_icne (off := 7) (by decide +kernel) (by decide +kernel) rfl) ?_
  refine hAllOk.c 545 (ok_no) ?_
  refine hAllOk.c 546 (ok_no) ?_
  refine hAllOk.c 547 (ok_iconst (n := 1) (by decide +kernel) (by decide +kernel) rfl) ?_
  refine hAllOk.c 548 (ok_goto (off := 4) (by decide +kernel) (by decide +kernel)) ?_
  refine hAllOk.c 549 (ok_no) ?_
  refine hAllOk.c 550 (ok_no) ?_
  refine hAllOk.c 551 (ok_iconst (n := 0) (by decide +kernel) (by decide +kernel) rfl) ?_
  refine hAllOk.c 552 (ok_istore (by decide) (by decide +kernel) rfl) ?_
  refine hAllOk.c 553 (ok_no) ?_
  refine hAllOk.c 554 (ok_aload_n (f := 0) rfl (by decide +kernel) rfl) ?_
  refine hAllOk.c 555 (ok_iload_n (f := 3) rfl (by decide +kernel) rfl) ?_
  refine hAllOk.c 556 (ok_callV (idx := 92) ⟨wd_t_592, wd_t_1, by decide +kernel, by decide +kernel⟩ rfl rfl wd_t_589 wd_t_590 wd_t_591 (by decide +kernel) rfl) ?_
  refine hAllOk.c 557 (ok_no) ?_
  refine hAllOk.c 558 (ok_no) ?_
  refine hAllOk.c 559 (ok_istore (by decide) (by decide +kernel) rfl) ?_
  refine hAllOk.c 560 (ok_no) ?_
  refine hAllOk.c 561 (ok_iload (by decide +kernel) rfl) ?_
  refine hAllOk.c 562 (ok_no) ?_
  refine hAllOk.c 563 (ok_ifeq (off := 48) (by decide +kernel) (by decide +kernel) rfl) ?_
  refine hAllOk.c 564 (ok_no) ?_
  refine hAllOk.c 565 (ok_no) ?_
  refine hAllOk.c 566 (ok_iload (by decide +kernel) rfl) ?_
  refine hAllOk.c 567 (ok_no) ?_
  refine hAllOk.c 568 (ok_iconst (n := 1) (by decide +kernel) (by decide +kernel) rfl) ?_
  refine hAllOk.c 569 (ok_iclt (off := 38) (by decide +kernel) (by decide +kernel) rfl) ?_
  refine hAllOk.c 570 (ok_no) ?_
  refine hAllOk.c 571 (ok_no) ?_
  refine hAllOk.c 572 (ok_aload_n (f := 0) rfl (by decide +kernel) rfl) ?_
  refine hAllOk.c 573 (ok_iconst (n := 3) (by decide +kernel) (by decide +kernel) rfl) ?_
  refine hAllOk.c 574 (ok_callV (idx := 19) ⟨wd_t_393, wd_t_1, by decide +kernel, by decide +kernel⟩ rfl rfl wd_t_390 wd_t_391 wd_t_392 (by decide +kernel) rfl) ?_
  refine hAllOk.c 575 (ok_no) ?_
  refine hAllOk.c 576 (ok_no) ?_
  refine hAllOk.c 577 (ok_callS (idx := 25) ⟨wd_t_447, wd_t_0, by decide +kernel, by decide +kernel⟩ wd_t_445 wd_t_446 (by decide +kernel) rfl) ?_
  refine hAllOk.c 578 (ok_no) ?_
  refine hAllOk.c 579 (ok_no) ?_
  refine hAllOk.c 580 (ok_iload (by decide +kernel) rfl) ?_
  refine hAllOk.c 581 (ok_no) ?_
  refine hAllOk.c 582 (ok_callS (idx := 25) ⟨wd_t_447, wd_t_0, by decide +kernel, by decide +kernel⟩ wd_t_445 wd_t_446 (by decide +kernel) rfl) ?_
  refine hAllOk.c 583 (ok_no) ?_
  refine hAllOk.c 584 (ok_no) ?_
  refine hAllOk.c 585 (ok_iload (by decide +kernel) rfl) ?_
  refine hAllOk.c 586 (ok_no) ?_
  refine hAllOk.c 587 (ok_isub (by decide +kernel) rfl) ?_
  refine hAllOk.c 588 (ok_icne (off := 19) (by decide +kernel) (by decide +kernel) rfl) ?_
  refine hAllOk.c 589 (ok_no) ?_
  refine hAllOk.c 590 (ok_no) ?_
  refine hAllOk.c 591 (ok_aload_n (f := 0) rfl (by decide +kernel) rfl) ?_
  refine hAllOk.c 592 (ok_iload_n (f := 3) rfl (by decide +kernel) rfl) ?_
  refine hAllOk.c 593 (ok_bipush (n := 7) (by decide +kernel) (by decide +kernel) rfl) ?_
  refine hAllOk.c 594 (ok_no) ?_
  refine hAllOk.c 595 (ok_callV (idx := 15) ⟨wd_t_451, wd_t_1, by decide +kernel, by decide +kernel⟩ rfl rfl wd_t_448 wd_t_449 wd_t_450 (by decide +kernel) rfl) ?_
  refine hAllOk.c 596 (ok_no) ?_
  refine hAllOk.c 597 (ok_no) ?_
  refine hAllOk.c 598 (ok_bipush (n := -5) (by decide +kernel) (by decide +kernel) rfl) ?_
  refine hAllOk.c 599 (ok_no) ?_
  refine hAllOk.c 600 (ok_icne (off := 7) (by decide +kernel) (by decide +kernel) rfl) ?_
  refine hAllOk.c 601 (ok_no) ?_
  refine hAllOk.c 602 (ok_no) ?_
  refine hAllOk.c 603 (ok_iconst (n := 1) (by decide +kernel) (by decide +kernel) rfl) ?_
  refine hAllOk.c 604 (ok_goto (off := 19) (by decide +kernel) (by decide +kernel)) ?_
  refine hAllOk.c 605 (ok_no) ?_
  refine hAllOk.c 606 (ok_no) ?_
  refine hAllOk.c 607 (ok_iconst (n := 0) (by decide +kernel) (by decide +kernel) rfl) ?_
  refine hAllOk.c 608 (ok_goto (off := 15) (by decide +kernel) (by decide +kernel)) ?_
  refine hAllOk.c 609 (ok_no) ?_
  refine hAllOk.c 610 (ok_no) ?_
  refine hAllOk.c 611 (ok_iload (by decide +kernel) rfl) ?_
  refine hAllOk.c 612 (ok_no) ?_
  refine hAllOk.c 613 (ok_bipush (n := -4) (by decide +kernel) (by decide +kernel) rfl) ?_
  refine hAllOk.c 614 (ok_no) ?_
  refine hAllOk.c 615 (ok_icne (off := 7) (by decide +kernel) (by decide +kernel) rfl) ?_
  refine hAllOk.c 616 (ok_no) ?_
  refine hAllOk.c 617 (ok_no) ?_
  refine hAllOk.c 618 (ok_iconst (n := 1) (by decide +kernel) (by decide +kernel) rfl) ?_
  refine hAllOk.c 619 (ok_goto (off := 4) (by decide +kernel) (by decide +kernel)) ?_
  refine hAllOk.c 620 (ok_no) ?_
  refine hAllOk.c 621 (ok_no) ?_
  refine hAllOk.c 622 (ok_iconst (n := 0) (by decide +kernel) (by decide +kernel) rfl) ?_
  refine hAllOk.c 623 (ok_ireturn (by decide +kernel)) ?_
  refine hAllOk.c 624 (ok_iload_n (f := 2) rfl (by decide +kernel) rfl) ?_
  refine hAllOk.c 625 (ok_iconst (n := 3) (by decide +kernel) (by decide +kernel) rfl) ?_
  refine hAllOk.c 626 (ok_iand (by decide +kernel) rfl) ?_
  refine hAllOk.c 627 (ok_ifle (off := 29) (by decide +kernel) (by decide +kernel) rfl) ?_
  refine hAllOk.c 628 (ok_no) ?_
  refine hAllOk.c 629 (ok_no) ?_
  refine hAllOk.c 630 (ok_aload_n (f := 0) rfl (by decide +kernel) rfl) ?_
  refine hAllOk.c 631 (ok_iload_n (f := 3) rfl (by decide +kernel) rfl) ?_
  refine hAllOk.c 632 (ok_iconst (n := 1) (by decide +kernel) (by decide +kernel) rfl) ?_
  refine hAllOk.c 633 (ok_iload_n (f := 2) rfl (by decide +kernel) rfl) ?_
  refine hAllOk.c 634 (ok_iconst (n := 4) (by decide +kernel) (by decide +kernel) rfl) ?_
  refine hAllOk.c 635 (ok_ishr (by decide +kernel) rfl) ?_
  refine hAllOk.c 636 (ok_bipush (n := 9) (by decide +kernel) (by decide +kernel) rfl) ?_
  refine hAllOk.c 637 (ok_no) ?_
  refine hAllOk.c 638 (ok_irem (by decide +kernel) rfl) ?_
  refine hAllOk.c 639 (ok_iadd (by decide +kernel) rfl) ?_
  refine hAllOk.c 640 (ok_callV (idx := 95) ⟨wd_t_608, wd_t_1, by decide +kernel, by decide +kernel⟩ rfl rfl wd_t_605 wd_t_606 wd_t_607 (by decide +kernel) rfl) ?_
  refine hAllOk.c 641 (ok_no) ?_
  refine hAllOk.c 642 (ok_no) ?_
  refine hAllOk.c 643 (ok_bipush (n := -2) (by decide +kernel) (by decide +kernel) rfl) ?_
  refine hAllOk.c 644 (ok_no) ?_
  refine hAllOk.c 645 (ok_iceq (off := 7) (by decide +kernel) (by decide +kernel) rfl) ?_
  refine hAllOk.c 646 (ok_no) ?_
  refine hAllOk.c 647 (ok_no) ?_
  refine hAllOk.c 648 (ok_iconst (n := 1) (by decide +kernel) (by decide +kernel) rfl) ?_
  refine hAllOk.c 649 (ok_goto (off := 56) (by decide +kernel) (by decide +kernel)) ?_
  refine hAllOk.c 650 (ok_no) ?_
  refine hAllOk.c 651 (ok_no) ?_
  refine hAllOk.c 652 (ok_iconst (n := 0) (by decide +kernel) (by decide +kernel) rfl) ?_
  refine hAllOk.c 653 (ok_goto (off := 52) (by decide +kernel) (by decide +kernel)) ?_
  refine hAllOk.c 654 (ok_no) ?_
  refine hAllOk.c 655 (ok_no) ?_
  refine hAllOk.c 656 (ok_iload (by decide +kernel) rfl) ?_
  refine hAllOk.c 657 (ok_no) ?_
  refine hAllOk.c 658 (ok_ifeq (off := 33) (by decide +kernel) (by decide +kernel) rfl) ?_
  refine hAllOk.c 659 (ok_no) ?_
  refine hAllOk.c 660 (ok_no) ?_
  refine hAllOk.c 661 (ok_aload_n (f := 0) rfl (by decide +kernel) rfl) ?_
  refine hAllOk.c 662 (ok_callV (idx := 98) ⟨wd_t_612, wd_t_1, by decide +kernel, by decide +kernel⟩ rfl rfl wd_t_609 wd_t_610 wd_t_611 (by decide +kernel) rfl) ?_
  refine hAllOk.c 663 (ok_no) ?_
  refine hAllOk.c 664 (ok_no) ?_
  refine hAllOk.c 665 (ok_iload (by decide +kernel) rfl) ?_
  refine hAllOk.c 666 (ok_no) ?_
  refine hAllOk.c 667 (ok_callS (idx := 25) ⟨wd_t_447, wd_t_0, by decide +kernel, by decide +kernel⟩ wd_t_445 wd_t_446 (by decide +kernel) rfl) ?_
  refine hAllOk.c 668 (ok_no) ?_
  refine hAllOk.c 669 (ok_no) ?_
  refine hAllOk.c 670 (ok_icne (off := 17) (by decide +kernel) (by decide +kernel) rfl) ?_
  refine hAllOk.c 671 (ok_no) ?_
  refine hAllOk.c 672 (ok_no) ?_
  refine hAllOk.c 673 (ok_aload_n (f := 0) rfl (by decide +kernel) rfl) ?_
  refine hAllOk.c 674 (ok_iconst (n := 3) (by decide +kernel) (by decide +kernel) rfl) ?_
  refine hAllOk.c 675 (ok_callV (idx := 19) ⟨wd_t_393, wd_t_1, by decide +kernel, by decide +kernel⟩ rfl rfl wd_t_390 wd_t_391 wd_t_392 (by decide +kernel) rfl) ?_
  refine hAllOk.c 676 (ok_no) ?_
  refine hAllOk.c 677 (ok_no) ?_
  refine hAllOk.c 678 (ok_bipush (n := -5) (by decide +kernel) (by decide +kernel) rfl) ?_
  refine hAllOk.c 679 (ok_no) ?_
  refine hAllOk.c 680 (ok_icne (off := 7) (by decide +kernel) (by decide +kernel) rfl) ?_
  refine hAllOk.c 681 (ok_no) ?_
  refine hAllOk.c 682 (ok_no) ?_
  refine hAllOk.c 683 (ok_iconst (n := 1) (by decide +kernel) (by decide +kernel) rfl) ?_
  refine hAllOk.c 684 (ok_goto (off := 21) (by decide +kernel) (by decide +kernel)) ?_
  refine hAllOk.c 685 (ok_no) ?_
  refine hAllOk.c 686 (ok_no) ?_
  refine hAllOk.c 687 (ok_iconst (n := 0) (by decide +kernel) (by decide +kernel) rfl) ?_
  refine hAllOk.c 688 (ok_goto (off := 17) (by decide +kernel) (by decide +kernel)) ?_
  refine hAllOk.c 689 (ok_no) ?_
  refine hAllOk.c 690 (ok_no) ?_
  refine hAllOk.c 691 (ok_aload_n (f := 0) rfl (by decide +kernel) rfl) ?_
  refine hAllOk.c 692 (ok_callV (idx := 98) ⟨wd_t_612, wd_t_1, by decide +kernel, by decide +kernel⟩ rfl rfl wd_t_609 wd_t_610 wd_t_611 (by decide +kernel) rfl) ?_
  refine hAllOk.c 693 (ok_no) ?_
  refine hAllOk.c 694 (ok_no) ?_
  refine hAllOk.c 695 (ok_bipush (n := -4) (by decide +kernel) (by decide +kernel) rfl) ?_
  refine hAllOk.c 696 (ok_no) ?_
  refine hAllOk.c 697 (ok_icne (off := 7) (by decide +kernel) (by decide +kernel) rfl) ?_
  refine hAllOk.c 698 (ok_no) ?_
  refine hAllOk.c 699 (ok_no) ?_
  refine hAllOk.c 700 (ok_iconst (n := 1) (by decide +kernel) (by decide +kernel) rfl) ?_
  refine hAllOk.c 701 (ok_goto (off := 4) (by decide +kernel) (by decide +kernel)) ?_
  refine hAllOk.c 702 (ok_no) ?_
  refine hAllOk.c 703 (ok_no) ?_
  refine hAllOk.c 704 (ok_iconst (n := 0) (by decide +kernel) (by decide +kernel) rfl) ?_
  refine hAllOk.c 705 (ok_ireturn (by decide +kernel)) ?_
  trivial
def M_La_weight : hM := (yL_weight, method_4_code, 4, (some .int), 4, 86)
def code_La_weight (K : hK) (B : Nat × Nat) (Q : hPost) : List hSem := [x_const 1 (0), x_istore 2 2, x_const 3 (0), x_istore 4 3, x_iload 5 3, x_aload 6 0, x_const 7 (1), x_callV K 10 M_Pa_count 5 1, x_no, x_no, x_icge 34 13, x_no, x_no, x_iload 14 2, x_iload 15 1, x_iload 16 3, x_ishr 17, x_const 18 (1), x_iand 19, x_aload 20 0, x_iload 21 3, x_const 22 (1), x_callV K 25 M_Pa_guest 5 2, x_no, x_no, x_imul 26, x_iadd 27, x_istore 28 2, x_iinc 31 3 (1), x_no, x_no, x_goto 4, x_no, x_no, x_iload 35 2, x_ireturn (some .int) Q]
set_option maxRecDepth 100000 in
set_option maxHeartbeats 4000000 in
theorem okc_La_weight (K : hK) (B : Nat × Nat) (Q : hPost) : hAllOk (hJ K M_La_weight B Q) 0 (code_La_weight K B Q) := by
  refine hAllOk.c 0 (ok_iconst (n := 0) (by decide +kernel) (by decide +kernel) rfl) ?_
  refine hAllOk.c 1 (ok_istore_n (f := 2) rfl (by decide) (by decide +kernel) rfl) ?_
  refine hAllOk.c 2 (ok_iconst (n := 0) (by decide +kernel) (by decide +kernel) rfl) ?_
  refine hAllOk.c 3 (ok_istore_n (f := 3) rfl (by decide) (by decide +kernel) rfl) ?_
  refine hAllOk.c 4 (ok_iload_n (f := 3) rfl (by decide +kernel) rfl) ?_
  refine hAllOk.c 5 (ok_aload_n (f := 0) rfl (by decide +kernel) rfl) ?_
  refine hAllOk.c 6 (ok_iconst (n := 1) (by decide +kernel) (by decide +kernel) rfl) ?_
  refine hAllOk.c 7 (ok_callV (idx := 9) ⟨wd_t_413, wd_t_1, by decide +kernel, by decide +kernel⟩ rfl rfl wd_t_410 wd_t_411 wd_t_412 (by decide +kernel) rfl) ?_
  refine hAllOk.c 8 (ok_no) ?_
  refine hAllOk.c 9 (ok_no) ?_
  refine hAllOk.c 10 (ok_icge (off := 24) (by decide +kernel) (by decide +kernel) rfl) ?_
  refine hAllOk.c 11 (ok_no) ?_
  refine hAllOk.c 12 (ok_no) ?_
  refine hAllOk.c 13 (ok_iload_n (f := 2) rfl (by decide +kernel) rfl) ?_
  refine hAllOk.c 14 (ok_iload_n (f := 1) rfl (by decide +kernel) rfl) ?_
  refine hAllOk.c 15 (ok_iload_n (f := 3) rfl (by decide +kernel) rfl) ?_
  refine hAllOk.c 16 (ok_ishr (by decide +kernel) rfl) ?_
  refine hAllOk.c 17 (ok_iconst (n := 1) (by decide +kernel) (by decide +kernel) rfl) ?_
  refine hAllOk.c 18 (ok_iand (by decide +kernel) rfl) ?_
  refine hAllOk.c 19 (ok_aload_n (f := 0) rfl (by decide +kernel) rfl) ?_
  refine hAllOk.c 20 (ok_iload_n (f := 3) rfl (by decide +kernel) rfl) ?_
  refine hAllOk.c 21 (ok_iconst (n := 1) (by decide +kernel) (by decide +kernel) rfl) ?_
  refine hAllOk.c 22 (ok_callV (idx := 15) ⟨wd_t_451, wd_t_1, by decide +kernel, by decide +kernel⟩ rfl rfl wd_t_448 wd_t_449 wd_t_450 (by decide +kernel) rfl) ?_
  refine hAllOk.c 23 (ok_no) ?_
  refine hAllOk.c 24 (ok_no) ?_
  refine hAllOk.c 25 (ok_imul (by decide +kernel) rfl) ?_
  refine hAllOk.c 26 (ok_iadd (by decide +kernel) rfl) ?_
  refine hAllOk.c 27 (ok_istore_n (f := 2) rfl (by decide) (by decide +kernel) rfl) ?_
  refine hAllOk.c 28 (ok_iinc (n := 1) (by decide +kernel) (by decide) (by decide +kernel) rfl) ?_
  refine hAllOk.c 29 (ok_no) ?_
  refine hAllOk.c 30 (ok_no) ?_
  refine hAllOk.c 31 (ok_goto (off := (-27)) (by decide +kernel) (by decide +kernel)) ?_
  refine hAllOk.c 32 (ok_no) ?_
  refine hAllOk.c 33 (ok_no) ?_
  refine hAllOk.c 34 (ok_iload_n (f := 2) rfl (by decide +kernel) rfl) ?_
  refine hAllOk.c 35 (ok_ireturn (by decide +kernel)) ?_
  trivial
theorem wd_t_434 : Cond.methodLink RL 22 yX5_stable ∈ hTb := hTb_t (List.mem_of_getElem? (i := 434) (by decide +kernel)) (by decide +kernel)
theorem wd_t_437 : Cond.code yX5_stable prog_1_method_19_code 2 (some .int) ∈ hTb := hTb_t (List.mem_of_getElem? (i := 437) (by decide +kernel)) (by decide +kernel)
theorem wd_t_435 : Cond.instanceMethod yX5_stable ∈ hTb := hTb_t (List.mem_of_getElem? (i := 435) (by decide +kernel)) (by decide +kernel)
theorem wd_t_436 : Cond.selects RX5 yX5_stable yX5_stable ∈ hTb := hTb_t (List.mem_of_getElem? (i := 436) (by decide +kernel)) (by decide +kernel)
theorem wd_t_454 : Cond.methodLink RL 30 yX5_met ∈ hTb := hTb_t (List.mem_of_getElem? (i := 454) (by decide +kernel)) (by decide +kernel)
theorem wd_t_457 : Cond.code yX5_met prog_1_method_18_code 4 (some .int) ∈ hTb := hTb_t (List.mem_of_getElem? (i := 457) (by decide +kernel)) (by decide +kernel)
theorem wd_t_455 : Cond.instanceMethod yX5_met ∈ hTb := hTb_t (List.mem_of_getElem? (i := 455) (by decide +kernel)) (by decide +kernel)
theorem wd_t_456 : Cond.selects RX5 yX5_met yX5_met ∈ hTb := hTb_t (List.mem_of_getElem? (i := 456) (by decide +kernel)) (by decide +kernel)
theorem wd_t_464 : Cond.methodLink RL 36 yL_weight ∈ hTb := hTb_t (List.mem_of_getElem? (i := 464) (by decide +kernel)) (by decide +kernel)
theorem wd_t_466 : Cond.code yL_weight method_4_code 4 (some .int) ∈ hTb := hTb_t (List.mem_of_getElem? (i := 466) (by decide +kernel)) (by decide +kernel)
theorem wd_t_465 : Cond.static yL_weight ∈ hTb := hTb_t (List.mem_of_getElem? (i := 465) (by decide +kernel)) (by decide +kernel)
theorem wd_t_398 : Cond.methodLink RL 40 yX5_companies ∈ hTb := hTb_t (List.mem_of_getElem? (i := 398) (by decide +kernel)) (by decide +kernel)
theorem wd_t_401 : Cond.code yX5_companies prog_1_method_22_code 1 (some .int) ∈ hTb := hTb_t (List.mem_of_getElem? (i := 401) (by decide +kernel)) (by decide +kernel)
theorem wd_t_399 : Cond.instanceMethod yX5_companies ∈ hTb := hTb_t (List.mem_of_getElem? (i := 399) (by decide +kernel)) (by decide +kernel)
theorem wd_t_400 : Cond.selects RX5 yX5_companies yX5_companies ∈ hTb := hTb_t (List.mem_of_getElem? (i := 400) (by decide +kernel)) (by decide +kernel)
def M_La_companies : hM := (yL_companies, method_5_code, 10, (some .boolean), 9, 204)
def code_La_companies (K : hK) (B : Nat × Nat) (Q : hPost) : List hSem := [x_const 1 (0), x_istore 2 1, x_aload 3 0, x_const 4 (0), x_callV K 7 M_Pa_company 5 1, x_no, x_no, x_istore 8 2, x_aload 9 0, x_const 10 (1), x_callV K 13 M_Pa_company 5 1, x_no, x_no, x_istore 14 3, x_aload 15 0, x_const 16 (2), x_callV K 19 M_Pa_company 5 1, x_no, x_no, x_istore 21 4, x_no, x_aload 22 0, x_iload 23 2, x_callV K 26 M_Pa_stable 5 1, x_no, x_no, x_const 27 (1), x_icne 89 30, x_no, x_no, x_aload 31 0, x_iload 32 3, x_callV K 35 M_Pa_stable 5 1, x_no, x_no, x_const 36 (1), x_icne 89 39, x_no, x_no, x_iload 40 3, x_callS K 43 M_La_ones 1, x_no, x_no, x_aload 44 0, x_const 45 (5), x_callV K 48 M_Pa_count 5 1, x_no, x_no, x_icgt 89 51, x_no, x_no, x_iload 53 4, x_no, x_ifge 70 56, x_no, x_no, x_iload 58 4, x_no, x_const 60 (-5), x_no, x_icne 89 63, x_no, x_no, x_iload 64 2, x_ifne 89 67, x_no, x_no, x_goto 85, x_no, x_no, x_aload 71 0, x_iload 73 4, x_no, x_callV K 76 M_Pa_stable 5 1, x_no, x_no, x_const 77 (1), x_icne 89 80, x_no, x_no, x_iload 82 4, x_no, x_ifle 89 85, x_no, x_no, x_const 86 (1), x_goto 90, x_no, x_no, x_const 90 (0), x_istore 92 5, x_no, x_const 93 (0), x_istore 95 6, x_no, x_iload 97 6, x_no, x_const 98 (1), x_aload 99 0, x_const 100 (1), x_callV K 103 M_Pa_count 5 1, x_no, x_no, x_ishl 104, x_icge 400 107, x_no, x_no, x_iload 109 5, x_no, x_ifeq 400 112, x_no, x_no, x_aload 113 0, x_iload 115 6, x_no, x_callV K 118 M_Pa_stable 5 1, x_no, x_no, x_const 119 (1), x_icne 126 122, x_no, x_no, x_const 123 (1), x_goto 127, x_no, x_no, x_const 127 (0), x_istore 129 7, x_no, x_const 130 (1), x_istore 132 8, x_no, x_const 133 (0), x_istore 135 9, x_no, x_iload 137 9, x_no, x_aload 138 0, x_const 139 (1), x_callV K 142 M_Pa_count 5 1, x_no, x_no, x_icge 215 145, x_no, x_no, x_iload 147 8, x_no, x_ifeq 215 150, x_no, x_no, x_iload 152 6, x_no, x_iload 154 9, x_no, x_ishr 155, x_const 156 (1), x_iand 157, x_ifeq 202 160, x_no, x_no, x_aload 161 0, x_iload 163 9, x_no, x_const 164 (2), x_callV K 167 M_Pa_guest 5 2, x_no, x_no, x_const 168 (1), x_icne 206 171, x_no, x_no, x_aload 172 0, x_iload 174 9, x_no, x_iload 176 6, x_no, x_callV K 179 M_Pa_met 5 2, x_no, x_no, x_const 180 (1), x_icne 206 183, x_no, x_no, x_aload 184 0, x_iload 186 6, x_no, x_callS K 189 M_La_ones 1, x_no, x_no, x_callV K 192 M_Pa_fee 5 1, x_no, x_no, x_aload 193 0, x_iload 195 9, x_no, x_const 196 (0), x_callV K 199 M_Pa_guest 5 2, x_no, x_no, x_icgt 206 202, x_no, x_no, x_const 203 (1), x_goto 207, x_no, x_no, x_const 207 (0), x_istore 209 8, x_no, x_iinc 212 9 (1), x_no, x_no, x_goto 135, x_no, x_no, x_iload 216 1, x_iload 218 7, x_no, x_ifeq 225 221, x_no, x_no, x_const 222 (1), x_goto 226, x_no, x_no, x_const 226 (0), x_iadd 227, x_istore 228 1, x_iload 230 7, x_no, x_iload 232 8, x_no, x_icne 291 235, x_no, x_no, x_iload 237 7, x_no, x_ifeq 287 240, x_no, x_no, x_iload 242 6, x_no, x_iload 243 2, x_const 244 (-1), x_ixor 245, x_iand 246, x_ifne 291 249, x_no, x_no, x_iload 251 6, x_no, x_ifeq 287 254, x_no, x_no, x_iload 256 6, x_no, x_callS K 259 M_La_ones 1, x_no, x_no, x_iload 261 4, x_no, x_callS K 264 M_La_ones 1, x_no, x_no, x_icgt 287 267, x_no, x_no, x_iload 269 6, x_no, x_callS K 272 M_La_ones 1, x_no, x_no, x_iload 274 4, x_no, x_callS K 277 M_La_ones 1, x_no, x_no, x_icne 291 280, x_no, x_no, x_iload 282 6, x_no, x_iload 284 4, x_no, x_iclt 291 287, x_no, x_no, x_const 288 (1), x_goto 292, x_no, x_no, x_const 292 (0), x_istore 294 5, x_no, x_iload 296 7, x_no, x_ifeq 316 299, x_no, x_no, x_iload 301 6, x_no, x_callS K 304 M_La_ones 1, x_no, x_no, x_aload 305 0, x_const 306 (5), x_callV K 309 M_Pa_count 5 1, x_no, x_no, x_icgt 316 312, x_no, x_no, x_const 313 (1), x_goto 317, x_no, x_no, x_const 317 (0), x_istore 319 9, x_no, x_iload 321 5, x_no, x_ifeq 391 324, x_no, x_no, x_iload 326 9, x_no, x_ifeq 387 329, x_no, x_no, x_iload 331 6, x_no, x_callS K 334 M_La_ones 1, x_no, x_no, x_iload 335 3, x_callS K 338 M_La_ones 1, x_no, x_no, x_iclt 387 341, x_no, x_no, x_iload 343 6, x_no, x_callS K 346 M_La_ones 1, x_no, x_no, x_iload 347 3, x_callS K 350 M_La_ones 1, x_no, x_no, x_icne 391 353, x_no, x_no, x_aload 354 0, x_iload 356 6, x_no, x_callS K 359 M_La_weight 2, x_no, x_no, x_aload 360 0, x_iload 361 3, x_callS K 364 M_La_weight 2, x_no, x_no, x_iclt 387 367, x_no, x_no, x_aload 368 0, x_iload 370 6, x_no, x_callS K 373 M_La_weight 2, x_no, x_no, x_aload 374 0, x_iload 375 3, x_callS K 378 M_La_weight 2, x_no, x_no, x_icne 391 381, x_no, x_no, x_iload 383 6, x_no, x_iload 384 3, x_iclt 391 387, x_no, x_no, x_const 388 (1), x_goto 392, x_no, x_no, x_const 392 (0), x_istore 394 5, x_no, x_iinc 397 6 (1), x_no, x_no, x_goto 95, x_no, x_no, x_iload 402 5, x_no, x_ifeq 417 405, x_no, x_no, x_iload 406 1, x_aload 407 0, x_callV K 410 M_Pa_companies 5 0, x_no, x_no, x_icne 417 413, x_no, x_no, x_const 414 (1), x_goto 418, x_no, x_no, x_const 418 (0), x_ireturn (some .boolean) Q]
set_option maxRecDepth 100000 in
set_option maxHeartbeats 4000000 in
theorem okc_La_companies (K : hK) (B : Nat × Nat) (Q : hPost) : hAllOk (hJ K M_La_companies B Q) 0 (code_La_companies K B Q) := by
  refine hAllOk.c 0 (ok_iconst (n := 0) (by decide +kernel) (by decide +kernel) rfl) ?_
  refine hAllOk.c 1 (ok_istore_n (f := 1) rfl (by decide) (by decide +kernel) rfl) ?_
  refine hAllOk.c 2 (ok_aload_n (f := 0) rfl (by decide +kernel) rfl) ?_
  refine hAllOk.c 3 (ok_iconst (n := 0) (by decide +kernel) (by decide +kernel) rfl) ?_
  refine hAllOk.c 4 (ok_callV (idx := 19) ⟨wd_t_393, wd_t_1, by decide +kernel, by decide +kernel⟩ rfl rfl wd_t_390 wd_t_391 wd_t_392 (by decide +kernel) rfl) ?_
  refine hAllOk.c 5 (ok_no) ?_
  refine hAllOk.c 6 (ok_no) ?_
  refine hAllOk.c 7 (ok_istore_n (f := 2) rfl (by decide) (by decide +kernel) rfl) ?_
  refine hAllOk.c 8 (ok_aload_n (f := 0) rfl (by decide +kernel) rfl) ?_
  refine hAllOk.c 9 (ok_iconst (n := 1) (by decide +kernel) (by decide +kernel) rfl) ?_
  refine hAllOk.c 10 (ok_callV (idx := 19) ⟨wd_t_393, wd_t_1, by decide +kernel, by decide +kernel⟩ rfl rfl wd_t_390 wd_t_391 wd_t_392 (by decide +kernel) rfl) ?_
  refine hAllOk.c 11 (ok_no) ?_
  refine hAllOk.c 12 (ok_no) ?_
  refine hAllOk.c 13 (ok_istore_n (f := 3) rfl (by decide) (by decide +kernel) rfl) ?_
  refine hAllOk.c 14 (ok_aload_n (f := 0) rfl (by decide +kernel) rfl) ?_
  refine hAllOk.c 15 (ok_iconst (n := 2) (by decide +kernel) (by decide +kernel) rfl) ?_
  refine hAllOk.c 16 (ok_callV (idx := 19) ⟨wd_t_393, wd_t_1, by decide +kernel, by decide +kernel⟩ rfl rfl wd_t_390 wd_t_391 wd_t_392 (by decide +kernel) rfl) ?_
  refine hAllOk.c 17 (ok_no) ?_
  refine hAllOk.c 18 (ok_no) ?_
  refine hAllOk.c 19 (ok_istore (by decide) (by decide +kernel) rfl) ?_
  refine hAllOk.c 20 (ok_no) ?_
  refine hAllOk.c 21 (ok_aload_n (f := 0) rfl (by decide +kernel) rfl) ?_
  refine hAllOk.c 22 (ok_iload_n (f := 2) rfl (by decide +kernel) rfl) ?_
  refine hAllOk.c 23 (ok_callV (idx := 22) ⟨wd_t_437, wd_t_1, by decide +kernel, by decide +kernel⟩ rfl rfl wd_t_434 wd_t_435 wd_t_436 (by decide +kernel) rfl) ?_
  refine hAllOk.c 24 (ok_no) ?_
  refine hAllOk.c 25 (ok_no) ?_
  refine hAllOk.c 26 (ok_iconst (n := 1) (by decide +kernel) (by decide +kernel) rfl) ?_
  refine hAllOk.c 27 (ok_icne (off := 62) (by decide +kernel) (by decide +kernel) rfl) ?_
  refine hAllOk.c 28 (ok_no) ?_
  refine hAllOk.c 29 (ok_no) ?_
  refine hAllOk.c 30 (ok_aload_n (f := 0) rfl (by decide +kernel) rfl) ?_
  refine hAllOk.c 31 (ok_iload_n (f := 3) rfl (by decide +kernel) rfl) ?_
  refine hAllOk.c 32 (ok_callV (idx := 22) ⟨wd_t_437, wd_t_1, by decide +kernel, by decide +kernel⟩ rfl rfl wd_t_434 wd_t_435 wd_t_436 (by decide +kernel) rfl) ?_
  refine hAllOk.c 33 (ok_no) ?_
  refine hAllOk.c 34 (ok_no) ?_
  refine hAllOk.c 35 (ok_iconst (n := 1) (by decide +kernel) (by decide +kernel) rfl) ?_
  refine hAllOk.c 36 (ok_icne (off := 53) (by decide +kernel) (by decide +kernel) rfl) ?_
  refine hAllOk.c 37 (ok_no) ?_
  refine hAllOk.c 38 (ok_no) ?_
  refine hAllOk.c 39 (ok_iload_n (f := 3) rfl (by decide +kernel) rfl) ?_
  refine hAllOk.c 40 (ok_callS (idx := 25) ⟨wd_t_447, wd_t_0, by decide +kernel, by decide +kernel⟩ wd_t_445 wd_t_446 (by decide +kernel) rfl) ?_
  refine hAllOk.c 41 (ok_no) ?_
  refine hAllOk.c 42 (ok_no) ?_
  refine hAllOk.c 43 (ok_aload_n (f := 0) rfl (by decide +kernel) rfl) ?_
  refine hAllOk.c 44 (ok_iconst (n := 5) (by decide +kernel) (by decide +kernel) rfl) ?_
  refine hAllOk.c 45 (ok_callV (idx := 9) ⟨wd_t_413, wd_t_1, by decide +kernel, by decide +kernel⟩ rfl rfl wd_t_410 wd_t_411 wd_t_412 (by decide +kernel) rfl) ?_
  refine hAllOk.c 46 (ok_no) ?_
  refine hAllOk.c 47 (ok_no) ?_
  refine hAllOk.c 48 (ok_icgt (off := 41) (by decide +kernel) (by decide +kernel) rfl) ?_
  refine hAllOk.c 49 (ok_no) ?_
  refine hAllOk.c 50 (ok_no) ?_
  refine hAllOk.c 51 (ok_iload (by decide +kernel) rfl) ?_
  refine hAllOk.c 52 (ok_no) ?_
  refine hAllOk.c 53 (ok_ifge (off := 17) (by decide +kernel) (by decide +kernel) rfl) ?_
  refine hAllOk.c 54 (ok_no) ?_
  refine hAllOk.c 55 (ok_no) ?_
  refine hAllOk.c 56 (ok_iload (by decide +kernel) rfl) ?_
  refine hAllOk.c 57 (ok_no) ?_
  refine hAllOk.c 58 (ok_bipush (n := -5) (by decide +kernel) (by decide +kernel) rfl) ?_
  refine hAllOk.c 59 (ok_no) ?_
  refine hAllOk.c 60 (ok_icne (off := 29) (by decide +kernel) (by decide +kernel) rfl) ?_
  refine hAllOk.c 61 (ok_no) ?_
  refine hAllOk.c 62 (ok_no) ?_
  refine hAllOk.c 63 (ok_iload_n (f := 2) rfl (by decide +kernel) rfl) ?_
  refine hAllOk.c 64 (ok_ifne (off := 25) (by decide +kernel) (by decide +kernel) rfl) ?_
  refine hAllOk.c 65 (ok_no) ?_
  refine hAllOk.c 66 (ok_no) ?_
  refine hAllOk.c 67 (ok_goto (off := 18) (by decide +kernel) (by decide +kernel)) ?_
  refine hAllOk.c 68 (ok_no) ?_
  refine hAllOk.c 69 (ok_no) ?_
  refine hAllOk.c 70 (ok_aload_n (f := 0) rfl (by decide +kernel) rfl) ?_
  refine hAllOk.c 71 (ok_iload (by decide +kernel) rfl) ?_
  refine hAllOk.c 72 (ok_no) ?_
  refine hAllOk.c 73 (ok_callV (idx := 22) ⟨wd_t_437, wd_t_1, by decide +kernel, by decide +kernel⟩ rfl rfl wd_t_434 wd_t_435 wd_t_436 (by decide +kernel) rfl) ?_
  refine hAllOk.c 74 (ok_no) ?_
  refine hAllOk.c 75 (ok_no) ?_
  refine hAllOk.c 76 (ok_iconst (n := 1) (by decide +kernel) (by decide +kernel) rfl) ?_
  refine hAllOk.c 77 (ok_icne (off := 12) (by decide +kernel) (by decide +kernel) rfl) ?_
  refine hAllOk.c 78 (ok_no) ?_
  refine hAllOk.c 79 (ok_no) ?_
  refine hAllOk.c 80 (ok_iload (by decide +kernel) rfl) ?_
  refine hAllOk.c 81 (ok_no) ?_
  refine hAllOk.c 82 (ok_ifle (off := 7) (by decide +kernel) (by decide +kernel) rfl) ?_
  refine hAllOk.c 83 (ok_no) ?_
  refine hAllOk.c 84 (ok_no) ?_
  refine hAllOk.c 85 (ok_iconst (n := 1) (by decide +kernel) (by decide +kernel) rfl) ?_
  refine hAllOk.c 86 (ok_goto (off := 4) (by decide +kernel) (by decide +kernel)) ?_
  refine hAllOk.c 87 (ok_no) ?_
  refine hAllOk.c 88 (ok_no) ?_
  refine hAllOk.c 89 (ok_iconst (n := 0) (by decide +kernel) (by decide +kernel) rfl) ?_
  refine hAllOk.c 90 (ok_istore (by decide) (by decide +kernel) rfl) ?_
  refine hAllOk.c 91 (ok_no) ?_
  refine hAllOk.c 92 (ok_iconst (n := 0) (by decide +kernel) (by decide +kernel) rfl) ?_
  refine hAllOk.c 93 (ok_istore (by decide) (by decide +kernel) rfl) ?_
  refine hAllOk.c 94 (ok_no) ?_
  refine hAllOk.c 95 (ok_iload (by decide +kernel) rfl) ?_
  refine hAllOk.c 96 (ok_no) ?_
  refine hAllOk.c 97 (ok_iconst (n := 1) (by decide +kernel) (by decide +kernel) rfl) ?_
  refine hAllOk.c 98 (ok_aload_n (f := 0) rfl (by decide +kernel) rfl) ?_
  refine hAllOk.c 99 (ok_iconst (n := 1) (by decide +kernel) (by decide +kernel) rfl) ?_
  refine hAllOk.c 100 (ok_callV (idx := 9) ⟨wd_t_413, wd_t_1, by decide +kernel, by decide +kernel⟩ rfl rfl wd_t_410 wd_t_411 wd_t_412 (by decide +kernel) rfl) ?_
  refine hAllOk.c 101 (ok_no) ?_
  refine hAllOk.c 102 (ok_no) ?_
  refine hAllOk.c 103 (ok_ishl (by decide +kernel) rfl) ?_
  refine hAllOk.c 104 (ok_icge (off := 296) (by decide +kernel) (by decide +kernel) rfl) ?_
  refine hAllOk.c 105 (ok_no) ?_
  refine hAllOk.c 106 (ok_no) ?_
  refine hAllOk.c 107 (ok_iload (by decide +kernel) rfl) ?_
  refine hAllOk.c 108 (ok_no) ?_
  refine hAllOk.c 109 (ok_ifeq (off := 291) (by decide +kernel) (by decide +kernel) rfl) ?_
  refine hAllOk.c 110 (ok_no) ?_
  refine hAllOk.c 111 (ok_no) ?_
  refine hAllOk.c 112 (ok_aload_n (f := 0) rfl (by decide +kernel) rfl) ?_
  refine hAllOk.c 113 (ok_iload (by decide +kernel) rfl) ?_
  refine hAllOk.c 114 (ok_no) ?_
  refine hAllOk.c 115 (ok_callV (idx := 22) ⟨wd_t_437, wd_t_1, by decide +kernel, by decide +kernel⟩ rfl rfl wd_t_434 wd_t_435 wd_t_436 (by decide +kernel) rfl) ?_
  refine hAllOk.c 116 (ok_no) ?_
  refine hAllOk.c 117 (ok_no) ?_
  refine hAllOk.c 118 (ok_iconst (n := 1) (by decide +kernel) (by decide +kernel) rfl) ?_
  refine hAllOk.c 119 (ok_icne (off := 7) (by decide +kernel) (by decide +kernel) rfl) ?_
  refine hAllOk.c 120 (ok_no) ?_
  refine hAllOk.c 121 (ok_no) ?_
  refine hAllOk.c 122 (ok_iconst (n := 1) (by decide +kernel) (by decide +kernel) rfl) ?_
  refine hAllOk.c 123 (ok_goto (off := 4) (by decide +kernel) (by decide +kernel)) ?_
  refine hAllOk.c 124 (ok_no) ?_
  refine hAllOk.c 125 (ok_no) ?_
  refine hAllOk.c 126 (ok_iconst (n := 0) (by decide +kernel) (by decide +kernel) rfl) ?_
  refine hAllOk.c 127 (ok_istore (by decide) (by decide +kernel) rfl) ?_
  refine hAllOk.c 128 (ok_no) ?_
  refine hAllOk.c 129 (ok_iconst (n := 1) (by decide +kernel) (by decide +kernel) rfl) ?_
  refine hAllOk.c 130 (ok_istore (by decide) (by decide +kernel) rfl) ?_
  refine hAllOk.c 131 (ok_no) ?_
  refine hAllOk.c 132 (ok_iconst (n := 0) (by decide +kernel) (by decide +kernel) rfl) ?_
  refine hAllOk.c 133 (ok_istore (by decide) (by decide +kernel) rfl) ?_
  refine hAllOk.c 134 (ok_no) ?_
  refine hAllOk.c 135 (ok_iload (by decide +kernel) rfl) ?_
  refine hAllOk.c 136 (ok_no) ?_
  refine hAllOk.c 137 (ok_aload_n (f := 0) rfl (by decide +kernel) rfl) ?_
  refine hAllOk.c 138 (ok_iconst (n := 1) (by decide +kernel) (by decide +kernel) rfl) ?_
  refine hAllOk.c 139 (ok_callV (idx := 9) ⟨wd_t_413, wd_t_1, by decide +kernel, by decide +kernel⟩ rfl rfl wd_t_410 wd_t_411 wd_t_412 (by decide +kernel) rfl) ?_
  refine hAllOk.c 140 (ok_no) ?_
  refine hAllOk.c 141 (ok_no) ?_
  refine hAllOk.c 142 (ok_icge (off := 73) (by decide +kernel) (by decide +kernel) rfl) ?_
  refine hAllOk.c 143 (ok_no) ?_
  refine hAllOk.c 144 (ok_no) ?_
  refine hAllOk.c 145 (ok_iload (by decide +kernel) rfl) ?_
  refine hAllOk.c 146 (ok_no) ?_
  refine hAllOk.c 147 (ok_ifeq (off := 68) (by decide +kernel) (by decide +kernel) rfl) ?_
  refine hAllOk.c 148 (ok_no) ?_
  refine hAllOk.c 149 (ok_no) ?_
  refine hAllOk.c 150 (ok_iload (by decide +kernel) rfl) ?_
  refine hAllOk.c 151 (ok_no) ?_
  refine hAllOk.c 152 (ok_iload (by decide +kernel) rfl) ?_
  refine hAllOk.c 153 (ok_no) ?_
  refine hAllOk.c 154 (ok_ishr (by decide +kernel) rfl) ?_
  refine hAllOk.c 155 (ok_iconst (n := 1) (by decide +kernel) (by decide +kernel) rfl) ?_
  refine hAllOk.c 156 (ok_iand (by decide +kernel) rfl) ?_
  refine hAllOk.c 157 (ok_ifeq (off := 45) (by decide +kernel) (by decide +kernel) rfl) ?_
  refine hAllOk.c 158 (ok_no) ?_
  refine hAllOk.c 159 (ok_no) ?_
  refine hAllOk.c 160 (ok_aload_n (f := 0) rfl (by decide +kernel) rfl) ?_
  refine hAllOk.c 161 (ok_iload (by decide +kernel) rfl) ?_
  refine hAllOk.c 162 (ok_no) ?_
  refine hAllOk.c 163 (ok_iconst (n := 2) (by decide +kernel) (by decide +kernel) rfl) ?_
  refine hAllOk.c 164 (ok_callV (idx := 15) ⟨wd_t_451, wd_t_1, by decide +kernel, by decide +kernel⟩ rfl rfl wd_t_448 wd_t_449 wd_t_450 (by decide +kernel) rfl) ?_
  refine hAllOk.c 165 (ok_no) ?_
  refine hAllOk.c 166 (ok_no) ?_
  refine hAllOk.c 167 (ok_iconst (n := 1) (by decide +kernel) (by decide +kernel) rfl) ?_
  refine hAllOk.c 168 (ok_icne (off := 38) (by decide +kernel) (by decide +kernel) rfl) ?_
  refine hAllOk.c 169 (ok_no) ?_
  refine hAllOk.c 170 (ok_no) ?_
  refine hAllOk.c 171 (ok_aload_n (f := 0) rfl (by decide +kernel) rfl) ?_
  refine hAllOk.c 172 (ok_iload (by decide +kernel) rfl) ?_
  refine hAllOk.c 173 (ok_no) ?_
  refine hAllOk.c 174 (ok_iload (by decide +kernel) rfl) ?_
  refine hAllOk.c 175 (ok_no) ?_
  refine hAllOk.c 176 (ok_callV (idx := 30) ⟨wd_t_457, wd_t_1, by decide +kernel, by decide +kernel⟩ rfl rfl wd_t_454 wd_t_455 wd_t_456 (by decide +kernel) rfl) ?_
  refine hAllOk.c 177 (ok_no) ?_
  refine hAllOk.c 178 (ok_no) ?_
  refine hAllOk.c 179 (ok_iconst (n := 1) (by decide +kernel) (by decide +kernel) rfl) ?_
  refine hAllOk.c 180 (ok_icne (off := 26) (by decide +kernel) (by decide +kernel) rfl) ?_
  refine hAllOk.c 181 (ok_no) ?_
  refine hAllOk.c 182 (ok_no) ?_
  refine hAllOk.c 183 (ok_aload_n (f := 0) rfl (by decide +kernel) rfl) ?_
  refine hAllOk.c 184 (ok_iload (by decide +kernel) rfl) ?_
  refine hAllOk.c 185 (ok_no) ?_
  refine hAllOk.c 186 (ok_callS (idx := 25) ⟨wd_t_447, wd_t_0, by decide +kernel, by decide +kernel⟩ wd_t_445 wd_t_446 (by decide +kernel) rfl) ?_
  refine hAllOk.c 187 (ok_no) ?_
  refine hAllOk.c 188 (ok_no) ?_
  refine hAllOk.c 189 (ok_callV (idx := 33) ⟨wd_t_462, wd_t_1, by decide +kernel, by decide +kernel⟩ rfl rfl wd_t_459 wd_t_460 wd_t_461 (by decide +kernel) rfl) ?_
  refine hAllOk.c 190 (ok_no) ?_
  refine hAllOk.c 191 (ok_no) ?_
  refine hAllOk.c 192 (ok_aload_n (f := 0) rfl (by decide +kernel) rfl) ?_
  refine hAllOk.c 193 (ok_iload (by decide +kernel) rfl) ?_
  refine hAllOk.c 194 (ok_no) ?_
  refine hAllOk.c 195 (ok_iconst (n := 0) (by decide +kernel) (by decide +kernel) rfl) ?_
  refine hAllOk.c 196 (ok_callV (idx := 15) ⟨wd_t_451, wd_t_1, by decide +kernel, by decide +kernel⟩ rfl rfl wd_t_448 wd_t_449 wd_t_450 (by decide +kernel) rfl) ?_
  refine hAllOk.c 197 (ok_no) ?_
  refine hAllOk.c 198 (ok_no) ?_
  refine hAllOk.c 199 (ok_icgt (off := 7) (by decide +kernel) (by decide +kernel) rfl) ?_
  refine hAllOk.c 200 (ok_no) ?_
  refine hAllOk.c 201 (ok_no) ?_
  refine hAllOk.c 202 (ok_iconst (n := 1) (by decide +kernel) (by decide +kernel) rfl) ?_
  refine hAllOk.c 203 (ok_goto (off := 4) (by decide +kernel) (by decide +kernel)) ?_
  refine hAllOk.c 204 (ok_no) ?_
  refine hAllOk.c 205 (ok_no) ?_
  refine hAllOk.c 206 (ok_iconst (n := 0) (by decide +kernel) (by decide +kernel) rfl) ?_
  refine hAllOk.c 207 (ok_istore (by decide) (by decide +kernel) rfl) ?_
  refine hAllOk.c 208 (ok_no) ?_
  refine hAllOk.c 209 (ok_iinc (n := 1) (by decide +kernel) (by decide) (by decide +kernel) rfl) ?_
  refine hAllOk.c 210 (ok_no) ?_
  refine hAllOk.c 211 (ok_no) ?_
  refine hAllOk.c 212 (ok_goto (off := (-77)) (by decide +kernel) (by decide +kernel)) ?_
  refine hAllOk.c 213 (ok_no) ?_
  refine hAllOk.c 214 (ok_no) ?_
  refine hAllOk.c 215 (ok_iload_n (f := 1) rfl (by decide +kernel) rfl) ?_
  refine hAllOk.c 216 (ok_iload (by decide +kernel) rfl) ?_
  refine hAllOk.c 217 (ok_no) ?_
  refine hAllOk.c 218 (ok_ifeq (off := 7) (by decide +kernel) (by decide +kernel) rfl) ?_
  refine hAllOk.c 219 (ok_no) ?_
  refine hAllOk.c 220 (ok_no) ?_
  refine hAllOk.c 221 (ok_iconst (n := 1) (by decide +kernel) (by decide +kernel) rfl) ?_
  refine hAllOk.c 222 (ok_goto (off := 4) (by decide +kernel) (by decide +kernel)) ?_
  refine hAllOk.c 223 (ok_no) ?_
  refine hAllOk.c 224 (ok_no) ?_
  refine hAllOk.c 225 (ok_iconst (n := 0) (by decide +kernel) (by decide +kernel) rfl) ?_
  refine hAllOk.c 226 (ok_iadd (by decide +kernel) rfl) ?_
  refine hAllOk.c 227 (ok_istore_n (f := 1) rfl (by decide) (by decide +kernel) rfl) ?_
  refine hAllOk.c 228 (ok_iload (by decide +kernel) rfl) ?_
  refine hAllOk.c 229 (ok_no) ?_
  refine hAllOk.c 230 (ok_iload (by decide +kernel) rfl) ?_
  refine hAllOk.c 231 (ok_no) ?_
  refine hAllOk.c 232 (ok_icne (off := 59) (by decide +kernel) (by decide +kernel) rfl) ?_
  refine hAllOk.c 233 (ok_no) ?_
  refine hAllOk.c 234 (ok_no) ?_
  refine hAllOk.c 235 (ok_iload (by decide +kernel) rfl) ?_
  refine hAllOk.c 236 (ok_no) ?_
  refine hAllOk.c 237 (ok_ifeq (off := 50) (by decide +kernel) (by decide +kernel) rfl) ?_
  refine hAllOk.c 238 (ok_no) ?_
  refine hAllOk.c 239 (ok_no) ?_
  refine hAllOk.c 240 (ok_iload (by decide +kernel) rfl) ?_
  refine hAllOk.c 241 (ok_no) ?_
  refine hAllOk.c 242 (ok_iload_n (f := 2) rfl (by decide +kernel) rfl) ?_
  refine hAllOk.c 243 (ok_iconst (n := -1) (by decide +kernel) (by decide +kernel) rfl) ?_
  refine hAllOk.c 244 (ok_ixor (by decide +kernel) rfl) ?_
  refine hAllOk.c 245 (ok_iand (by decide +kernel) rfl) ?_
  refine hAllOk.c 246 (ok_ifne (off := 45) (by decide +kernel) (by decide +kernel) rfl) ?_
  refine hAllOk.c 247 (ok_no) ?_
  refine hAllOk.c 248 (ok_no) ?_
  refine hAllOk.c 249 (ok_iload (by decide +kernel) rfl) ?_
  refine hAllOk.c 250 (ok_no) ?_
  refine hAllOk.c 251 (ok_ifeq (off := 36) (by decide +kernel) (by decide +kernel) rfl) ?_
  refine hAllOk.c 252 (ok_no) ?_
  refine hAllOk.c 253 (ok_no) ?_
  refine hAllOk.c 254 (ok_iload (by decide +kernel) rfl) ?_
  refine hAllOk.c 255 (ok_no) ?_
  refine hAllOk.c 256 (ok_callS (idx := 25) ⟨wd_t_447, wd_t_0, by decide +kernel, by decide +kernel⟩ wd_t_445 wd_t_446 (by decide +kernel) rfl) ?_
  refine hAllOk.c 257 (ok_no) ?_
  refine hAllOk.c 258 (ok_no) ?_
  refine hAllOk.c 259 (ok_iload (by decide +kernel) rfl) ?_
  refine hAllOk.c 260 (ok_no) ?_
  refine hAllOk.c 261 (ok_callS (idx := 25) ⟨wd_t_447, wd_t_0, by decide +kernel, by decide +kernel⟩ wd_t_445 wd_t_446 (by decide +kernel) rfl) ?_
  refine hAllOk.c 262 (ok_no) ?_
  refine hAllOk.c 263 (ok_no) ?_
  refine hAllOk.c 264 (ok_icgt (off := 23) (by decide +kernel) (by decide +kernel) rfl) ?_
  refine hAllOk.c 265 (ok_no) ?_
  refine hAllOk.c 266 (ok_no) ?_
  refine hAllOk.c 267 (ok_iload (by decide +kernel) rfl) ?_
  refine hAllOk.c 268 (ok_no) ?_
  refine hAllOk.c 269 (ok_callS (idx := 25) ⟨wd_t_447, wd_t_0, by decide +kernel, by decide +kernel⟩ wd_t_445 wd_t_446 (by decide +kernel) rfl) ?_
  refine hAllOk.c 270 (ok_no) ?_
  refine hAllOk.c 271 (ok_no) ?_
  refine hAllOk.c 272 (ok_iload (by decide +kernel) rfl) ?_
  refine hAllOk.c 273 (ok_no) ?_
  refine hAllOk.c 274 (ok_callS (idx := 25) ⟨wd_t_447, wd_t_0, by decide +kernel, by decide +kernel⟩ wd_t_445 wd_t_446 (by decide +kernel) rfl) ?_
  refine hAllOk.c 275 (ok_no) ?_
  refine hAllOk.c 276 (ok_no) ?_
  refine hAllOk.c 277 (ok_icne (off := 14) (by decide +kernel) (by decide +kernel) rfl) ?_
  refine hAllOk.c 278 (ok_no) ?_
  refine hAllOk.c 279 (ok_no) ?_
  refine hAllOk.c 280 (ok_iload (by decide +kernel) rfl) ?_
  refine hAllOk.c 281 (ok_no) ?_
  refine hAllOk.c 282 (ok_iload (by decide +kernel) rfl) ?_
  refine hAllOk.c 283 (ok_no) ?_
  refine hAllOk.c 284 (ok_iclt (off := 7) (by decide +kernel) (by decide +kernel) rfl) ?_
  refine hAllOk.c 285 (ok_no) ?_
  refine hAllOk.c 286 (ok_no) ?_
  refine hAllOk.c 287 (ok_iconst (n := 1) (by decide +kernel) (by decide +kernel) rfl) ?_
  refine hAllOk.c 288 (ok_goto (off := 4) (by decide +kernel) (by decide +kernel)) ?_
  refine hAllOk.c 289 (ok_no) ?_
  refine hAllOk.c 290 (ok_no) ?_
  refine hAllOk.c 291 (ok_iconst (n := 0) (by decide +kernel) (by decide +kernel) rfl) ?_
  refine hAllOk.c 292 (ok_istore (by decide) (by decide +kernel) rfl) ?_
  refine hAllOk.c 293 (ok_no) ?_
  refine hAllOk.c 294 (ok_iload (by decide +kernel) rfl) ?_
  refine hAllOk.c 295 (ok_no) ?_
  refine hAllOk.c 296 (ok_ifeq (off := 20) (by decide +kernel) (by decide +kernel) rfl) ?_
  refine hAllOk.c 297 (ok_no) ?_
  refine hAllOk.c 298 (ok_no) ?_
  refine hAllOk.c 299 (ok_iload (by decide +kernel) rfl) ?_
  refine hAllOk.c 300 (ok_no) ?_
  refine hAllOk.c 301 (ok_callS (idx := 25) ⟨wd_t_447, wd_t_0, by decide +kernel, by decide +kernel⟩ wd_t_445 wd_t_446 (by decide +kernel) rfl) ?_
  refine hAllOk.c 302 (ok_no) ?_
  refine hAllOk.c 303 (ok_no) ?_
  refine hAllOk.c 304 (ok_aload_n (f := 0) rfl (by decide +kernel) rfl) ?_
  refine hAllOk.c 305 (ok_iconst (n := 5) (by decide +kernel) (by decide +kernel) rfl) ?_
  refine hAllOk.c 306 (ok_callV (idx := 9) ⟨wd_t_413, wd_t_1, by decide +kernel, by decide +kernel⟩ rfl rfl wd_t_410 wd_t_411 wd_t_412 (by decide +kernel) rfl) ?_
  refine hAllOk.c 307 (ok_no) ?_
  refine hAllOk.c 308 (ok_no) ?_
  refine hAllOk.c 309 (ok_icgt (off := 7) (by decide +kernel) (by decide +kernel) rfl) ?_
  refine hAllOk.c 310 (ok_no) ?_
  refine hAllOk.c 311 (ok_no) ?_
  refine hAllOk.c 312 (ok_iconst (n := 1) (by decide +kernel) (by decide +kernel) rfl) ?_
  refine hAllOk.c 313 (ok_goto (off := 4) (by decide +kernel) (by decide +kernel)) ?_
  refine hAllOk.c 314 (ok_no) ?_
  refine hAllOk.c 315 (ok_no) ?_
  refine hAllOk.c 316 (ok_iconst (n := 0) (by decide +kernel) (by decide +kernel) rfl) ?_
  refine hAllOk.c 317 (ok_istore (by decide) (by decide +kernel) rfl) ?_
  refine hAllOk.c 318 (ok_no) ?_
  refine hAllOk.c 319 (ok_iload (by decide +kernel) rfl) ?_
  refine hAllOk.c 320 (ok_no) ?_
  refine hAllOk.c 321 (ok_ifeq (off := 70) (by decide +kernel) (by decide +kernel) rfl) ?_
  refine hAllOk.c 322 (ok_no) ?_
  refine hAllOk.c 323 (ok_no) ?_
  refine hAllOk.c 324 (ok_iload (by decide +kernel) rfl) ?_
  refine hAllOk.c 325 (ok_no) ?_
  refine hAllOk.c 326 (ok_ifeq (off := 61) (by decide +kernel) (by decide +kernel) rfl) ?_
  refine hAllOk.c 327 (ok_no) ?_
  refine hAllOk.c 328 (ok_no) ?_
  refine hAllOk.c 329 (ok_iload (by decide +kernel) rfl) ?_
  refine hAllOk.c 330 (ok_no) ?_
  refine hAllOk.c 331 (ok_callS (idx := 25) ⟨wd_t_447, wd_t_0, by decide +kernel, by decide +kernel⟩ wd_t_445 wd_t_446 (by decide +kernel) rfl) ?_
  refine hAllOk.c 332 (ok_no) ?_
  refine hAllOk.c 333 (ok_no) ?_
  refine hAllOk.c 334 (ok_iload_n (f := 3) rfl (by decide +kernel) rfl) ?_
  refine hAllOk.c 335 (ok_callS (idx := 25) ⟨wd_t_447, wd_t_0, by decide +kernel, by decide +kernel⟩ wd_t_445 wd_t_446 (by decide +kernel) rfl) ?_
  refine hAllOk.c 336 (ok_no) ?_
  refine hAllOk.c 337 (ok_no) ?_
  refine hAllOk.c 338 (ok_iclt (off := 49) (by decide +kernel) (by decide +kernel) rfl) ?_
  refine hAllOk.c 339 (ok_no) ?_
  refine hAllOk.c 340 (ok_no) ?_
  refine hAllOk.c 341 (ok_iload (by decide +kernel) rfl) ?_
  refine hAllOk.c 342 (ok_no) ?_
  refine hAllOk.c 343 (ok_callS (idx := 25) ⟨wd_t_447, wd_t_0, by decide +kernel, by decide +kernel⟩ wd_t_445 wd_t_446 (by decide +kernel) rfl) ?_
  refine hAllOk.c 344 (ok_no) ?_
  refine hAllOk.c 345 (ok_no) ?_
  refine hAllOk.c 346 (ok_iload_n (f := 3) rfl (by decide +kernel) rfl) ?_
  refine hAllOk.c 347 (ok_callS (idx := 25) ⟨wd_t_447, wd_t_0, by decide +kernel, by decide +kernel⟩ wd_t_445 wd_t_446 (by decide +kernel) rfl) ?_
  refine hAllOk.c 348 (ok_no) ?_
  refine hAllOk.c 349 (ok_no) ?_
  refine hAllOk.c 350 (ok_icne (off := 41) (by decide +kernel) (by decide +kernel) rfl) ?_
  refine hAllOk.c 351 (ok_no) ?_
  refine hAllOk.c 352 (ok_no) ?_
  refine hAllOk.c 353 (ok_aload_n (f := 0) rfl (by decide +kernel) rfl) ?_
  refine hAllOk.c 354 (ok_iload (by decide +kernel) rfl) ?_
  refine hAllOk.c 355 (ok_no) ?_
  refine hAllOk.c 356 (ok_callS (idx := 36) ⟨wd_t_466, wd_t_0, by decide +kernel, by decide +kernel⟩ wd_t_464 wd_t_465 (by decide +kernel) rfl) ?_
  refine hAllOk.c 357 (ok_no) ?_
  refine hAllOk.c 358 (ok_no) ?_
  refine hAllOk.c 359 (ok_aload_n (f := 0) rfl (by decide +kernel) rfl) ?_
  refine hAllOk.c 360 (ok_iload_n (f := 3) rfl (by decide +kernel) rfl) ?_
  refine hAllOk.c 361 (ok_callS (idx := 36) ⟨wd_t_466, wd_t_0, by decide +kernel, by decide +kernel⟩ wd_t_464 wd_t_465 (by decide +kernel) rfl) ?_
  refine hAllOk.c 362 (ok_no) ?_
  refine hAllOk.c 363 (ok_no) ?_
  refine hAllOk.c 364 (ok_iclt (off := 23) (by decide +kernel) (by decide +kernel) rfl) ?_
  refine hAllOk.c 365 (ok_no) ?_
  refine hAllOk.c 366 (ok_no) ?_
  refine hAllOk.c 367 (ok_aload_n (f := 0) rfl (by decide +kernel) rfl) ?_
  refine hAllOk.c 368 (ok_iload (by decide +kernel) rfl) ?_
  refine hAllOk.c 369 (ok_no) ?_
  refine hAllOk.c 370 (ok_callS (idx := 36) ⟨wd_t_466, wd_t_0, by decide +kernel, by decide +kernel⟩ wd_t_464 wd_t_465 (by decide +kernel) rfl) ?_
  refine hAllOk.c 371 (ok_no) ?_
  refine hAllOk.c 372 (ok_no) ?_
  refine hAllOk.c 373 (ok_aload_n (f := 0) rfl (by decide +kernel) rfl) ?_
  refine hAllOk.c 374 (ok_iload_n (f := 3) rfl (by decide +kernel) rfl) ?_
  refine hAllOk.c 375 (ok_callS (idx := 36) ⟨wd_t_466, wd_t_0, by decide +kernel, by decide +kernel⟩ wd_t_464 wd_t_465 (by decide +kernel) rfl) ?_
  refine hAllOk.c 376 (ok_no) ?_
  refine hAllOk.c 377 (ok_no) ?_
  refine hAllOk.c 378 (ok_icne (off := 13) (by decide +kernel) (by decide +kernel) rfl) ?_
  refine hAllOk.c 379 (ok_no) ?_
  refine hAllOk.c 380 (ok_no) ?_
  refine hAllOk.c 381 (ok_iload (by decide +kernel) rfl) ?_
  refine hAllOk.c 382 (ok_no) ?_
  refine hAllOk.c 383 (ok_iload_n (f := 3) rfl (by decide +kernel) rfl) ?_
  refine hAllOk.c 384 (ok_iclt (off := 7) (by decide +kernel) (by decide +kernel) rfl) ?_
  refine hAllOk.c 385 (ok_no) ?_
  refine hAllOk.c 386 (ok_no) ?_
  refine hAllOk.c 387 (ok_iconst (n := 1) (by decide +kernel) (by decide +kernel) rfl) ?_
  refine hAllOk.c 388 (ok_goto (off := 4) (by decide +kernel) (by decide +kernel)) ?_
  refine hAllOk.c 389 (ok_no) ?_
  refine hAllOk.c 390 (ok_no) ?_
  refine hAllOk.c 391 (ok_iconst (n := 0) (by decide +kernel) (by decide +kernel) rfl) ?_
  refine hAllOk.c 392 (ok_istore (by decide) (by decide +kernel) rfl) ?_
  refine hAllOk.c 393 (ok_no) ?_
  refine hAllOk.c 394 (ok_iinc (n := 1) (by decide +kernel) (by decide) (by decide +kernel) rfl) ?_
  refine hAllOk.c 395 (ok_no) ?_
  refine hAllOk.c 396 (ok_no) ?_
  refine hAllOk.c 397 (ok_goto (off := (-302)) (by decide +kernel) (by decide +kernel)) ?_
  refine hAllOk.c 398 (ok_no) ?_
  refine hAllOk.c 399 (ok_no) ?_
  refine hAllOk.c 400 (ok_iload (by decide +kernel) rfl) ?_
  refine hAllOk.c 401 (ok_no) ?_
  refine hAllOk.c 402 (ok_ifeq (off := 15) (by decide +kernel) (by decide +kernel) rfl) ?_
  refine hAllOk.c 403 (ok_no) ?_
  refine hAllOk.c 404 (ok_no) ?_
  refine hAllOk.c 405 (ok_iload_n (f := 1) rfl (by decide +kernel) rfl) ?_
  refine hAllOk.c 406 (ok_aload_n (f := 0) rfl (by decide +kernel) rfl) ?_
  refine hAllOk.c 407 (ok_callV (idx := 40) ⟨wd_t_401, wd_t_1, by decide +kernel, by decide +kernel⟩ rfl rfl wd_t_398 wd_t_399 wd_t_400 (by decide +kernel) rfl) ?_
  refine hAllOk.c 408 (ok_no) ?_
  refine hAllOk.c 409 (ok_no) ?_
  refine hAllOk.c 410 (ok_icne (off := 7) (by decide +kernel) (by decide +kernel) rfl) ?_
  refine hAllOk.c 411 (ok_no) ?_
  refine hAllOk.c 412 (ok_no) ?_
  refine hAllOk.c 413 (ok_iconst (n := 1) (by decide +kernel) (by decide +kernel) rfl) ?_
  refine hAllOk.c 414 (ok_goto (off := 4) (by decide +kernel) (by decide +kernel)) ?_
  refine hAllOk.c 415 (ok_no) ?_
  refine hAllOk.c 416 (ok_no) ?_
  refine hAllOk.c 417 (ok_iconst (n := 0) (by decide +kernel) (by decide +kernel) rfl) ?_
  refine hAllOk.c 418 (ok_ireturn (by decide +kernel)) ?_
  trivial
theorem wd_t_470 : Cond.methodLink RL 44 yX5_why ∈ hTb := hTb_t (List.mem_of_getElem? (i := 470) (by decide +kernel)) (by decide +kernel)
theorem wd_t_473 : Cond.code yX5_why prog_1_method_23_code 3 (some .int) ∈ hTb := hTb_t (List.mem_of_getElem? (i := 473) (by decide +kernel)) (by decide +kernel)
theorem wd_t_471 : Cond.instanceMethod yX5_why ∈ hTb := hTb_t (List.mem_of_getElem? (i := 471) (by decide +kernel)) (by decide +kernel)
theorem wd_t_472 : Cond.selects RX5 yX5_why yX5_why ∈ hTb := hTb_t (List.mem_of_getElem? (i := 472) (by decide +kernel)) (by decide +kernel)
theorem wd_t_406 : Cond.methodLink RL 50 yX5_rounds ∈ hTb := hTb_t (List.mem_of_getElem? (i := 406) (by decide +kernel)) (by decide +kernel)
theorem wd_t_409 : Cond.code yX5_rounds prog_1_method_24_code 1 (some .int) ∈ hTb := hTb_t (List.mem_of_getElem? (i := 409) (by decide +kernel)) (by decide +kernel)
theorem wd_t_407 : Cond.instanceMethod yX5_rounds ∈ hTb := hTb_t (List.mem_of_getElem? (i := 407) (by decide +kernel)) (by decide +kernel)
theorem wd_t_408 : Cond.selects RX5 yX5_rounds yX5_rounds ∈ hTb := hTb_t (List.mem_of_getElem? (i := 408) (by decide +kernel)) (by decide +kernel)
theorem wd_t_486 : Cond.methodLink RL 53 yX5_needs ∈ hTb := hTb_t (List.mem_of_getElem? (i := 486) (by decide +kernel)) (by decide +kernel)
theorem wd_t_489 : Cond.code yX5_needs prog_1_method_25_code 7 (some .int) ∈ hTb := hTb_t (List.mem_of_getElem? (i := 489) (by decide +kernel)) (by decide +kernel)
theorem wd_t_487 : Cond.instanceMethod yX5_needs ∈ hTb := hTb_t (List.mem_of_getElem? (i := 487) (by decide +kernel)) (by decide +kernel)
theorem wd_t_488 : Cond.selects RX5 yX5_needs yX5_needs ∈ hTb := hTb_t (List.mem_of_getElem? (i := 488) (by decide +kernel)) (by decide +kernel)
theorem wd_t_491 : Cond.methodLink RL 56 yX5_weightOf ∈ hTb := hTb_t (List.mem_of_getElem? (i := 491) (by decide +kernel)) (by decide +kernel)
theorem wd_t_494 : Cond.code yX5_weightOf prog_1_method_26_code 6 (some .int) ∈ hTb := hTb_t (List.mem_of_getElem? (i := 494) (by decide +kernel)) (by decide +kernel)
theorem wd_t_492 : Cond.instanceMethod yX5_weightOf ∈ hTb := hTb_t (List.mem_of_getElem? (i := 492) (by decide +kernel)) (by decide +kernel)
theorem wd_t_493 : Cond.selects RX5 yX5_weightOf yX5_weightOf ∈ hTb := hTb_t (List.mem_of_getElem? (i := 493) (by decide +kernel)) (by decide +kernel)
def M_La_guests : hM := (yL_guests, method_6_code, 12, (some .boolean), 9, 204)
def code_La_guests (K : hK) (B : Nat × Nat) (Q : hPost) : List hSem := [x_aload 1 0, x_const 2 (0), x_callV K 5 M_Pa_company 5 1, x_no, x_no, x_istore 6 1, x_const 7 (0), x_istore 8 2, x_const 9 (0), x_istore 10 3, x_const 11 (0), x_istore 13 4, x_no, x_const 14 (0), x_istore 16 5, x_no, x_const 17 (1), x_istore 19 6, x_no, x_const 20 (0), x_istore 22 7, x_no, x_iload 24 7, x_no, x_aload 25 0, x_const 26 (1), x_callV K 29 M_Pa_count 5 1, x_no, x_no, x_icge 557 32, x_no, x_no, x_iload 34 6, x_no, x_ifeq 557 37, x_no, x_no, x_aload 38 0, x_iload 40 7, x_no, x_const 41 (0), x_callV K 44 M_Pa_why 5 2, x_no, x_no, x_istore 46 8, x_no, x_aload 47 0, x_iload 49 7, x_no, x_const 50 (2), x_callV K 53 M_Pa_why 5 2, x_no, x_no, x_istore 55 9, x_no, x_iload 56 2, x_aload 57 0, x_iload 59 7, x_no, x_const 60 (5), x_callV K 63 M_Pa_guest 5 2, x_no, x_no, x_iadd 64, x_istore 65 2, x_iload 66 3, x_aload 67 0, x_iload 69 7, x_no, x_const 71 (6), x_no, x_callV K 74 M_Pa_guest 5 2, x_no, x_no, x_iadd 75, x_istore 76 3, x_iload 78 4, x_no, x_aload 79 0, x_iload 81 7, x_no, x_const 82 (3), x_callV K 85 M_Pa_guest 5 2, x_no, x_no, x_iadd 86, x_istore 88 4, x_no, x_iload 90 5, x_no, x_aload 91 0, x_iload 93 7, x_no, x_const 95 (7), x_no, x_callV K 98 M_Pa_guest 5 2, x_no, x_no, x_iflt 108 101, x_no, x_no, x_const 102 (1), x_iload 104 7, x_no, x_ishl 105, x_goto 109, x_no, x_no, x_const 109 (0), x_ior 110, x_istore 112 5, x_no, x_iload 114 8, x_no, x_ifne 121 117, x_no, x_no, x_const 118 (1), x_goto 122, x_no, x_no, x_const 122 (0), x_iload 123 1, x_iload 125 7, x_no, x_ishr 126, x_const 127 (1), x_iand 128, x_const 129 (1), x_icne 136 132, x_no, x_no, x_const 133 (1), x_goto 137, x_no, x_no, x_const 137 (0), x_icne 201 140, x_no, x_no, x_iload 142 8, x_no, x_const 143 (1), x_icne 150 146, x_no, x_no, x_const 147 (1), x_goto 151, x_no, x_no, x_const 151 (0), x_aload 152 0, x_iload 154 7, x_no, x_const 155 (2), x_callV K 158 M_Pa_guest 5 2, x_no, x_no, x_ifne 165 161, x_no, x_no, x_const 162 (1), x_goto 166, x_no, x_no, x_const 166 (0), x_icne 201 169, x_no, x_no, x_aload 170 0, x_iload 172 7, x_no, x_const 174 (7), x_no, x_callV K 177 M_Pa_guest 5 2, x_no, x_no, x_iflt 197 180, x_no, x_no, x_aload 181 0, x_aload 182 0, x_iload 184 7, x_no, x_const 186 (7), x_no, x_callV K 189 M_Pa_guest 5 2, x_no, x_no, x_callV K 192 M_Pa_seat 5 1, x_no, x_no, x_iload 194 7, x_no, x_icne 201 197, x_no, x_no, x_const 198 (1), x_goto 202, x_no, x_no, x_const 202 (0), x_istore 204 6, x_no, x_iload 206 6, x_no, x_ifeq 340 209, x_no, x_no, x_iload 211 8, x_no, x_ifle 317 214, x_no, x_no, x_aload 215 0, x_iload 217 7, x_no, x_const 218 (1), x_callV K 221 M_Pa_why 5 2, x_no, x_no, x_aload 222 0, x_callV K 225 M_Pa_rounds 5 0, x_no, x_no, x_icge 340 228, x_no, x_no, x_iload 230 9, x_no, x_ifge 259 233, x_no, x_no, x_aload 234 0, x_iload 236 7, x_no, x_const 237 (3), x_callV K 240 M_Pa_why 5 2, x_no, x_no, x_const 241 (1), x_icne 340 244, x_no, x_no, x_aload 245 0, x_iload 247 7, x_no, x_const 248 (4), x_callV K 251 M_Pa_why 5 2, x_no, x_no, x_iload 253 7, x_no, x_icne 340 256, x_no, x_no, x_goto 336, x_no, x_no, x_aload 260 0, x_iload 262 9, x_no, x_const 263 (1), x_callV K 266 M_Pa_why 5 2, x_no, x_no, x_aload 267 0, x_iload 269 7, x_no, x_const 270 (1), x_callV K 273 M_Pa_why 5 2, x_no, x_no, x_const 274 (1), x_isub 275, x_icne 340 278, x_no, x_no, x_aload 279 0, x_iload 281 7, x_no, x_const 282 (3), x_callV K 285 M_Pa_why 5 2, x_no, x_no, x_aload 286 0, x_iload 288 9, x_no, x_const 289 (3), x_callV K 292 M_Pa_why 5 2, x_no, x_no, x_const 293 (1), x_iadd 294, x_icne 340 297, x_no, x_no, x_aload 298 0, x_iload 300 7, x_no, x_const 301 (4), x_callV K 304 M_Pa_why 5 2, x_no, x_no, x_aload 305 0, x_iload 307 9, x_no, x_const 308 (4), x_callV K 311 M_Pa_why 5 2, x_no, x_no, x_icne 340 314, x_no, x_no, x_goto 336, x_no, x_no, x_iload 319 9, x_no, x_const 321 (-5), x_no, x_icne 340 324, x_no, x_no, x_aload 325 0, x_iload 327 7, x_no, x_const 328 (1), x_callV K 331 M_Pa_why 5 2, x_no, x_no, x_const 333 (-5), x_no, x_icne 340 336, x_no, x_no, x_const 337 (1), x_goto 341, x_no, x_no, x_const 341 (0), x_istore 343 6, x_no, x_const 344 (0), x_istore 346 10, x_no, x_iload 348 10, x_no, x_const 349 (1), x_aload 350 0, x_const 351 (1), x_callV K 354 M_Pa_count 5 1, x_no, x_no, x_ishl 355, x_icge 410 358, x_no, x_no, x_iload 360 6, x_no, x_ifeq 410 363, x_no, x_no, x_aload 364 0, x_iload 366 7, x_no, x_iload 368 10, x_no, x_callV K 371 M_Pa_met 5 2, x_no, x_no, x_ifeq 397 374, x_no, x_no, x_aload 375 0, x_iload 377 7, x_no, x_iload 379 10, x_no, x_const 380 (1), x_iload 382 10, x_no, x_aload 383 0, x_const 384 (1), x_callV K 387 M_Pa_count 5 1, x_no, x_no, x_irem 388, x_ishl 389, x_ior 390, x_callV K 393 M_Pa_met 5 2, x_no, x_no, x_const 394 (1), x_icne 401 397, x_no, x_no, x_const 398 (1), x_goto 402, x_no, x_no, x_const 402 (0), x_istore 404 6, x_no, x_iinc 407 10 (1), x_no, x_no, x_goto 346, x_no, x_no, x_aload 411 0, x_iload 413 7, x_no, x_callV K 416 M_Pa_needs 5 1, x_no, x_no, x_istore 418 10, x_no, x_iload 420 6, x_no, x_ifeq 485 423, x_no, x_no, x_iload 425 10, x_no, x_ifge 432 428, x_no, x_no, x_const 429 (1), x_goto 433, x_no, x_no, x_const 433 (0), x_aload 434 0, x_iload 436 7, x_no, x_const 437 (1), x_aload 438 0, x_const 439 (1), x_callV K 442 M_Pa_count 5 1, x_no, x_no, x_ishl 443, x_const 444 (1), x_isub 445, x_callV K 448 M_Pa_met 5 2, x_no, x_no, x_ifne 455 451, x_no, x_no, x_const 452 (1), x_goto 456, x_no, x_no, x_const 456 (0), x_icne 485 459, x_no, x_no, x_aload 460 0, x_iload 462 7, x_no, x_const 463 (4), x_callV K 466 M_Pa_guest 5 2, x_no, x_no, x_const 467 (1), x_aload 468 0, x_const 469 (1), x_callV K 472 M_Pa_count 5 1, x_no, x_no, x_ishl 473, x_const 474 (1), x_isub 475, x_const 476 (-1), x_ixor 477, x_iand 478, x_ifne 485 481, x_no, x_no, x_const 482 (1), x_goto 486, x_no, x_no, x_const 486 (0), x_istore 488 6, x_no, x_aload 489 0, x_iload 491 7, x_no, x_callV K 494 M_Pa_weightOf 5 1, x_no, x_no, x_istore 496 11, x_no, x_iload 498 6, x_no, x_ifeq 548 501, x_no, x_no, x_aload 502 0, x_iload 504 7, x_no, x_const 505 (2), x_callV K 508 M_Pa_guest 5 2, x_no, x_no, x_ifne 521 511, x_no, x_no, x_iload 513 11, x_no, x_const 515 (-5), x_no, x_icne 548 518, x_no, x_no, x_goto 544, x_no, x_no, x_iload 523 8, x_no, x_ifne 530 526, x_no, x_no, x_const 527 (1), x_goto 531, x_no, x_no, x_const 531 (0), x_iload 533 11, x_no, x_ifle 540 536, x_no, x_no, x_const 537 (1), x_goto 541, x_no, x_no, x_const 541 (0), x_icne 548 544, x_no, x_no, x_const 545 (1), x_goto 549, x_no, x_no, x_const 549 (0), x_istore 551 6, x_no, x_iinc 554 7 (1), x_no, x_no, x_goto 22, x_no, x_no, x_aload 558 0, x_const 559 (3), x_callV K 562 M_Pa_company 5 1, x_no, x_no, x_istore 564 7, x_no, x_iload 566 6, x_no, x_ifeq 649 569, x_no, x_no, x_iload 570 2, x_aload 571 0, x_const 573 (9), x_no, x_callV K 576 M_Pa_count 5 1, x_no, x_no, x_icne 649 579, x_no, x_no, x_iload 580 3, x_aload 581 0, x_const 583 (10), x_no, x_callV K 586 M_Pa_count 5 1, x_no, x_no, x_icne 649 589, x_no, x_no, x_iload 591 4, x_no, x_aload 592 0, x_const 594 (14), x_no, x_callV K 597 M_Pa_count 5 1, x_no, x_no, x_icne 649 600, x_no, x_no, x_iload 601 3, x_iload 602 2, x_icgt 649 605, x_no, x_no, x_aload 606 0, x_const 608 (8), x_no, x_callV K 611 M_Pa_count 5 1, x_no, x_no, x_const 612 (1), x_icne 619 615, x_no, x_no, x_const 616 (1), x_goto 620, x_no, x_no, x_const 620 (0), x_iload 622 7, x_no, x_iflt 629 625, x_no, x_no, x_const 626 (1), x_goto 630, x_no, x_no, x_const 630 (0), x_icne 649 633, x_no, x_no, x_iload 635 7, x_no, x_iflt 645 638, x_no, x_no, x_iload 640 7, x_no, x_iload 642 5, x_no, x_icne 649 645, x_no, x_no, x_const 646 (1), x_goto 650, x_no, x_no, x_const 650 (0), x_ireturn (some .boolean) Q]
set_option maxRecDepth 100000 in
set_option maxHeartbeats 4000000 in
theorem okc_La_guests (K : hK) (B : Nat × Nat) (Q : hPost) : hAllOk (hJ K M_La_guests B Q) 0 (code_La_guests K B Q) := by
  refine hAllOk.c 0 (ok_aload_n (f := 0) rfl (by decide +kernel) rfl) ?_
  refine hAllOk.c 1 (ok_iconst (n := 0) (by decide +kernel) (by decide +kernel) rfl) ?_
  refine hAllOk.c 2 (ok_callV (idx := 19) ⟨wd_t_393, wd_t_1, by decide +kernel, by decide +kernel⟩ rfl rfl wd_t_390 wd_t_391 wd_t_392 (by decide +kernel) rfl) ?_
  refine hAllOk.c 3 (ok_no) ?_
  refine hAllOk.c 4 (ok_no) ?_
  refine hAllOk.c 5 (ok_istore_n (f := 1) rfl (by decide) (by decide +kernel) rfl) ?_
  refine hAllOk.c 6 (ok_iconst (n := 0) (by decide +kernel) (by decide +kernel) rfl) ?_
  refine hAllOk.c 7 (ok_istore_n (f := 2) rfl (by decide) (by decide +kernel) rfl) ?_
  refine hAllOk.c 8 (ok_iconst (n := 0) (by decide +kernel) (by decide +kernel) rfl) ?_
  refine hAllOk.c 9 (ok_istore_n (f := 3) rfl (by decide) (by decide +kernel) rfl) ?_
  refine hAllOk.c 10 (ok_iconst (n := 0) (by decide +kernel) (by decide +kernel) rfl) ?_
  refine hAllOk.c 11 (ok_istore (by decide) (by decide +kernel) rfl) ?_
  refine hAllOk.c 12 (ok_no) ?_
  refine hAllOk.c 13 (ok_iconst (n := 0) (by decide +kernel) (by decide +kernel) rfl) ?_
  refine hAllOk.c 14 (ok_istore (by decide) (by decide +kernel) rfl) ?_
  refine hAllOk.c 15 (ok_no) ?_
  refine hAllOk.c 16 (ok_iconst (n := 1) (by decide +kernel) (by decide +kernel) rfl) ?_
  refine hAllOk.c 17 (ok_istore (by decide) (by decide +kernel) rfl) ?_
  refine hAllOk.c 18 (ok_no) ?_
  refine hAllOk.c 19 (ok_iconst (n := 0) (by decide +kernel) (by decide +kernel) rfl) ?_
  refine hAllOk.c 20 (ok_istore (by decide) (by decide +kernel) rfl) ?_
  refine hAllOk.c 21 (ok_no) ?_
  refine hAllOk.c 22 (ok_iload (by decide +kernel) rfl) ?_
  refine hAllOk.c 23 (ok_no) ?_
  refine hAllOk.c 24 (ok_aload_n (f := 0) rfl (by decide +kernel) rfl) ?_
  refine hAllOk.c 25 (ok_iconst (n := 1) (by decide +kernel) (by decide +kernel) rfl) ?_
  refine hAllOk.c 26 (ok_callV (idx := 9) ⟨wd_t_413, wd_t_1, by decide +kernel, by decide +kernel⟩ rfl rfl wd_t_410 wd_t_411 wd_t_412 (by decide +kernel) rfl) ?_
  refine hAllOk.c 27 (ok_no) ?_
  refine hAllOk.c 28 (ok_no) ?_
  refine hAllOk.c 29 (ok_icge (off := 528) (by decide +kernel) (by decide +kernel) rfl) ?_
  refine hAllOk.c 30 (ok_no) ?_
  refine hAllOk.c 31 (ok_no) ?_
  refine hAllOk.c 32 (ok_iload (by decide +kernel) rfl) ?_
  refine hAllOk.c 33 (ok_no) ?_
  refine hAllOk.c 34 (ok_ifeq (off := 523) (by decide +kernel) (by decide +kernel) rfl) ?_
  refine hAllOk.c 35 (ok_no) ?_
  refine hAllOk.c 36 (ok_no) ?_
  refine hAllOk.c 37 (ok_aload_n (f := 0) rfl (by decide +kernel) rfl) ?_
  refine hAllOk.c 38 (ok_iload (by decide +kernel) rfl) ?_
  refine hAllOk.c 39 (ok_no) ?_
  refine hAllOk.c 40 (ok_iconst (n := 0) (by decide +kernel) (by decide +kernel) rfl) ?_
  refine hAllOk.c 41 (ok_callV (idx := 44) ⟨wd_t_473, wd_t_1, by decide +kernel, by decide +kernel⟩ rfl rfl wd_t_470 wd_t_471 wd_t_472 (by decide +kernel) rfl) ?_
  refine hAllOk.c 42 (ok_no) ?_
  refine hAllOk.c 43 (ok_no) ?_
  refine hAllOk.c 44 (ok_istore (by decide) (by decide +kernel) rfl) ?_
  refine hAllOk.c 45 (ok_no) ?_
  refine hAllOk.c 46 (ok_aload_n (f := 0) rfl (by decide +kernel) rfl) ?_
  refine hAllOk.c 47 (ok_iload (by decide +kernel) rfl) ?_
  refine hAllOk.c 48 (ok_no) ?_
  refine hAllOk.c 49 (ok_iconst (n := 2) (by decide +kernel) (by decide +kernel) rfl) ?_
  refine hAllOk.c 50 (ok_callV (idx := 44) ⟨wd_t_473, wd_t_1, by decide +kernel, by decide +kernel⟩ rfl rfl wd_t_470 wd_t_471 wd_t_472 (by decide +kernel) rfl) ?_
  refine hAllOk.c 51 (ok_no) ?_
  refine hAllOk.c 52 (ok_no) ?_
  refine hAllOk.c 53 (ok_istore (by decide) (by decide +kernel) rfl) ?_
  refine hAllOk.c 54 (ok_no) ?_
  refine hAllOk.c 55 (ok_iload_n (f := 2) rfl (by decide +kernel) rfl) ?_
  refine hAllOk.c 56 (ok_aload_n (f := 0) rfl (by decide +kernel) rfl) ?_
  refine hAllOk.c 57 (ok_iload (by decide +kernel) rfl) ?_
  refine hAllOk.c 58 (ok_no) ?_
  refine hAllOk.c 59 (ok_iconst (n := 5) (by decide +kernel) (by decide +kernel) rfl) ?_
  refine hAllOk.c 60 (ok_callV (idx := 15) ⟨wd_t_451, wd_t_1, by decide +kernel, by decide +kernel⟩ rfl rfl wd_t_448 wd_t_449 wd_t_450 (by decide +kernel) rfl) ?_
  refine hAllOk.c 61 (ok_no) ?_
  refine hAllOk.c 62 (ok_no) ?_
  refine hAllOk.c 63 (ok_iadd (by decide +kernel) rfl) ?_
  refine hAllOk.c 64 (ok_istore_n (f := 2) rfl (by decide) (by decide +kernel) rfl) ?_
  refine hAllOk.c 65 (ok_iload_n (f := 3) rfl (by decide +kernel) rfl) ?_
  refine hAllOk.c 66 (ok_aload_n (f := 0) rfl (by decide +kernel) rfl) ?_
  refine hAllOk.c 67 (ok_iload (by decide +kernel) rfl) ?_
  refine hAllOk.c 68 (ok_no) ?_
  refine hAllOk.c 69 (ok_bipush (n := 6) (by decide +kernel) (by decide +kernel) rfl) ?_
  refine hAllOk.c 70 (ok_no) ?_
  refine hAllOk.c 71 (ok_callV (idx := 15) ⟨wd_t_451, wd_t_1, by decide +kernel, by decide +kernel⟩ rfl rfl wd_t_448 wd_t_449 wd_t_450 (by decide +kernel) rfl) ?_
  refine hAllOk.c 72 (ok_no) ?_
  refine hAllOk.c 73 (ok_no) ?_
  refine hAllOk.c 74 (ok_iadd (by decide +kernel) rfl) ?_
  refine hAllOk.c 75 (ok_istore_n (f := 3) rfl (by decide) (by decide +kernel) rfl) ?_
  refine hAllOk.c 76 (ok_iload (by decide +kernel) rfl) ?_
  refine hAllOk.c 77 (ok_no) ?_
  refine hAllOk.c 78 (ok_aload_n (f := 0) rfl (by decide +kernel) rfl) ?_
  refine hAllOk.c 79 (ok_iload (by decide +kernel) rfl) ?_
  refine hAllOk.c 80 (ok_no) ?_
  refine hAllOk.c 81 (ok_iconst (n := 3) (by decide +kernel) (by decide +kernel) rfl) ?_
  refine hAllOk.c 82 (ok_callV (idx := 15) ⟨wd_t_451, wd_t_1, by decide +kernel, by decide +kernel⟩ rfl rfl wd_t_448 wd_t_449 wd_t_450 (by decide +kernel) rfl) ?_
  refine hAllOk.c 83 (ok_no) ?_
  refine hAllOk.c 84 (ok_no) ?_
  refine hAllOk.c 85 (ok_iadd (by decide +kernel) rfl) ?_
  refine hAllOk.c 86 (ok_istore (by decide) (by decide +kernel) rfl) ?_
  refine hAllOk.c 87 (ok_no) ?_
  refine hAllOk.c 88 (ok_iload (by decide +kernel) rfl) ?_
  refine hAllOk.c 89 (ok_no) ?_
  refine hAllOk.c 90 (ok_aload_n (f := 0) rfl (by decide +kernel) rfl) ?_
  refine hAllOk.c 91 (ok_iload (by decide +kernel) rfl) ?_
  refine hAllOk.c 92 (ok_no) ?_
  refine hAllOk.c 93 (ok_bipush (n := 7) (by decide +kernel) (by decide +kernel) rfl) ?_
  refine hAllOk.c 94 (ok_no) ?_
  refine hAllOk.c 95 (ok_callV (idx := 15) ⟨wd_t_451, wd_t_1, by decide +kernel, by decide +kernel⟩ rfl rfl wd_t_448 wd_t_449 wd_t_450 (by decide +kernel) rfl) ?_
  refine hAllOk.c 96 (ok_no) ?_
  refine hAllOk.c 97 (ok_no) ?_
  refine hAllOk.c 98 (ok_iflt (off := 10) (by decide +kernel) (by decide +kernel) rfl) ?_
  refine hAllOk.c 99 (ok_no) ?_
  refine hAllOk.c 100 (ok_no) ?_
  refine hAllOk.c 101 (ok_iconst (n := 1) (by decide +kernel) (by decide +kernel) rfl) ?_
  refine hAllOk.c 102 (ok_iload (by decide +kernel) rfl) ?_
  refine hAllOk.c 103 (ok_no) ?_
  refine hAllOk.c 104 (ok_ishl (by decide +kernel) rfl) ?_
  refine hAllOk.c 105 (ok_goto (off := 4) (by decide +kernel) (by decide +kernel)) ?_
  refine hAllOk.c 106 (ok_no) ?_
  refine hAllOk.c 107 (ok_no) ?_
  refine hAllOk.c 108 (ok_iconst (n := 0) (by decide +kernel) (by decide +kernel) rfl) ?_
  refine hAllOk.c 109 (ok_ior (by decide +kernel) rfl) ?_
  refine hAllOk.c 110 (ok_istore (by decide) (by decide +kernel) rfl) ?_
  refine hAllOk.c 111 (ok_no) ?_
  refine hAllOk.c 112 (ok_iload (by decide +kernel) rfl) ?_
  refine hAllOk.c 113 (ok_no) ?_
  refine hAllOk.c 114 (ok_ifne (off := 7) (by decide +kernel) (by decide +kernel) rfl) ?_
  refine hAllOk.c 115 (ok_no) ?_
  refine hAllOk.c 116 (ok_no) ?_
  refine hAllOk.c 117 (ok_iconst (n := 1) (by decide +kernel) (by decide +kernel) rfl) ?_
  refine hAllOk.c 118 (ok_goto (off := 4) (by decide +kernel) (by decide +kernel)) ?_
  refine hAllOk.c 119 (ok_no) ?_
  refine hAllOk.c 120 (ok_no) ?_
  refine hAllOk.c 121 (ok_iconst (n := 0) (by decide +kernel) (by decide +kernel) rfl) ?_
  refine hAllOk.c 122 (ok_iload_n (f := 1) rfl (by decide +kernel) rfl) ?_
  refine hAllOk.c 123 (ok_iload (by decide +kernel) rfl) ?_
  refine hAllOk.c 124 (ok_no) ?_
  refine hAllOk.c 125 (ok_ishr (by decide +kernel) rfl) ?_
  refine hAllOk.c 126 (ok_iconst (n := 1) (by decide +kernel) (by decide +kernel) rfl) ?_
  refine hAllOk.c 127 (ok_iand (by decide +kernel) rfl) ?_
  refine hAllOk.c 128 (ok_iconst (n := 1) (by decide +kernel) (by decide +kernel) rfl) ?_
  refine hAllOk.c 129 (ok_icne (off := 7) (by decide +kernel) (by decide +kernel) rfl) ?_
  refine hAllOk.c 130 (ok_no) ?_
  refine hAllOk.c 131 (ok_no) ?_
  refine hAllOk.c 132 (ok_iconst (n := 1) (by decide +kernel) (by decide +kernel) rfl) ?_
  refine hAllOk.c 133 (ok_goto (off := 4) (by decide +kernel) (by decide +kernel)) ?_
  refine hAllOk.c 134 (ok_no) ?_
  refine hAllOk.c 135 (ok_no) ?_
  refine hAllOk.c 136 (ok_iconst (n := 0) (by decide +kernel) (by decide +kernel) rfl) ?_
  refine hAllOk.c 137 (ok_icne (off := 64) (by decide +kernel) (by decide +kernel) rfl) ?_
  refine hAllOk.c 138 (ok_no) ?_
  refine hAllOk.c 139 (ok_no) ?_
  refine hAllOk.c 140 (ok_iload (by decide +kernel) rfl) ?_
  refine hAllOk.c 141 (ok_no) ?_
  refine hAllOk.c 142 (ok_iconst (n := 1) (by decide +kernel) (by decide +kernel) rfl) ?_
  refine hAllOk.c 143 (ok_icne (off := 7) (by decide +kernel) (by decide +kernel) rfl) ?_
  refine hAllOk.c 144 (ok_no) ?_
  refine hAllOk.c 145 (ok_no) ?_
  refine hAllOk.c 146 (ok_iconst (n := 1) (by decide +kernel) (by decide +kernel) rfl) ?_
  refine hAllOk.c 147 (ok_goto (off := 4) (by decide +kernel) (by decide +kernel)) ?_
  refine hAllOk.c 148 (ok_no) ?_
  refine hAllOk.c 149 (ok_no) ?_
  refine hAllOk.c 150 (ok_iconst (n := 0) (by decide +kernel) (by decide +kernel) rfl) ?_
  refine hAllOk.c 151 (ok_aload_n (f := 0) rfl (by decide +kernel) rfl) ?_
  refine hAllOk.c 152 (ok_iload (by decide +kernel) rfl) ?_
  refine hAllOk.c 153 (ok_no) ?_
  refine hAllOk.c 154 (ok_iconst (n := 2) (by decide +kernel) (by decide +kernel) rfl) ?_
  refine hAllOk.c 155 (ok_callV (idx := 15) ⟨wd_t_451, wd_t_1, by decide +kernel, by decide +kernel⟩ rfl rfl wd_t_448 wd_t_449 wd_t_450 (by decide +kernel) rfl) ?_
  refine hAllOk.c 156 (ok_no) ?_
  refine hAllOk.c 157 (ok_no) ?_
  refine hAllOk.c 158 (ok_ifne (off := 7) (by decide +kernel) (by decide +kernel) rfl) ?_
  refine hAllOk.c 159 (ok_no) ?_
  refine hAllOk.c 160 (ok_no) ?_
  refine hAllOk.c 161 (ok_iconst (n := 1) (by decide +kernel) (by decide +kernel) rfl) ?_
  refine hAllOk.c 162 (ok_goto (off := 4) (by decide +kernel) (by decide +kernel)) ?_
  refine hAllOk.c 163 (ok_no) ?_
  refine hAllOk.c 164 (ok_no) ?_
  refine hAllOk.c 165 (ok_iconst (n := 0) (by decide +kernel) (by decide +kernel) rfl) ?_
  refine hAllOk.c 166 (ok_icne (off := 35) (by decide +kernel) (by decide +kernel) rfl) ?_
  refine hAllOk.c 167 (ok_no) ?_
  refine hAllOk.c 168 (ok_no) ?_
  refine hAllOk.c 169 (ok_aload_n (f := 0) rfl (by decide +kernel) rfl) ?_
  refine hAllOk.c 170 (ok_iload (by decide +kernel) rfl) ?_
  refine hAllOk.c 171 (ok_no) ?_
  refine hAllOk.c 172 (ok_bipush (n := 7) (by decide +kernel) (by decide +kernel) rfl) ?_
  refine hAllOk.c 173 (ok_no) ?_
  refine hAllOk.c 174 (ok_callV (idx := 15) ⟨wd_t_451, wd_t_1, by decide +kernel, by decide +kernel⟩ rfl rfl wd_t_448 wd_t_449 wd_t_450 (by decide +kernel) rfl) ?_
  refine hAllOk.c 175 (ok_no) ?_
  refine hAllOk.c 176 (ok_no) ?_
  refine hAllOk.c 177 (ok_iflt (off := 20) (by decide +kernel) (by decide +kernel) rfl) ?_
  refine hAllOk.c 178 (ok_no) ?_
  refine hAllOk.c 179 (ok_no) ?_
  refine hAllOk.c 180 (ok_aload_n (f := 0) rfl (by decide +kernel) rfl) ?_
  refine hAllOk.c 181 (ok_aload_n (f := 0) rfl (by decide +kernel) rfl) ?_
  refine hAllOk.c 182 (ok_iload (by decide +kernel) rfl) ?_
  refine hAllOk.c 183 (ok_no) ?_
  refine hAllOk.c 184 (ok_bipush (n := 7) (by decide +kernel) (by decide +kernel) rfl) ?_
  refine hAllOk.c 185 (ok_no) ?_
  refine hAllOk.c 186 (ok_callV (idx := 15) ⟨wd_t_451, wd_t_1, by decide +kernel, by decide +kernel⟩ rfl rfl wd_t_448 wd_t_449 wd_t_450 (by decide +kernel) rfl) ?_
  refine hAllOk.c 187 (ok_no) ?_
  refine hAllOk.c 188 (ok_no) ?_
  refine hAllOk.c 189 (ok_callV (idx := 47) ⟨wd_t_481, wd_t_1, by decide +kernel, by decide +kernel⟩ rfl rfl wd_t_478 wd_t_479 wd_t_480 (by decide +kernel) rfl) ?_
  refine hAllOk.c 190 (ok_no) ?_
  refine hAllOk.c 191 (ok_no) ?_
  refine hAllOk.c 192 (ok_iload (by decide +kernel) rfl) ?_
  refine hAllOk.c 193 (ok_no) ?_
  refine hAllOk.c 194 (ok_icne (off := 7) (by decide +kernel) (by decide +kernel) rfl) ?_
  refine hAllOk.c 195 (ok_no) ?_
  refine hAllOk.c 196 (ok_no) ?_
  refine hAllOk.c 197 (ok_iconst (n := 1) (by decide +kernel) (by decide +kernel) rfl) ?_
  refine hAllOk.c 198 (ok_goto (off := 4) (by decide +kernel) (by decide +kernel)) ?_
  refine hAllOk.c 199 (ok_no) ?_
  refine hAllOk.c 200 (ok_no) ?_
  refine hAllOk.c 201 (ok_iconst (n := 0) (by decide +kernel) (by decide +kernel) rfl) ?_
  refine hAllOk.c 202 (ok_istore (by decide) (by decide +kernel) rfl) ?_
  refine hAllOk.c 203 (ok_no) ?_
  refine hAllOk.c 204 (ok_iload (by decide +kernel) rfl) ?_
  refine hAllOk.c 205 (ok_no) ?_
  refine hAllOk.c 206 (ok_ifeq (off := 134) (by decide +kernel) (by decide +kernel) rfl) ?_
  refine hAllOk.c 207 (ok_no) ?_
  refine hAllOk.c 208 (ok_no) ?_
  refine hAllOk.c 209 (ok_iload (by decide +kernel) rfl) ?_
  refine hAllOk.c 210 (ok_no) ?_
  refine hAllOk.c 211 (ok_ifle (off := 106) (by decide +kernel) (by decide +kernel) rfl) ?_
  refine hAllOk.c 212 (ok_no) ?_
  refine hAllOk.c 213 (ok_no) ?_
  refine hAllOk.c 214 (ok_aload_n (f := 0) rfl (by decide +kernel) rfl) ?_
  refine hAllOk.c 215 (ok_iload (by decide +kernel) rfl) ?_
  refine hAllOk.c 216 (ok_no) ?_
  refine hAllOk.c 217 (ok_iconst (n := 1) (by decide +kernel) (by decide +kernel) rfl) ?_
  refine hAllOk.c 218 (ok_callV (idx := 44) ⟨wd_t_473, wd_t_1, by decide +kernel, by decide +kernel⟩ rfl rfl wd_t_470 wd_t_471 wd_t_472 (by decide +kernel) rfl) ?_
  refine hAllOk.c 219 (ok_no) ?_
  refine hAllOk.c 220 (ok_no) ?_
  refine hAllOk.c 221 (ok_aload_n (f := 0) rfl (by decide +kernel) rfl) ?_
  refine hAllOk.c 222 (ok_callV (idx := 50) ⟨wd_t_409, wd_t_1, by decide +kernel, by decide +kernel⟩ rfl rfl wd_t_406 wd_t_407 wd_t_408 (by decide +kernel) rfl) ?_
  refine hAllOk.c 223 (ok_no) ?_
  refine hAllOk.c 224 (ok_no) ?_
  refine hAllOk.c 225 (ok_icge (off := 115) (by decide +kernel) (by decide +kernel) rfl) ?_
  refine hAllOk.c 226 (ok_no) ?_
  refine hAllOk.c 227 (ok_no) ?_
  refine hAllOk.c 228 (ok_iload (by decide +kernel) rfl) ?_
  refine hAllOk.c 229 (ok_no) ?_
  refine hAllOk.c 230 (ok_ifge (off := 29) (by decide +kernel) (by decide +kernel) rfl) ?_
  refine hAllOk.c 231 (ok_no) ?_
  refine hAllOk.c 232 (ok_no) ?_
  refine hAllOk.c 233 (ok_aload_n (f := 0) rfl (by decide +kernel) rfl) ?_
  refine hAllOk.c 234 (ok_iload (by decide +kernel) rfl) ?_
  refine hAllOk.c 235 (ok_no) ?_
  refine hAllOk.c 236 (ok_iconst (n := 3) (by decide +kernel) (by decide +kernel) rfl) ?_
  refine hAllOk.c 237 (ok_callV (idx := 44) ⟨wd_t_473, wd_t_1, by decide +kernel, by decide +kernel⟩ rfl rfl wd_t_470 wd_t_471 wd_t_472 (by decide +kernel) rfl) ?_
  refine hAllOk.c 238 (ok_no) ?_
  refine hAllOk.c 239 (ok_no) ?_
  refine hAllOk.c 240 (ok_iconst (n := 1) (by decide +kernel) (by decide +kernel) rfl) ?_
  refine hAllOk.c 241 (ok_icne (off := 99) (by decide +kernel) (by decide +kernel) rfl) ?_
  refine hAllOk.c 242 (ok_no) ?_
  refine hAllOk.c 243 (ok_no) ?_
  refine hAllOk.c 244 (ok_aload_n (f := 0) rfl (by decide +kernel) rfl) ?_
  refine hAllOk.c 245 (ok_iload (by decide +kernel) rfl) ?_
  refine hAllOk.c 246 (ok_no) ?_
  refine hAllOk.c 247 (ok_iconst (n := 4) (by decide +kernel) (by decide +kernel) rfl) ?_
  refine hAllOk.c 248 (ok_callV (idx := 44) ⟨wd_t_473, wd_t_1, by decide +kernel, by decide +kernel⟩ rfl rfl wd_t_470 wd_t_471 wd_t_472 (by decide +kernel) rfl) ?_
  refine hAllOk.c 249 (ok_no) ?_
  refine hAllOk.c 250 (ok_no) ?_
  refine hAllOk.c 251 (ok_iload (by decide +kernel) rfl) ?_
  refine hAllOk.c 252 (ok_no) ?_
  refine hAllOk.c 253 (ok_icne (off := 87) (by decide +kernel) (by decide +kernel) rfl) ?_
  refine hAllOk.c 254 (ok_no) ?_
  refine hAllOk.c 255 (ok_no) ?_
  refine hAllOk.c 256 (ok_goto (off := 80) (by decide +kernel) (by decide +kernel)) ?_
  refine hAllOk.c 257 (ok_no) ?_
  refine hAllOk.c 258 (ok_no) ?_
  refine hAllOk.c 259 (ok_aload_n (f := 0) rfl (by decide +kernel) rfl) ?_
  refine hAllOk.c 260 (ok_iload (by decide +kernel) rfl) ?_
  refine hAllOk.c 261 (ok_no) ?_
  refine hAllOk.c 262 (ok_iconst (n := 1) (by decide +kernel) (by decide +kernel) rfl) ?_
  refine hAllOk.c 263 (ok_callV (idx := 44) ⟨wd_t_473, wd_t_1, by decide +kernel, by decide +kernel⟩ rfl rfl wd_t_470 wd_t_471 wd_t_472 (by decide +kernel) rfl) ?_
  refine hAllOk.c 264 (ok_no) ?_
  refine hAllOk.c 265 (ok_no) ?_
  refine hAllOk.c 266 (ok_aload_n (f := 0) rfl (by decide +kernel) rfl) ?_
  refine hAllOk.c 267 (ok_iload (by decide +kernel) rfl) ?_
  refine hAllOk.c 268 (ok_no) ?_
  refine hAllOk.c 269 (ok_iconst (n := 1) (by decide +kernel) (by decide +kernel) rfl) ?_
  refine hAllOk.c 270 (ok_callV (idx := 44) ⟨wd_t_473, wd_t_1, by decide +kernel, by decide +kernel⟩ rfl rfl wd_t_470 wd_t_471 wd_t_472 (by decide +kernel) rfl) ?_
  refine hAllOk.c 271 (ok_no) ?_
  refine hAllOk.c 272 (ok_no) ?_
  refine hAllOk.c 273 (ok_iconst (n := 1) (by decide +kernel) (by decide +kernel) rfl) ?_
  refine hAllOk.c 274 (ok_isub (by decide +kernel) rfl) ?_
  refine hAllOk.c 275 (ok_icne (off := 65) (by decide +kernel) (by decide +kernel) rfl) ?_
  refine hAllOk.c 276 (ok_no) ?_
  refine hAllOk.c 277 (ok_no) ?_
  refine hAllOk.c 278 (ok_aload_n (f := 0) rfl (by decide +kernel) rfl) ?_
  refine hAllOk.c 279 (ok_iload (by decide +kernel) rfl) ?_
  refine hAllOk.c 280 (ok_no) ?_
  refine hAllOk.c 281 (ok_iconst (n := 3) (by decide +kernel) (by decide +kernel) rfl) ?_
  refine hAllOk.c 282 (ok_callV (idx := 44) ⟨wd_t_473, wd_t_1, by decide +kernel, by decide +kernel⟩ rfl rfl wd_t_470 wd_t_471 wd_t_472 (by decide +kernel) rfl) ?_
  refine hAllOk.c 283 (ok_no) ?_
  refine hAllOk.c 284 (ok_no) ?_
  refine hAllOk.c 285 (ok_aload_n (f := 0) rfl (by decide +kernel) rfl) ?_
  refine hAllOk.c 286 (ok_iload (by decide +kernel) rfl) ?_
  refine hAllOk.c 287 (ok_no) ?_
  refine hAllOk.c 288 (ok_iconst (n := 3) (by decide +kernel) (by decide +kernel) rfl) ?_
  refine hAllOk.c 289 (ok_callV (idx := 44) ⟨wd_t_473, wd_t_1, by decide +kernel, by decide +kernel⟩ rfl rfl wd_t_470 wd_t_471 wd_t_472 (by decide +kernel) rfl) ?_
  refine hAllOk.c 290 (ok_no) ?_
  refine hAllOk.c 291 (ok_no) ?_
  refine hAllOk.c 292 (ok_iconst (n := 1) (by decide +kernel) (by decide +kernel) rfl) ?_
  refine hAllOk.c 293 (ok_iadd (by decide +kernel) rfl) ?_
  refine hAllOk.c 294 (ok_icne (off := 46) (by decide +kernel) (by decide +kernel) rfl) ?_
  refine hAllOk.c 295 (ok_no) ?_
  refine hAllOk.c 296 (ok_no) ?_
  refine hAllOk.c 297 (ok_aload_n (f := 0) rfl (by decide +kernel) rfl) ?_
  refine hAllOk.c 298 (ok_iload (by decide +kernel) rfl) ?_
  refine hAllOk.c 299 (ok_no) ?_
  refine hAllOk.c 300 (ok_iconst (n := 4) (by decide +kernel) (by decide +kernel) rfl) ?_
  refine hAllOk.c 301 (ok_callV (idx := 44) ⟨wd_t_473, wd_t_1, by decide +kernel, by decide +kernel⟩ rfl rfl wd_t_470 wd_t_471 wd_t_472 (by decide +kernel) rfl) ?_
  refine hAllOk.c 302 (ok_no) ?_
  refine hAllOk.c 303 (ok_no) ?_
  refine hAllOk.c 304 (ok_aload_n (f := 0) rfl (by decide +kernel) rfl) ?_
  refine hAllOk.c 305 (ok_iload (by decide +kernel) rfl) ?_
  refine hAllOk.c 306 (ok_no) ?_
  refine hAllOk.c 307 (ok_iconst (n := 4) (by decide +kernel) (by decide +kernel) rfl) ?_
  refine hAllOk.c 308 (ok_callV (idx := 44) ⟨wd_t_473, wd_t_1, by decide +kernel, by decide +kernel⟩ rfl rfl wd_t_470 wd_t_471 wd_t_472 (by decide +kernel) rfl) ?_
  refine hAllOk.c 309 (ok_no) ?_
  refine hAllOk.c 310 (ok_no) ?_
  refine hAllOk.c 311 (ok_icne (off := 29) (by decide +kernel) (by decide +kernel) rfl) ?_
  refine hAllOk.c 312 (ok_no) ?_
  refine hAllOk.c 313 (ok_no) ?_
  refine hAllOk.c 314 (ok_goto (off := 22) (by decide +kernel) (by decide +kernel)) ?_
  refine hAllOk.c 315 (ok_no) ?_
  refine hAllOk.c 316 (ok_no) ?_
  refine hAllOk.c 317 (ok_iload (by decide +kernel) rfl) ?_
  refine hAllOk.c 318 (ok_no) ?_
  refine hAllOk.c 319 (ok_bipush (n := -5) (by decide +kernel) (by decide +kernel) rfl) ?_
  refine hAllOk.c 320 (ok_no) ?_
  refine hAllOk.c 321 (ok_icne (off := 19) (by decide +kernel) (by decide +kernel) rfl) ?_
  refine hAllOk.c 322 (ok_no) ?_
  refine hAllOk.c 323 (ok_no) ?_
  refine hAllOk.c 324 (ok_aload_n (f := 0) rfl (by decide +kernel) rfl) ?_
  refine hAllOk.c 325 (ok_iload (by decide +kernel) rfl) ?_
  refine hAllOk.c 326 (ok_no) ?_
  refine hAllOk.c 327 (ok_iconst (n := 1) (by decide +kernel) (by decide +kernel) rfl) ?_
  refine hAllOk.c 328 (ok_callV (idx := 44) ⟨wd_t_473, wd_t_1, by decide +kernel, by decide +kernel⟩ rfl rfl wd_t_470 wd_t_471 wd_t_472 (by decide +kernel) rfl) ?_
  refine hAllOk.c 329 (ok_no) ?_
  refine hAllOk.c 330 (ok_no) ?_
  refine hAllOk.c 331 (ok_bipush (n := -5) (by decide +kernel) (by decide +kernel) rfl) ?_
  refine hAllOk.c 332 (ok_no) ?_
  refine hAllOk.c 333 (ok_icne (off := 7) (by decide +kernel) (by decide +kernel) rfl) ?_
  refine hAllOk.c 334 (ok_no) ?_
  refine hAllOk.c 335 (ok_no) ?_
  refine hAllOk.c 336 (ok_iconst (n := 1) (by decide +kernel) (by decide +kernel) rfl) ?_
  refine hAllOk.c 337 (ok_goto (off := 4) (by decide +kernel) (by decide +kernel)) ?_
  refine hAllOk.c 338 (ok_no) ?_
  refine hAllOk.c 339 (ok_no) ?_
  refine hAllOk.c 340 (ok_iconst (n := 0) (by decide +kernel) (by decide +kernel) rfl) ?_
  refine hAllOk.c 341 (ok_istore (by decide) (by decide +kernel) rfl) ?_
  refine hAllOk.c 342 (ok_no) ?_
  refine hAllOk.c 343 (ok_iconst (n := 0) (by decide +kernel) (by decide +kernel) rfl) ?_
  refine hAllOk.c 344 (ok_istore (by decide) (by decide +kernel) rfl) ?_
  refine hAllOk.c 345 (ok_no) ?_
  refine hAllOk.c 346 (ok_iload (by decide +kernel) rfl) ?_
  refine hAllOk.c 347 (ok_no) ?_
  refine hAllOk.c 348 (ok_iconst (n := 1) (by decide +kernel) (by decide +kernel) rfl) ?_
  refine hAllOk.c 349 (ok_aload_n (f := 0) rfl (by decide +kernel) rfl) ?_
  refine hAllOk.c 350 (ok_iconst (n := 1) (by decide +kernel) (by decide +kernel) rfl) ?_
  refine hAllOk.c 351 (ok_callV (idx := 9) ⟨wd_t_413, wd_t_1, by decide +kernel, by decide +kernel⟩ rfl rfl wd_t_410 wd_t_411 wd_t_412 (by decide +kernel) rfl) ?_
  refine hAllOk.c 352 (ok_no) ?_
  refine hAllOk.c 353 (ok_no) ?_
  refine hAllOk.c 354 (ok_ishl (by decide +kernel) rfl) ?_
  refine hAllOk.c 355 (ok_icge (off := 55) (by decide +kernel) (by decide +kernel) rfl) ?_
  refine hAllOk.c 356 (ok_no) ?_
  refine hAllOk.c 357 (ok_no) ?_
  refine hAllOk.c 358 (ok_iload (by decide +kernel) rfl) ?_
  refine hAllOk.c 359 (ok_no) ?_
  refine hAllOk.c 360 (ok_ifeq (off := 50) (by decide +kernel) (by decide +kernel) rfl) ?_
  refine hAllOk.c 361 (ok_no) ?_
  refine hAllOk.c 362 (ok_no) ?_
  refine hAllOk.c 363 (ok_aload_n (f := 0) rfl (by decide +kernel) rfl) ?_
  refine hAllOk.c 364 (ok_iload (by decide +kernel) rfl) ?_
  refine hAllOk.c 365 (ok_no) ?_
  refine hAllOk.c 366 (ok_iload (by decide +kernel) rfl) ?_
  refine hAllOk.c 367 (ok_no) ?_
  refine hAllOk.c 368 (ok_callV (idx := 30) ⟨wd_t_457, wd_t_1, by decide +kernel, by decide +kernel⟩ rfl rfl wd_t_454 wd_t_455 wd_t_456 (by decide +kernel) rfl) ?_
  refine hAllOk.c 369 (ok_no) ?_
  refine hAllOk.c 370 (ok_no) ?_
  refine hAllOk.c 371 (ok_ifeq (off := 26) (by decide +kernel) (by decide +kernel) rfl) ?_
  refine hAllOk.c 372 (ok_no) ?_
  refine hAllOk.c 373 (ok_no) ?_
  refine hAllOk.c 374 (ok_aload_n (f := 0) rfl (by decide +kernel) rfl) ?_
  refine hAllOk.c 375 (ok_iload (by decide +kernel) rfl) ?_
  refine hAllOk.c 376 (ok_no) ?_
  refine hAllOk.c 377 (ok_iload (by decide +kernel) rfl) ?_
  refine hAllOk.c 378 (ok_no) ?_
  refine hAllOk.c 379 (ok_iconst (n := 1) (by decide +kernel) (by decide +kernel) rfl) ?_
  refine hAllOk.c 380 (ok_iload (by decide +kernel) rfl) ?_
  refine hAllOk.c 381 (ok_no) ?_
  refine hAllOk.c 382 (ok_aload_n (f := 0) rfl (by decide +kernel) rfl) ?_
  refine hAllOk.c 383 (ok_iconst (n := 1) (by decide +kernel) (by decide +kernel) rfl) ?_
  refine hAllOk.c 384 (ok_callV (idx := 9) ⟨wd_t_413, wd_t_1, by decide +kernel, by decide +kernel⟩ rfl rfl wd_t_410 wd_t_411 wd_t_412 (by decide +kernel) rfl) ?_
  refine hAllOk.c 385 (ok_no) ?_
  refine hAllOk.c 386 (ok_no) ?_
  refine hAllOk.c 387 (ok_irem (by decide +kernel) rfl) ?_
  refine hAllOk.c 388 (ok_ishl (by decide +kernel) rfl) ?_
  refine hAllOk.c 389 (ok_ior (by decide +kernel) rfl) ?_
  refine hAllOk.c 390 (ok_callV (idx := 30) ⟨wd_t_457, wd_t_1, by decide +kernel, by decide +kernel⟩ rfl rfl wd_t_454 wd_t_455 wd_t_456 (by decide +kernel) rfl) ?_
  refine hAllOk.c 391 (ok_no) ?_
  refine hAllOk.c 392 (ok_no) ?_
  refine hAllOk.c 393 (ok_iconst (n := 1) (by decide +kernel) (by decide +kernel) rfl) ?_
  refine hAllOk.c 394 (ok_icne (off := 7) (by decide +kernel) (by decide +kernel) rfl) ?_
  refine hAllOk.c 395 (ok_no) ?_
  refine hAllOk.c 396 (ok_no) ?_
  refine hAllOk.c 397 (ok_iconst (n := 1) (by decide +kernel) (by decide +kernel) rfl) ?_
  refine hAllOk.c 398 (ok_goto (off := 4) (by decide +kernel) (by decide +kernel)) ?_
  refine hAllOk.c 399 (ok_no) ?_
  refine hAllOk.c 400 (ok_no) ?_
  refine hAllOk.c 401 (ok_iconst (n := 0) (by decide +kernel) (by decide +kernel) rfl) ?_
  refine hAllOk.c 402 (ok_istore (by decide) (by decide +kernel) rfl) ?_
  refine hAllOk.c 403 (ok_no) ?_
  refine hAllOk.c 404 (ok_iinc (n := 1) (by decide +kernel) (by decide) (by decide +kernel) rfl) ?_
  refine hAllOk.c 405 (ok_no) ?_
  refine hAllOk.c 406 (ok_no) ?_
  refine hAllOk.c 407 (ok_goto (off := (-61)) (by decide +kernel) (by decide +kernel)) ?_
  refine hAllOk.c 408 (ok_no) ?_
  refine hAllOk.c 409 (ok_no) ?_
  refine hAllOk.c 410 (ok_aload_n (f := 0) rfl (by decide +kernel) rfl) ?_
  refine hAllOk.c 411 (ok_iload (by decide +kernel) rfl) ?_
  refine hAllOk.c 412 (ok_no) ?_
  refine hAllOk.c 413 (ok_callV (idx := 53) ⟨wd_t_489, wd_t_1, by decide +kernel, by decide +kernel⟩ rfl rfl wd_t_486 wd_t_487 wd_t_488 (by decide +kernel) rfl) ?_
  refine hAllOk.c 414 (ok_no) ?_
  refine hAllOk.c 415 (ok_no) ?_
  refine hAllOk.c 416 (ok_istore (by decide) (by decide +kernel) rfl) ?_
  refine hAllOk.c 417 (ok_no) ?_
  refine hAllOk.c 418 (ok_iload (by decide +kernel) rfl) ?_
  refine hAllOk.c 419 (ok_no) ?_
  refine hAllOk.c 420 (ok_ifeq (off := 65) (by decide +kernel) (by decide +kernel) rfl) ?_
  refine hAllOk.c 421 (ok_no) ?_
  refine hAllOk.c 422 (ok_no) ?_
  refine hAllOk.c 423 (ok_iload (by decide +kernel) rfl) ?_
  refine hAllOk.c 424 (ok_no) ?_
  refine hAllOk.c 425 (ok_ifge (off := 7) (by decide +kernel) (by decide +kernel) rfl) ?_
  refine hAllOk.c 426 (ok_no) ?_
  refine hAllOk.c 427 (ok_no) ?_
  refine hAllOk.c 428 (ok_iconst (n := 1) (by decide +kernel) (by decide +kernel) rfl) ?_
  refine hAllOk.c 429 (ok_goto (off := 4) (by decide +kernel) (by decide +kernel)) ?_
  refine hAllOk.c 430 (ok_no) ?_
  refine hAllOk.c 431 (ok_no) ?_
  refine hAllOk.c 432 (ok_iconst (n := 0) (by decide +kernel) (by decide +kernel) rfl) ?_
  refine hAllOk.c 433 (ok_aload_n (f := 0) rfl (by decide +kernel) rfl) ?_
  refine hAllOk.c 434 (ok_iload (by decide +kernel) rfl) ?_
  refine hAllOk.c 435 (ok_no) ?_
  refine hAllOk.c 436 (ok_iconst (n := 1) (by decide +kernel) (by decide +kernel) rfl) ?_
  refine hAllOk.c 437 (ok_aload_n (f := 0) rfl (by decide +kernel) rfl) ?_
  refine hAllOk.c 438 (ok_iconst (n := 1) (by decide +kernel) (by decide +kernel) rfl) ?_
  refine hAllOk.c 439 (ok_callV (idx := 9) ⟨wd_t_413, wd_t_1, by decide +kernel, by decide +kernel⟩ rfl rfl wd_t_410 wd_t_411 wd_t_412 (by decide +kernel) rfl) ?_
  refine hAllOk.c 440 (ok_no) ?_
  refine hAllOk.c 441 (ok_no) ?_
  refine hAllOk.c 442 (ok_ishl (by decide +kernel) rfl) ?_
  refine hAllOk.c 443 (ok_iconst (n := 1) (by decide +kernel) (by decide +kernel) rfl) ?_
  refine hAllOk.c 444 (ok_isub (by decide +kernel) rfl) ?_
  refine hAllOk.c 445 (ok_callV (idx := 30) ⟨wd_t_457, wd_t_1, by decide +kernel, by decide +kernel⟩ rfl rfl wd_t_454 wd_t_455 wd_t_456 (by decide +kernel) rfl) ?_
  refine hAllOk.c 446 (ok_no) ?_
  refine hAllOk.c 447 (ok_no) ?_
  refine hAllOk.c 448 (ok_ifne (off := 7) (by decide +kernel) (by decide +kernel) rfl) ?_
  refine hAllOk.c 449 (ok_no) ?_
  refine hAllOk.c 450 (ok_no) ?_
  refine hAllOk.c 451 (ok_iconst (n := 1) (by decide +kernel) (by decide +kernel) rfl) ?_
  refine hAllOk.c 452 (ok_goto (off := 4) (by decide +kernel) (by decide +kernel)) ?_
  refine hAllOk.c 453 (ok_no) ?_
  refine hAllOk.c 454 (ok_no) ?_
  refine hAllOk.c 455 (ok_iconst (n := 0) (by decide +kernel) (by decide +kernel) rfl) ?_
  refine hAllOk.c 456 (ok_icne (off := 29) (by decide +kernel) (by decide +kernel) rfl) ?_
  refine hAllOk.c 457 (ok_no) ?_
  refine hAllOk.c 458 (ok_no) ?_
  refine hAllOk.c 459 (ok_aload_n (f := 0) rfl (by decide +kernel) rfl) ?_
  refine hAllOk.c 460 (ok_iload (by decide +kernel) rfl) ?_
  refine hAllOk.c 461 (ok_no) ?_
  refine hAllOk.c 462 (ok_iconst (n := 4) (by decide +kernel) (by decide +kernel) rfl) ?_
  refine hAllOk.c 463 (ok_callV (idx := 15) ⟨wd_t_451, wd_t_1, by decide +kernel, by decide +kernel⟩ rfl rfl wd_t_448 wd_t_449 wd_t_450 (by decide +kernel) rfl) ?_
  refine hAllOk.c 464 (ok_no) ?_
  refine hAllOk.c 465 (ok_no) ?_
  refine hAllOk.c 466 (ok_iconst (n := 1) (by decide +kernel) (by decide +kernel) rfl) ?_
  refine hAllOk.c 467 (ok_aload_n (f := 0) rfl (by decide +kernel) rfl) ?_
  refine hAllOk.c 468 (ok_iconst (n := 1) (by decide +kernel) (by decide +kernel) rfl) ?_
  refine hAllOk.c 469 (ok_callV (idx := 9) ⟨wd_t_413, wd_t_1, by decide +kernel, by decide +kernel⟩ rfl rfl wd_t_410 wd_t_411 wd_t_412 (by decide +kernel) rfl) ?_
  refine hAllOk.c 470 (ok_no) ?_
  refine hAllOk.c 471 (ok_no) ?_
  refine hAllOk.c 472 (ok_ishl (by decide +kernel) rfl) ?_
  refine hAllOk.c 473 (ok_iconst (n := 1) (by decide +kernel) (by decide +kernel) rfl) ?_
  refine hAllOk.c 474 (ok_isub (by decide +kernel) rfl) ?_
  refine hAllOk.c 475 (ok_iconst (n := -1) (by decide +kernel) (by decide +kernel) rfl) ?_
  refine hAllOk.c 476 (ok_ixor (by decide +kernel) rfl) ?_
  refine hAllOk.c 477 (ok_iand (by decide +kernel) rfl) ?_
  refine hAllOk.c 478 (ok_ifne (off := 7) (by decide +kernel) (by decide +kernel) rfl) ?_
  refine hAllOk.c 479 (ok_no) ?_
  refine hAllOk.c 480 (ok_no) ?_
  refine hAllOk.c 481 (ok_iconst (n := 1) (by decide +kernel) (by decide +kernel) rfl) ?_
  refine hAllOk.c 482 (ok_goto (off := 4) (by decide +kernel) (by decide +kernel)) ?_
  refine hAllOk.c 483 (ok_no) ?_
  refine hAllOk.c 484 (ok_no) ?_
  refine hAllOk.c 485 (ok_iconst (n := 0) (by decide +kernel) (by decide +kernel) rfl) ?_
  refine hAllOk.c 486 (ok_istore (by decide) (by decide +kernel) rfl) ?_
  refine hAllOk.c 487 (ok_no) ?_
  refine hAllOk.c 488 (ok_aload_n (f := 0) rfl (by decide +kernel) rfl) ?_
  refine hAllOk.c 489 (ok_iload (by decide +kernel) rfl) ?_
  refine hAllOk.c 490 (ok_no) ?_
  refine hAllOk.c 491 (ok_callV (idx := 56) ⟨wd_t_494, wd_t_1, by decide +kernel, by decide +kernel⟩ rfl rfl wd_t_491 wd_t_492 wd_t_493 (by decide +kernel) rfl) ?_
  refine hAllOk.c 492 (ok_no) ?_
  refine hAllOk.c 493 (ok_no) ?_
  refine hAllOk.c 494 (ok_istore (by decide) (by decide +kernel) rfl) ?_
  refine hAllOk.c 495 (ok_no) ?_
  refine hAllOk.c 496 (ok_iload (by decide +kernel) rfl) ?_
  refine hAllOk.c 497 (ok_no) ?_
  refine hAllOk.c 498 (ok_ifeq (off := 50) (by decide +kernel) (by decide +kernel) rfl) ?_
  refine hAllOk.c 499 (ok_no) ?_
  refine hAllOk.c 500 (ok_no) ?_
  refine hAllOk.c 501 (ok_aload_n (f := 0) rfl (by decide +kernel) rfl) ?_
  refine hAllOk.c 502 (ok_iload (by decide +kernel) rfl) ?_
  refine hAllOk.c 503 (ok_no) ?_
  refine hAllOk.c 504 (ok_iconst (n := 2) (by decide +kernel) (by decide +kernel) rfl) ?_
  refine hAllOk.c 505 (ok_callV (idx := 15) ⟨wd_t_451, wd_t_1, by decide +kernel, by decide +kernel⟩ rfl rfl wd_t_448 wd_t_449 wd_t_450 (by decide +kernel) rfl) ?_
  refine hAllOk.c 506 (ok_no) ?_
  refine hAllOk.c 507 (ok_no) ?_
  refine hAllOk.c 508 (ok_ifne (off := 13) (by decide +kernel) (by decide +kernel) rfl) ?_
  refine hAllOk.c 509 (ok_no) ?_
  refine hAllOk.c 510 (ok_no) ?_
  refine hAllOk.c 511 (ok_iload (by decide +kernel) rfl) ?_
  refine hAllOk.c 512 (ok_no) ?_
  refine hAllOk.c 513 (ok_bipush (n := -5) (by decide +kernel) (by decide +kernel) rfl) ?_
  refine hAllOk.c 514 (ok_no) ?_
  refine hAllOk.c 515 (ok_icne (off := 33) (by decide +kernel) (by decide +kernel) rfl) ?_
  refine hAllOk.c 516 (ok_no) ?_
  refine hAllOk.c 517 (ok_no) ?_
  refine hAllOk.c 518 (ok_goto (off := 26) (by decide +kernel) (by decide +kernel)) ?_
  refine hAllOk.c 519 (ok_no) ?_
  refine hAllOk.c 520 (ok_no) ?_
  refine hAllOk.c 521 (ok_iload (by decide +kernel) rfl) ?_
  refine hAllOk.c 522 (ok_no) ?_
  refine hAllOk.c 523 (ok_ifne (off := 7) (by decide +kernel) (by decide +kernel) rfl) ?_
  refine hAllOk.c 524 (ok_no) ?_
  refine hAllOk.c 525 (ok_no) ?_
  refine hAllOk.c 526 (ok_iconst (n := 1) (by decide +kernel) (by decide +kernel) rfl) ?_
  refine hAllOk.c 527 (ok_goto (off := 4) (by decide +kernel) (by decide +kernel)) ?_
  refine hAllOk.c 528 (ok_no) ?_
  refine hAllOk.c 529 (ok_no) ?_
  refine hAllOk.c 530 (ok_iconst (n := 0) (by decide +kernel) (by decide +kernel) rfl) ?_
  refine hAllOk.c 531 (ok_iload (by decide +kernel) rfl) ?_
  refine hAllOk.c 532 (ok_no) ?_
  refine hAllOk.c 533 (ok_ifle (off := 7) (by decide +kernel) (by decide +kernel) rfl) ?_
  refine hAllOk.c 534 (ok_no) ?_
  refine hAllOk.c 535 (ok_no) ?_
  refine hAllOk.c 536 (ok_iconst (n := 1) (by decide +kernel) (by decide +kernel) rfl) ?_
  refine hAllOk.c 537 (ok_goto (off := 4) (by decide +kernel) (by decide +kernel)) ?_
  refine hAllOk.c 538 (ok_no) ?_
  refine hAllOk.c 539 (ok_no) ?_
  refine hAllOk.c 540 (ok_iconst (n := 0) (by decide +kernel) (by decide +kernel) rfl) ?_
  refine hAllOk.c 541 (ok_icne (off := 7) (by decide +kernel) (by decide +kernel) rfl) ?_
  refine hAllOk.c 542 (ok_no) ?_
  refine hAllOk.c 543 (ok_no) ?_
  refine hAllOk.c 544 (ok_iconst (n := 1) (by decide +kernel) (by decide +kernel) rfl) ?_
  refine hAllOk.c 545 (ok_goto (off := 4) (by decide +kernel) (by decide +kernel)) ?_
  refine hAllOk.c 546 (ok_no) ?_
  refine hAllOk.c 547 (ok_no) ?_
  refine hAllOk.c 548 (ok_iconst (n := 0) (by decide +kernel) (by decide +kernel) rfl) ?_
  refine hAllOk.c 549 (ok_istore (by decide) (by decide +kernel) rfl) ?_
  refine hAllOk.c 550 (ok_no) ?_
  refine hAllOk.c 551 (ok_iinc (n := 1) (by decide +kernel) (by decide) (by decide +kernel) rfl) ?_
  refine hAllOk.c 552 (ok_no) ?_
  refine hAllOk.c 553 (ok_no) ?_
  refine hAllOk.c 554 (ok_goto (off := (-532)) (by decide +kernel) (by decide +kernel)) ?_
  refine hAllOk.c 555 (ok_no) ?_
  refine hAllOk.c 556 (ok_no) ?_
  refine hAllOk.c 557 (ok_aload_n (f := 0) rfl (by decide +kernel) rfl) ?_
  refine hAllOk.c 558 (ok_iconst (n := 3) (by decide +kernel) (by decide +kernel) rfl) ?_
  refine hAllOk.c 559 (ok_callV (idx := 19) ⟨wd_t_393, wd_t_1, by decide +kernel, by decide +kernel⟩ rfl rfl wd_t_390 wd_t_391 wd_t_392 (by decide +kernel) rfl) ?_
  refine hAllOk.c 560 (ok_no) ?_
  refine hAllOk.c 561 (ok_no) ?_
  refine hAllOk.c 562 (ok_istore (by decide) (by decide +kernel) rfl) ?_
  refine hAllOk.c 563 (ok_no) ?_
  refine hAllOk.c 564 (ok_iload (by decide +kernel) rfl) ?_
  refine hAllOk.c 565 (ok_no) ?_
  refine hAllOk.c 566 (ok_ifeq (off := 83) (by decide +kernel) (by decide +kernel) rfl) ?_
  refine hAllOk.c 567 (ok_no) ?_
  refine hAllOk.c 568 (ok_no) ?_
  refine hAllOk.c 569 (ok_iload_n (f := 2) rfl (by decide +kernel) rfl) ?_
  refine hAllOk.c 570 (ok_aload_n (f := 0) rfl (by decide +kernel) rfl) ?_
  refine hAllOk.c 571 (ok_bipush (n := 9) (by decide +kernel) (by decide +kernel) rfl) ?_
  refine hAllOk.c 572 (ok_no) ?_
  refine hAllOk.c 573 (ok_callV (idx := 9) ⟨wd_t_413, wd_t_1, by decide +kernel, by decide +kernel⟩ rfl rfl wd_t_410 wd_t_411 wd_t_412 (by decide +kernel) rfl) ?_
  refine hAllOk.c 574 (ok_no) ?_
  refine hAllOk.c 575 (ok_no) ?_
  refine hAllOk.c 576 (ok_icne (off := 73) (by decide +kernel) (by decide +kernel) rfl) ?_
  refine hAllOk.c 577 (ok_no) ?_
  refine hAllOk.c 578 (ok_no) ?_
  refine hAllOk.c 579 (ok_iload_n (f := 3) rfl (by decide +kernel) rfl) ?_
  refine hAllOk.c 580 (ok_aload_n (f := 0) rfl (by decide +kernel) rfl) ?_
  refine hAllOk.c 581 (ok_bipush (n := 10) (by decide +kernel) (by decide +kernel) rfl) ?_
  refine hAllOk.c 582 (ok_no) ?_
  refine hAllOk.c 583 (ok_callV (idx := 9) ⟨wd_t_413, wd_t_1, by decide +kernel, by decide +kernel⟩ rfl rfl wd_t_410 wd_t_411 wd_t_412 (by decide +kernel) rfl) ?_
  refine hAllOk.c 584 (ok_no) ?_
  refine hAllOk.c 585 (ok_no) ?_
  refine hAllOk.c 586 (ok_icne (off := 63) (by decide +kernel) (by decide +kernel) rfl) ?_
  refine hAllOk.c 587 (ok_no) ?_
  refine hAllOk.c 588 (ok_no) ?_
  refine hAllOk.c 589 (ok_iload (by decide +kernel) rfl) ?_
  refine hAllOk.c 590 (ok_no) ?_
  refine hAllOk.c 591 (ok_aload_n (f := 0) rfl (by decide +kernel) rfl) ?_
  refine hAllOk.c 592 (ok_bipush (n := 14) (by decide +kernel) (by decide +kernel) rfl) ?_
  refine hAllOk.c 593 (ok_no) ?_
  refine hAllOk.c 594 (ok_callV (idx := 9) ⟨wd_t_413, wd_t_1, by decide +kernel, by decide +kernel⟩ rfl rfl wd_t_410 wd_t_411 wd_t_412 (by decide +kernel) rfl) ?_
  refine hAllOk.c 595 (ok_no) ?_
  refine hAllOk.c 596 (ok_no) ?_
  refine hAllOk.c 597 (ok_icne (off := 52) (by decide +kernel) (by decide +kernel) rfl) ?_
  refine hAllOk.c 598 (ok_no) ?_
  refine hAllOk.c 599 (ok_no) ?_
  refine hAllOk.c 600 (ok_iload_n (f := 3) rfl (by decide +kernel) rfl) ?_
  refine hAllOk.c 601 (ok_iload_n (f := 2) rfl (by decide +kernel) rfl) ?_
  refine hAllOk.c 602 (ok_icgt (off := 47) (by decide +kernel) (by decide +kernel) rfl) ?_
  refine hAllOk.c 603 (ok_no) ?_
  refine hAllOk.c 604 (ok_no) ?_
  refine hAllOk.c 605 (ok_aload_n (f := 0) rfl (by decide +kernel) rfl) ?_
  refine hAllOk.c 606 (ok_bipush (n := 8) (by decide +kernel) (by decide +kernel) rfl) ?_
  refine hAllOk.c 607 (ok_no) ?_
  refine hAllOk.c 608 (ok_callV (idx := 9) ⟨wd_t_413, wd_t_1, by decide +kernel, by decide +kernel⟩ rfl rfl wd_t_410 wd_t_411 wd_t_412 (by decide +kernel) rfl) ?_
  refine hAllOk.c 609 (ok_no) ?_
  refine hAllOk.c 610 (ok_no) ?_
  refine hAllOk.c 611 (ok_iconst (n := 1) (by decide +kernel) (by decide +kernel) rfl) ?_
  refine hAllOk.c 612 (ok_icne (off := 7) (by decide +kernel) (by decide +kernel) rfl) ?_
  refine hAllOk.c 613 (ok_no) ?_
  refine hAllOk.c 614 (ok_no) ?_
  refine hAllOk.c 615 (ok_iconst (n := 1) (by decide +kernel) (by decide +kernel) rfl) ?_
  refine hAllOk.c 616 (ok_goto (off := 4) (by decide +kernel) (by decide +kernel)) ?_
  refine hAllOk.c 617 (ok_no) ?_
  refine hAllOk.c 618 (ok_no) ?_
  refine hAllOk.c 619 (ok_iconst (n := 0) (by decide +kernel) (by decide +kernel) rfl) ?_
  refine hAllOk.c 620 (ok_iload (by decide +kernel) rfl) ?_
  refine hAllOk.c 621 (ok_no) ?_
  refine hAllOk.c 622 (ok_iflt (off := 7) (by decide +kernel) (by decide +kernel) rfl) ?_
  refine hAllOk.c 623 (ok_no) ?_
  refine hAllOk.c 624 (ok_no) ?_
  refine hAllOk.c 625 (ok_iconst (n := 1) (by decide +kernel) (by decide +kernel) rfl) ?_
  refine hAllOk.c 626 (ok_goto (off := 4) (by decide +kernel) (by decide +kernel)) ?_
  refine hAllOk.c 627 (ok_no) ?_
  refine hAllOk.c 628 (ok_no) ?_
  refine hAllOk.c 629 (ok_iconst (n := 0) (by decide +kernel) (by decide +kernel) rfl) ?_
  refine hAllOk.c 630 (ok_icne (off := 19) (by decide +kernel) (by decide +kernel) rfl) ?_
  refine hAllOk.c 631 (ok_no) ?_
  refine hAllOk.c 632 (ok_no) ?_
  refine hAllOk.c 633 (ok_iload (by decide +kernel) rfl) ?_
  refine hAllOk.c 634 (ok_no) ?_
  refine hAllOk.c 635 (ok_iflt (off := 10) (by decide +kernel) (by decide +kernel) rfl) ?_
  refine hAllOk.c 636 (ok_no) ?_
  refine hAllOk.c 637 (ok_no) ?_
  refine hAllOk.c 638 (ok_iload (by decide +kernel) rfl) ?_
  refine hAllOk.c 639 (ok_no) ?_
  refine hAllOk.c 640 (ok_iload (by decide +kernel) rfl) ?_
  refine hAllOk.c 641 (ok_no) ?_
  refine hAllOk.c 642 (ok_icne (off := 7) (by decide +kernel) (by decide +kernel) rfl) ?_
  refine hAllOk.c 643 (ok_no) ?_
  refine hAllOk.c 644 (ok_no) ?_
  refine hAllOk.c 645 (ok_iconst (n := 1) (by decide +kernel) (by decide +kernel) rfl) ?_
  refine hAllOk.c 646 (ok_goto (off := 4) (by decide +kernel) (by decide +kernel)) ?_
  refine hAllOk.c 647 (ok_no) ?_
  refine hAllOk.c 648 (ok_no) ?_
  refine hAllOk.c 649 (ok_iconst (n := 0) (by decide +kernel) (by decide +kernel) rfl) ?_
  refine hAllOk.c 650 (ok_ireturn (by decide +kernel)) ?_
  trivial
theorem wd_t_8 : Cond.classLink RL 10 RX5 ∈ hTb := hTb_t (List.mem_of_getElem? (i := 8) (by decide +kernel)) (by decide +kernel)
theorem wd_t_9 : Cond.instantiable RX5 8 ∈ hTb := hTb_t (List.mem_of_getElem? (i := 9) (by decide +kernel)) (by decide +kernel)
theorem wd_t_10 : Cond.methodLink RL 101 yX5_init ∈ hTb := hTb_t (List.mem_of_getElem? (i := 10) (by decide +kernel)) (by decide +kernel)
theorem wd_t_12 : Cond.code yX5_init prog_1_method_1_code 1 none ∈ hTb := hTb_t (List.mem_of_getElem? (i := 12) (by decide +kernel)) (by decide +kernel)
theorem wd_t_11 : Cond.instanceMethod yX5_init ∈ hTb := hTb_t (List.mem_of_getElem? (i := 11) (by decide +kernel)) (by decide +kernel)
theorem wd_t_426 : Cond.methodLink RL 102 yL_cell ∈ hTb := hTb_t (List.mem_of_getElem? (i := 426) (by decide +kernel)) (by decide +kernel)
theorem wd_t_428 : Cond.code yL_cell method_2_code 2 (some .int) ∈ hTb := hTb_t (List.mem_of_getElem? (i := 428) (by decide +kernel)) (by decide +kernel)
theorem wd_t_427 : Cond.static yL_cell ∈ hTb := hTb_t (List.mem_of_getElem? (i := 427) (by decide +kernel)) (by decide +kernel)
theorem wd_t_219 : Cond.methodLink RL 106 yX5_addGuest ∈ hTb := hTb_t (List.mem_of_getElem? (i := 219) (by decide +kernel)) (by decide +kernel)
theorem wd_t_222 : Cond.code yX5_addGuest prog_1_method_2_code 3 (some .int) ∈ hTb := hTb_t (List.mem_of_getElem? (i := 222) (by decide +kernel)) (by decide +kernel)
theorem wd_t_220 : Cond.instanceMethod yX5_addGuest ∈ hTb := hTb_t (List.mem_of_getElem? (i := 220) (by decide +kernel)) (by decide +kernel)
theorem wd_t_221 : Cond.selects RX5 yX5_addGuest yX5_addGuest ∈ hTb := hTb_t (List.mem_of_getElem? (i := 221) (by decide +kernel)) (by decide +kernel)
theorem wd_t_495 : Cond.methodLink RL 109 yL_acts ∈ hTb := hTb_t (List.mem_of_getElem? (i := 495) (by decide +kernel)) (by decide +kernel)
theorem wd_t_497 : Cond.code yL_acts method_8_code 13 (some .boolean) ∈ hTb := hTb_t (List.mem_of_getElem? (i := 497) (by decide +kernel)) (by decide +kernel)
theorem wd_t_496 : Cond.static yL_acts ∈ hTb := hTb_t (List.mem_of_getElem? (i := 496) (by decide +kernel)) (by decide +kernel)
theorem wd_t_431 : Cond.methodLink RL 113 yL_companies ∈ hTb := hTb_t (List.mem_of_getElem? (i := 431) (by decide +kernel)) (by decide +kernel)
theorem wd_t_433 : Cond.code yL_companies method_5_code 10 (some .boolean) ∈ hTb := hTb_t (List.mem_of_getElem? (i := 433) (by decide +kernel)) (by decide +kernel)
theorem wd_t_432 : Cond.static yL_companies ∈ hTb := hTb_t (List.mem_of_getElem? (i := 432) (by decide +kernel)) (by decide +kernel)
theorem wd_t_467 : Cond.methodLink RL 116 yL_guests ∈ hTb := hTb_t (List.mem_of_getElem? (i := 467) (by decide +kernel)) (by decide +kernel)
theorem wd_t_469 : Cond.code yL_guests method_6_code 12 (some .boolean) ∈ hTb := hTb_t (List.mem_of_getElem? (i := 469) (by decide +kernel)) (by decide +kernel)
theorem wd_t_468 : Cond.static yL_guests ∈ hTb := hTb_t (List.mem_of_getElem? (i := 468) (by decide +kernel)) (by decide +kernel)
theorem wd_t_381 : Cond.methodLink RL 119 yX5_keep ∈ hTb := hTb_t (List.mem_of_getElem? (i := 381) (by decide +kernel)) (by decide +kernel)
theorem wd_t_384 : Cond.code yX5_keep prog_1_method_15_code 1 (some .int) ∈ hTb := hTb_t (List.mem_of_getElem? (i := 384) (by decide +kernel)) (by decide +kernel)
theorem wd_t_382 : Cond.instanceMethod yX5_keep ∈ hTb := hTb_t (List.mem_of_getElem? (i := 382) (by decide +kernel)) (by decide +kernel)
theorem wd_t_383 : Cond.selects RX5 yX5_keep yX5_keep ∈ hTb := hTb_t (List.mem_of_getElem? (i := 383) (by decide +kernel)) (by decide +kernel)
theorem wd_t_373 : Cond.methodLink RL 122 yX5_undo ∈ hTb := hTb_t (List.mem_of_getElem? (i := 373) (by decide +kernel)) (by decide +kernel)
theorem wd_t_376 : Cond.code yX5_undo prog_1_method_14_code 1 (some .int) ∈ hTb := hTb_t (List.mem_of_getElem? (i := 376) (by decide +kernel)) (by decide +kernel)
theorem wd_t_374 : Cond.instanceMethod yX5_undo ∈ hTb := hTb_t (List.mem_of_getElem? (i := 374) (by decide +kernel)) (by decide +kernel)
theorem wd_t_375 : Cond.selects RX5 yX5_undo yX5_undo ∈ hTb := hTb_t (List.mem_of_getElem? (i := 375) (by decide +kernel)) (by decide +kernel)
theorem wd_t_386 : Cond.methodLink RL 125 yX5_restore ∈ hTb := hTb_t (List.mem_of_getElem? (i := 386) (by decide +kernel)) (by decide +kernel)
theorem wd_t_389 : Cond.code yX5_restore prog_1_method_16_code 1 (some .int) ∈ hTb := hTb_t (List.mem_of_getElem? (i := 389) (by decide +kernel)) (by decide +kernel)
theorem wd_t_387 : Cond.instanceMethod yX5_restore ∈ hTb := hTb_t (List.mem_of_getElem? (i := 387) (by decide +kernel)) (by decide +kernel)
theorem wd_t_388 : Cond.selects RX5 yX5_restore yX5_restore ∈ hTb := hTb_t (List.mem_of_getElem? (i := 388) (by decide +kernel)) (by decide +kernel)
def M_La_law : hM := (yL_law, code, 6, (some .boolean), 12, 472)
def code_La_law (K : hK) (B : Nat × Nat) (Q : hPost) : List hSem := [x_new B 3 5 8 [.null, .null, .null, .int 0, .null, .int 0, .null, .null], x_no, x_no, x_dup 4, x_callI K B 7 M_Pa_init 0, x_no, x_no, x_astore 8 1, x_aload 9 0, x_const 10 (0), x_callS K 13 M_La_cell 2, x_no, x_no, x_istore 14 2, x_aload 15 1, x_const 16 (0), x_callV K 19 M_Pa_company 5 1, x_no, x_no, x_ifne 97 22, x_no, x_no, x_aload 23 1, x_const 24 (2), x_callV K 27 M_Pa_company 5 1, x_no, x_no, x_const 29 (-5), x_no, x_icne 97 32, x_no, x_no, x_aload 33 1, x_callV K 36 M_Pa_companies 5 0, x_no, x_no, x_const 37 (1), x_icne 97 40, x_no, x_no, x_aload 41 1, x_callV K 44 M_Pa_rounds 5 0, x_no, x_no, x_const 45 (1), x_icne 97 48, x_no, x_no, x_aload 49 1, x_callV K 52 M_Pa_fix 5 0, x_no, x_no, x_const 54 (-5), x_no, x_icne 97 57, x_no, x_no, x_aload 58 1, x_const 59 (0), x_const 62 (900), x_no, x_no, x_iload 63 2, x_const 66 (6000), x_no, x_no, x_irem 67, x_iadd 68, x_callV K 71 M_Pa_set 5 2, x_no, x_no, x_const 74 (10000), x_no, x_no, x_icne 97 77, x_no, x_no, x_aload 78 1, x_const 79 (1), x_iload 80 2, x_const 83 (300), x_no, x_no, x_irem 84, x_callV K 87 M_Pa_set 5 2, x_no, x_no, x_const 90 (500), x_no, x_no, x_icne 97 93, x_no, x_no, x_const 94 (1), x_goto 98, x_no, x_no, x_const 98 (0), x_istore 99 3, x_const 100 (0), x_istore 102 4, x_no, x_iload 104 4, x_no, x_const 105 (3), x_iload 106 2, x_const 107 (4), x_irem 108, x_iadd 109, x_icge 167 112, x_no, x_no, x_iload 113 3, x_ifeq 167 116, x_no, x_no, x_aload 117 0, x_const 118 (1), x_iload 120 4, x_no, x_iadd 121, x_callS K 124 M_La_cell 2, x_no, x_no, x_istore 126 5, x_no, x_aload 127 1, x_const 130 (200), x_no, x_no, x_iload 132 5, x_no, x_const 135 (4000), x_no, x_no, x_irem 136, x_iadd 137, x_const 138 (1), x_iload 140 5, x_no, x_const 142 (12), x_no, x_ishr 143, x_const 145 (9), x_no, x_irem 146, x_iadd 147, x_callV K 150 M_Pa_addGuest 5 2, x_no, x_no, x_iload 152 4, x_no, x_icne 159 155, x_no, x_no, x_const 156 (1), x_goto 160, x_no, x_no, x_const 160 (0), x_istore 161 3, x_iinc 164 4 (1), x_no, x_no, x_goto 102, x_no, x_no, x_const 168 (0), x_istore 170 4, x_no, x_iload 172 4, x_no, x_const 174 (26), x_no, x_icge 223 177, x_no, x_no, x_iload 178 3, x_ifeq 223 181, x_no, x_no, x_aload 182 1, x_aload 183 0, x_const 185 (8), x_no, x_iload 187 4, x_no, x_iadd 188, x_callS K 191 M_La_cell 2, x_no, x_no, x_callS K 194 M_La_acts 2, x_no, x_no, x_ifeq 215 197, x_no, x_no, x_aload 198 1, x_callS K 201 M_La_companies 1, x_no, x_no, x_ifeq 215 204, x_no, x_no, x_aload 205 1, x_callS K 208 M_La_guests 1, x_no, x_no, x_ifeq 215 211, x_no, x_no, x_const 212 (1), x_goto 216, x_no, x_no, x_const 216 (0), x_istore 217 3, x_iinc 220 4 (1), x_no, x_no, x_goto 170, x_no, x_no, x_aload 224 1, x_const 225 (0), x_callV K 228 M_Pa_company 5 1, x_no, x_no, x_istore 230 4, x_no, x_aload 231 1, x_const 232 (0), x_callV K 235 M_Pa_count 5 1, x_no, x_no, x_istore 237 5, x_no, x_iload 238 3, x_ifeq 310 241, x_no, x_no, x_aload 242 1, x_callV K 245 M_Pa_keep 5 0, x_no, x_no, x_aload 246 1, x_const 247 (1), x_callV K 250 M_Pa_count 5 1, x_no, x_no, x_icne 310 253, x_no, x_no, x_aload 254 1, x_const 255 (1), x_callV K 258 M_Pa_pass 5 1, x_no, x_no, x_iload 260 5, x_no, x_const 261 (1), x_iadd 262, x_icne 310 265, x_no, x_no, x_aload 266 1, x_callV K 269 M_Pa_undo 5 0, x_no, x_no, x_iflt 310 272, x_no, x_no, x_aload 273 1, x_const 274 (0), x_callV K 277 M_Pa_count 5 1, x_no, x_no, x_iload 279 5, x_no, x_icne 310 282, x_no, x_no, x_aload 283 1, x_const 284 (2), x_callV K 287 M_Pa_pass 5 1, x_no, x_no, x_iload 289 5, x_no, x_const 290 (2), x_iadd 291, x_icne 310 294, x_no, x_no, x_aload 295 1, x_callV K 298 M_Pa_restore 5 0, x_no, x_no, x_aload 299 1, x_const 300 (1), x_callV K 303 M_Pa_count 5 1, x_no, x_no, x_icne 310 306, x_no, x_no, x_const 307 (1), x_goto 311, x_no, x_no, x_const 311 (0), x_istore 312 3, x_iload 313 3, x_ifeq 340 316, x_no, x_no, x_aload 317 1, x_const 318 (0), x_callV K 321 M_Pa_count 5 1, x_no, x_no, x_iload 323 5, x_no, x_icne 340 326, x_no, x_no, x_aload 327 1, x_const 328 (0), x_callV K 331 M_Pa_company 5 1, x_no, x_no, x_iload 333 4, x_no, x_icne 340 336, x_no, x_no, x_const 337 (1), x_goto 341, x_no, x_no, x_const 341 (0), x_ireturn (some .boolean) Q]
set_option maxRecDepth 100000 in
set_option maxHeartbeats 4000000 in
theorem okc_La_law (K : hK) (B : Nat × Nat) (Q : hPost) : hAllOk (hJ K M_La_law B Q) 0 (code_La_law K B Q) := by
  refine hAllOk.c 0 (ok_new (idx := 10) (N := 8) (T := TX5) tyX5_ok rfl inTb5 (by decide +kernel) wd_t_8 wd_t_9 wd_t_1 (by decide +kernel) rfl) ?_
  refine hAllOk.c 1 (ok_no) ?_
  refine hAllOk.c 2 (ok_no) ?_
  refine hAllOk.c 3 (ok_dup (by decide +kernel) rfl) ?_
  refine hAllOk.c 4 (ok_callI (idx := 101) ⟨wd_t_12, wd_t_1, by decide +kernel, by decide +kernel⟩ rfl rfl wd_t_10 wd_t_11 (by decide +kernel) rfl) ?_
  refine hAllOk.c 5 (ok_no) ?_
  refine hAllOk.c 6 (ok_no) ?_
  refine hAllOk.c 7 (ok_astore_n (f := 1) rfl (by decide) (by decide +kernel) rfl) ?_
  refine hAllOk.c 8 (ok_aload_n (f := 0) rfl (by decide +kernel) rfl) ?_
  refine hAllOk.c 9 (ok_iconst (n := 0) (by decide +kernel) (by decide +kernel) rfl) ?_
  refine hAllOk.c 10 (ok_callS (idx := 102) ⟨wd_t_428, wd_t_0, by decide +kernel, by decide +kernel⟩ wd_t_426 wd_t_427 (by decide +kernel) rfl) ?_
  refine hAllOk.c 11 (ok_no) ?_
  refine hAllOk.c 12 (ok_no) ?_
  refine hAllOk.c 13 (ok_istore_n (f := 2) rfl (by decide) (by decide +kernel) rfl) ?_
  refine hAllOk.c 14 (ok_aload_n (f := 1) rfl (by decide +kernel) rfl) ?_
  refine hAllOk.c 15 (ok_iconst (n := 0) (by decide +kernel) (by decide +kernel) rfl) ?_
  refine hAllOk.c 16 (ok_callV (idx := 19) ⟨wd_t_393, wd_t_1, by decide +kernel, by decide +kernel⟩ rfl rfl wd_t_390 wd_t_391 wd_t_392 (by decide +kernel) rfl) ?_
  refine hAllOk.c 17 (ok_no) ?_
  refine hAllOk.c 18 (ok_no) ?_
  refine hAllOk.c 19 (ok_ifne (off := 78) (by decide +kernel) (by decide +kernel) rfl) ?_
  refine hAllOk.c 20 (ok_no) ?_
  refine hAllOk.c 21 (ok_no) ?_
  refine hAllOk.c 22 (ok_aload_n (f := 1) rfl (by decide +kernel) rfl) ?_
  refine hAllOk.c 23 (ok_iconst (n := 2) (by decide +kernel) (by decide +kernel) rfl) ?_
  refine hAllOk.c 24 (ok_callV (idx := 19) ⟨wd_t_393, wd_t_1, by decide +kernel, by decide +kernel⟩ rfl rfl wd_t_390 wd_t_391 wd_t_392 (by decide +kernel) rfl) ?_
  refine hAllOk.c 25 (ok_no) ?_
  refine hAllOk.c 26 (ok_no) ?_
  refine hAllOk.c 27 (ok_bipush (n := -5) (by decide +kernel) (by decide +kernel) rfl) ?_
  refine hAllOk.c 28 (ok_no) ?_
  refine hAllOk.c 29 (ok_icne (off := 68) (by decide +kernel) (by decide +kernel) rfl) ?_
  refine hAllOk.c 30 (ok_no) ?_
  refine hAllOk.c 31 (ok_no) ?_
  refine hAllOk.c 32 (ok_aload_n (f := 1) rfl (by decide +kernel) rfl) ?_
  refine hAllOk.c 33 (ok_callV (idx := 40) ⟨wd_t_401, wd_t_1, by decide +kernel, by decide +kernel⟩ rfl rfl wd_t_398 wd_t_399 wd_t_400 (by decide +kernel) rfl) ?_
  refine hAllOk.c 34 (ok_no) ?_
  refine hAllOk.c 35 (ok_no) ?_
  refine hAllOk.c 36 (ok_iconst (n := 1) (by decide +kernel) (by decide +kernel) rfl) ?_
  refine hAllOk.c 37 (ok_icne (off := 60) (by decide +kernel) (by decide +kernel) rfl) ?_
  refine hAllOk.c 38 (ok_no) ?_
  refine hAllOk.c 39 (ok_no) ?_
  refine hAllOk.c 40 (ok_aload_n (f := 1) rfl (by decide +kernel) rfl) ?_
  refine hAllOk.c 41 (ok_callV (idx := 50) ⟨wd_t_409, wd_t_1, by decide +kernel, by decide +kernel⟩ rfl rfl wd_t_406 wd_t_407 wd_t_408 (by decide +kernel) rfl) ?_
  refine hAllOk.c 42 (ok_no) ?_
  refine hAllOk.c 43 (ok_no) ?_
  refine hAllOk.c 44 (ok_iconst (n := 1) (by decide +kernel) (by decide +kernel) rfl) ?_
  refine hAllOk.c 45 (ok_icne (off := 52) (by decide +kernel) (by decide +kernel) rfl) ?_
  refine hAllOk.c 46 (ok_no) ?_
  refine hAllOk.c 47 (ok_no) ?_
  refine hAllOk.c 48 (ok_aload_n (f := 1) rfl (by decide +kernel) rfl) ?_
  refine hAllOk.c 49 (ok_callV (idx := 89) ⟨wd_t_281, wd_t_1, by decide +kernel, by decide +kernel⟩ rfl rfl wd_t_278 wd_t_279 wd_t_280 (by decide +kernel) rfl) ?_
  refine hAllOk.c 50 (ok_no) ?_
  refine hAllOk.c 51 (ok_no) ?_
  refine hAllOk.c 52 (ok_bipush (n := -5) (by decide +kernel) (by decide +kernel) rfl) ?_
  refine hAllOk.c 53 (ok_no) ?_
  refine hAllOk.c 54 (ok_icne (off := 43) (by decide +kernel) (by decide +kernel) rfl) ?_
  refine hAllOk.c 55 (ok_no) ?_
  refine hAllOk.c 56 (ok_no) ?_
  refine hAllOk.c 57 (ok_aload_n (f := 1) rfl (by decide +kernel) rfl) ?_
  refine hAllOk.c 58 (ok_iconst (n := 0) (by decide +kernel) (by decide +kernel) rfl) ?_
  refine hAllOk.c 59 (ok_sipush (n := 900) (by decide +kernel) (by decide +kernel) rfl) ?_
  refine hAllOk.c 60 (ok_no) ?_
  refine hAllOk.c 61 (ok_no) ?_
  refine hAllOk.c 62 (ok_iload_n (f := 2) rfl (by decide +kernel) rfl) ?_
  refine hAllOk.c 63 (ok_sipush (n := 6000) (by decide +kernel) (by decide +kernel) rfl) ?_
  refine hAllOk.c 64 (ok_no) ?_
  refine hAllOk.c 65 (ok_no) ?_
  refine hAllOk.c 66 (ok_irem (by decide +kernel) rfl) ?_
  refine hAllOk.c 67 (ok_iadd (by decide +kernel) rfl) ?_
  refine hAllOk.c 68 (ok_callV (idx := 86) ⟨wd_t_269, wd_t_1, by decide +kernel, by decide +kernel⟩ rfl rfl wd_t_266 wd_t_267 wd_t_268 (by decide +kernel) rfl) ?_
  refine hAllOk.c 69 (ok_no) ?_
  refine hAllOk.c 70 (ok_no) ?_
  refine hAllOk.c 71 (ok_sipush (n := 10000) (by decide +kernel) (by decide +kernel) rfl) ?_
  refine hAllOk.c 72 (ok_no) ?_
  refine hAllOk.c 73 (ok_no) ?_
  refine hAllOk.c 74 (ok_icne (off := 23) (by decide +kernel) (by decide +kernel) rfl) ?_
  refine hAllOk.c 75 (ok_no) ?_
  refine hAllOk.c 76 (ok_no) ?_
  refine hAllOk.c 77 (ok_aload_n (f := 1) rfl (by decide +kernel) rfl) ?_
  refine hAllOk.c 78 (ok_iconst (n := 1) (by decide +kernel) (by decide +kernel) rfl) ?_
  refine hAllOk.c 79 (ok_iload_n (f := 2) rfl (by decide +kernel) rfl) ?_
  refine hAllOk.c 80 (ok_sipush (n := 300) (by decide +kernel) (by decide +kernel) rfl) ?_
  refine hAllOk.c 81 (ok_no) ?_
  refine hAllOk.c 82 (ok_no) ?_
  refine hAllOk.c 83 (ok_irem (by decide +kernel) rfl) ?_
  refine hAllOk.c 84 (ok_callV (idx := 86) ⟨wd_t_269, wd_t_1, by decide +kernel, by decide +kernel⟩ rfl rfl wd_t_266 wd_t_267 wd_t_268 (by decide +kernel) rfl) ?_
  refine hAllOk.c 85 (ok_no) ?_
  refine hAllOk.c 86 (ok_no) ?_
  refine hAllOk.c 87 (ok_sipush (n := 500) (by decide +kernel) (by decide +kernel) rfl) ?_
  refine hAllOk.c 88 (ok_no) ?_
  refine hAllOk.c 89 (ok_no) ?_
  refine hAllOk.c 90 (ok_icne (off := 7) (by decide +kernel) (by decide +kernel) rfl) ?_
  refine hAllOk.c 91 (ok_no) ?_
  refine hAllOk.c 92 (ok_no) ?_
  refine hAllOk.c 93 (ok_iconst (n := 1) (by decide +kernel) (by decide +kernel) rfl) ?_
  refine hAllOk.c 94 (ok_goto (off := 4) (by decide +kernel) (by decide +kernel)) ?_
  refine hAllOk.c 95 (ok_no) ?_
  refine hAllOk.c 96 (ok_no) ?_
  refine hAllOk.c 97 (ok_iconst (n := 0) (by decide +kernel) (by decide +kernel) rfl) ?_
  refine hAllOk.c 98 (ok_istore_n (f := 3) rfl (by decide) (by decide +kernel) rfl) ?_
  refine hAllOk.c 99 (ok_iconst (n := 0) (by decide +kernel) (by decide +kernel) rfl) ?_
  refine hAllOk.c 100 (ok_istore (by decide) (by decide +kernel) rfl) ?_
  refine hAllOk.c 101 (ok_no) ?_
  refine hAllOk.c 102 (ok_iload (by decide +kernel) rfl) ?_
  refine hAllOk.c 103 (ok_no) ?_
  refine hAllOk.c 104 (ok_iconst (n := 3) (by decide +kernel) (by decide +kernel) rfl) ?_
  refine hAllOk.c 105 (ok_iload_n (f := 2) rfl (by decide +kernel) rfl) ?_
  refine hAllOk.c 106 (ok_iconst (n := 4) (by decide +kernel) (by decide +kernel) rfl) ?_
  refine hAllOk.c 107 (ok_irem (by decide +kernel) rfl) ?_
  refine hAllOk.c 108 (ok_iadd (by decide +kernel) rfl) ?_
  refine hAllOk.c 109 (ok_icge (off := 58) (by decide +kernel) (by decide +kernel) rfl) ?_
  refine hAllOk.c 110 (ok_no) ?_
  refine hAllOk.c 111 (ok_no) ?_
  refine hAllOk.c 112 (ok_iload_n (f := 3) rfl (by decide +kernel) rfl) ?_
  refine hAllOk.c 113 (ok_ifeq (off := 54) (by decide +kernel) (by decide +kernel) rfl) ?_
  refine hAllOk.c 114 (ok_no) ?_
  refine hAllOk.c 115 (ok_no) ?_
  refine hAllOk.c 116 (ok_aload_n (f := 0) rfl (by decide +kernel) rfl) ?_
  refine hAllOk.c 117 (ok_iconst (n := 1) (by decide +kernel) (by decide +kernel) rfl) ?_
  refine hAllOk.c 118 (ok_iload (by decide +kernel) rfl) ?_
  refine hAllOk.c 119 (ok_no) ?_
  refine hAllOk.c 120 (ok_iadd (by decide +kernel) rfl) ?_
  refine hAllOk.c 121 (ok_callS (idx := 102) ⟨wd_t_428, wd_t_0, by decide +kernel, by decide +kernel⟩ wd_t_426 wd_t_427 (by decide +kernel) rfl) ?_
  refine hAllOk.c 122 (ok_no) ?_
  refine hAllOk.c 123 (ok_no) ?_
  refine hAllOk.c 124 (ok_istore (by decide) (by decide +kernel) rfl) ?_
  refine hAllOk.c 125 (ok_no) ?_
  refine hAllOk.c 126 (ok_aload_n (f := 1) rfl (by decide +kernel) rfl) ?_
  refine hAllOk.c 127 (ok_sipush (n := 200) (by decide +kernel) (by decide +kernel) rfl) ?_
  refine hAllOk.c 128 (ok_no) ?_
  refine hAllOk.c 129 (ok_no) ?_
  refine hAllOk.c 130 (ok_iload (by decide +kernel) rfl) ?_
  refine hAllOk.c 131 (ok_no) ?_
  refine hAllOk.c 132 (ok_sipush (n := 4000) (by decide +kernel) (by decide +kernel) rfl) ?_
  refine hAllOk.c 133 (ok_no) ?_
  refine hAllOk.c 134 (ok_no) ?_
  refine hAllOk.c 135 (ok_irem (by decide +kernel) rfl) ?_
  refine hAllOk.c 136 (ok_iadd (by decide +kernel) rfl) ?_
  refine hAllOk.c 137 (ok_iconst (n := 1) (by decide +kernel) (by decide +kernel) rfl) ?_
  refine hAllOk.c 138 (ok_iload (by decide +kernel) rfl) ?_
  refine hAllOk.c 139 (ok_no) ?_
  refine hAllOk.c 140 (ok_bipush (n := 12) (by decide +kernel) (by decide +kernel) rfl) ?_
  refine hAllOk.c 141 (ok_no) ?_
  refine hAllOk.c 142 (ok_ishr (by decide +kernel) rfl) ?_
  refine hAllOk.c 143 (ok_bipush (n := 9) (by decide +kernel) (by decide +kernel) rfl) ?_
  refine hAllOk.c 144 (ok_no) ?_
  refine hAllOk.c 145 (ok_irem (by decide +kernel) rfl) ?_
  refine hAllOk.c 146 (ok_iadd (by decide +kernel) rfl) ?_
  refine hAllOk.c 147 (ok_callV (idx := 106) ⟨wd_t_222, wd_t_1, by decide +kernel, by decide +kernel⟩ rfl rfl wd_t_219 wd_t_220 wd_t_221 (by decide +kernel) rfl) ?_
  refine hAllOk.c 148 (ok_no) ?_
  refine hAllOk.c 149 (ok_no) ?_
  refine hAllOk.c 150 (ok_iload (by decide +kernel) rfl) ?_
  refine hAllOk.c 151 (ok_no) ?_
  refine hAllOk.c 152 (ok_icne (off := 7) (by decide +kernel) (by decide +kernel) rfl) ?_
  refine hAllOk.c 153 (ok_no) ?_
  refine hAllOk.c 154 (ok_no) ?_
  refine hAllOk.c 155 (ok_iconst (n := 1) (by decide +kernel) (by decide +kernel) rfl) ?_
  refine hAllOk.c 156 (ok_goto (off := 4) (by decide +kernel) (by decide +kernel)) ?_
  refine hAllOk.c 157 (ok_no) ?_
  refine hAllOk.c 158 (ok_no) ?_
  refine hAllOk.c 159 (ok_iconst (n := 0) (by decide +kernel) (by decide +kernel) rfl) ?_
  refine hAllOk.c 160 (ok_istore_n (f := 3) rfl (by decide) (by decide +kernel) rfl) ?_
  refine hAllOk.c 161 (ok_iinc (n := 1) (by decide +kernel) (by decide) (by decide +kernel) rfl) ?_
  refine hAllOk.c 162 (ok_no) ?_
  refine hAllOk.c 163 (ok_no) ?_
  refine hAllOk.c 164 (ok_goto (off := (-62)) (by decide +kernel) (by decide +kernel)) ?_
  refine hAllOk.c 165 (ok_no) ?_
  refine hAllOk.c 166 (ok_no) ?_
  refine hAllOk.c 167 (ok_iconst (n := 0) (by decide +kernel) (by decide +kernel) rfl) ?_
  refine hAllOk.c 168 (ok_istore (by decide) (by decide +kernel) rfl) ?_
  refine hAllOk.c 169 (ok_no) ?_
  refine hAllOk.c 170 (ok_iload (by decide +kernel) rfl) ?_
  refine hAllOk.c 171 (ok_no) ?_
  refine hAllOk.c 172 (ok_bipush (n := 26) (by decide +kernel) (by decide +kernel) rfl) ?_
  refine hAllOk.c 173 (ok_no) ?_
  refine hAllOk.c 174 (ok_icge (off := 49) (by decide +kernel) (by decide +kernel) rfl) ?_
  refine hAllOk.c 175 (ok_no) ?_
  refine hAllOk.c 176 (ok_no) ?_
  refine hAllOk.c 177 (ok_iload_n (f := 3) rfl (by decide +kernel) rfl) ?_
  refine hAllOk.c 178 (ok_ifeq (off := 45) (by decide +kernel) (by decide +kernel) rfl) ?_
  refine hAllOk.c 179 (ok_no) ?_
  refine hAllOk.c 180 (ok_no) ?_
  refine hAllOk.c 181 (ok_aload_n (f := 1) rfl (by decide +kernel) rfl) ?_
  refine hAllOk.c 182 (ok_aload_n (f := 0) rfl (by decide +kernel) rfl) ?_
  refine hAllOk.c 183 (ok_bipush (n := 8) (by decide +kernel) (by decide +kernel) rfl) ?_
  refine hAllOk.c 184 (ok_no) ?_
  refine hAllOk.c 185 (ok_iload (by decide +kernel) rfl) ?_
  refine hAllOk.c 186 (ok_no) ?_
  refine hAllOk.c 187 (ok_iadd (by decide +kernel) rfl) ?_
  refine hAllOk.c 188 (ok_callS (idx := 102) ⟨wd_t_428, wd_t_0, by decide +kernel, by decide +kernel⟩ wd_t_426 wd_t_427 (by decide +kernel) rfl) ?_
  refine hAllOk.c 189 (ok_no) ?_
  refine hAllOk.c 190 (ok_no) ?_
  refine hAllOk.c 191 (ok_callS (idx := 109) ⟨wd_t_497, wd_t_0, by decide +kernel, by decide +kernel⟩ wd_t_495 wd_t_496 (by decide +kernel) rfl) ?_
  refine hAllOk.c 192 (ok_no) ?_
  refine hAllOk.c 193 (ok_no) ?_
  refine hAllOk.c 194 (ok_ifeq (off := 21) (by decide +kernel) (by decide +kernel) rfl) ?_
  refine hAllOk.c 195 (ok_no) ?_
  refine hAllOk.c 196 (ok_no) ?_
  refine hAllOk.c 197 (ok_aload_n (f := 1) rfl (by decide +kernel) rfl) ?_
  refine hAllOk.c 198 (ok_callS (idx := 113) ⟨wd_t_433, wd_t_0, by decide +kernel, by decide +kernel⟩ wd_t_431 wd_t_432 (by decide +kernel) rfl) ?_
  refine hAllOk.c 199 (ok_no) ?_
  refine hAllOk.c 200 (ok_no) ?_
  refine hAllOk.c 201 (ok_ifeq (off := 14) (by decide +kernel) (by decide +kernel) rfl) ?_
  refine hAllOk.c 202 (ok_no) ?_
  refine hAllOk.c 203 (ok_no) ?_
  refine hAllOk.c 204 (ok_aload_n (f := 1) rfl (by decide +kernel) rfl) ?_
  refine hAllOk.c 205 (ok_callS (idx := 116) ⟨wd_t_469, wd_t_0, by decide +kernel, by decide +kernel⟩ wd_t_467 wd_t_468 (by decide +kernel) rfl) ?_
  refine hAllOk.c 206 (ok_no) ?_
  refine hAllOk.c 207 (ok_no) ?_
  refine hAllOk.c 208 (ok_ifeq (off := 7) (by decide +kernel) (by decide +kernel) rfl) ?_
  refine hAllOk.c 209 (ok_no) ?_
  refine hAllOk.c 210 (ok_no) ?_
  refine hAllOk.c 211 (ok_iconst (n := 1) (by decide +kernel) (by decide +kernel) rfl) ?_
  refine hAllOk.c 212 (ok_goto (off := 4) (by decide +kernel) (by decide +kernel)) ?_
  refine hAllOk.c 213 (ok_no) ?_
  refine hAllOk.c 214 (ok_no) ?_
  refine hAllOk.c 215 (ok_iconst (n := 0) (by decide +kernel) (by decide +kernel) rfl) ?_
  refine hAllOk.c 216 (ok_istore_n (f := 3) rfl (by decide) (by decide +kernel) rfl) ?_
  refine hAllOk.c 217 (ok_iinc (n := 1) (by decide +kernel) (by decide) (by decide +kernel) rfl) ?_
  refine hAllOk.c 218 (ok_no) ?_
  refine hAllOk.c 219 (ok_no) ?_
  refine hAllOk.c 220 (ok_goto (off := (-50)) (by decide +kernel) (by decide +kernel)) ?_
  refine hAllOk.c 221 (ok_no) ?_
  refine hAllOk.c 222 (ok_no) ?_
  refine hAllOk.c 223 (ok_aload_n (f := 1) rfl (by decide +kernel) rfl) ?_
  refine hAllOk.c 224 (ok_iconst (n := 0) (by decide +kernel) (by decide +kernel) rfl) ?_
  refine hAllOk.c 225 (ok_callV (idx := 19) ⟨wd_t_393, wd_t_1, by decide +kernel, by decide +kernel⟩ rfl rfl wd_t_390 wd_t_391 wd_t_392 (by decide +kernel) rfl) ?_
  refine hAllOk.c 226 (ok_no) ?_
  refine hAllOk.c 227 (ok_no) ?_
  refine hAllOk.c 228 (ok_istore (by decide) (by decide +kernel) rfl) ?_
  refine hAllOk.c 229 (ok_no) ?_
  refine hAllOk.c 230 (ok_aload_n (f := 1) rfl (by decide +kernel) rfl) ?_
  refine hAllOk.c 231 (ok_iconst (n := 0) (by decide +kernel) (by decide +kernel) rfl) ?_
  refine hAllOk.c 232 (ok_callV (idx := 9) ⟨wd_t_413, wd_t_1, by decide +kernel, by decide +kernel⟩ rfl rfl wd_t_410 wd_t_411 wd_t_412 (by decide +kernel) rfl) ?_
  refine hAllOk.c 233 (ok_no) ?_
  refine hAllOk.c 234 (ok_no) ?_
  refine hAllOk.c 235 (ok_istore (by decide) (by decide +kernel) rfl) ?_
  refine hAllOk.c 236 (ok_no) ?_
  refine hAllOk.c 237 (ok_iload_n (f := 3) rfl (by decide +kernel) rfl) ?_
  refine hAllOk.c 238 (ok_ifeq (off := 72) (by decide +kernel) (by decide +kernel) rfl) ?_
  refine hAllOk.c 239 (ok_no) ?_
  refine hAllOk.c 240 (ok_no) ?_
  refine hAllOk.c 241 (ok_aload_n (f := 1) rfl (by decide +kernel) rfl) ?_
  refine hAllOk.c 242 (ok_callV (idx := 119) ⟨wd_t_384, wd_t_1, by decide +kernel, by decide +kernel⟩ rfl rfl wd_t_381 wd_t_382 wd_t_383 (by decide +kernel) rfl) ?_
  refine hAllOk.c 243 (ok_no) ?_
  refine hAllOk.c 244 (ok_no) ?_
  refine hAllOk.c 245 (ok_aload_n (f := 1) rfl (by decide +kernel) rfl) ?_
  refine hAllOk.c 246 (ok_iconst (n := 1) (by decide +kernel) (by decide +kernel) rfl) ?_
  refine hAllOk.c 247 (ok_callV (idx := 9) ⟨wd_t_413, wd_t_1, by decide +kernel, by decide +kernel⟩ rfl rfl wd_t_410 wd_t_411 wd_t_412 (by decide +kernel) rfl) ?_
  refine hAllOk.c 248 (ok_no) ?_
  refine hAllOk.c 249 (ok_no) ?_
  refine hAllOk.c 250 (ok_icne (off := 60) (by decide +kernel) (by decide +kernel) rfl) ?_
  refine hAllOk.c 251 (ok_no) ?_
  refine hAllOk.c 252 (ok_no) ?_
  refine hAllOk.c 253 (ok_aload_n (f := 1) rfl (by decide +kernel) rfl) ?_
  refine hAllOk.c 254 (ok_iconst (n := 1) (by decide +kernel) (by decide +kernel) rfl) ?_
  refine hAllOk.c 255 (ok_callV (idx := 83) ⟨wd_t_277, wd_t_1, by decide +kernel, by decide +kernel⟩ rfl rfl wd_t_274 wd_t_275 wd_t_276 (by decide +kernel) rfl) ?_
  refine hAllOk.c 256 (ok_no) ?_
  refine hAllOk.c 257 (ok_no) ?_
  refine hAllOk.c 258 (ok_iload (by decide +kernel) rfl) ?_
  refine hAllOk.c 259 (ok_no) ?_
  refine hAllOk.c 260 (ok_iconst (n := 1) (by decide +kernel) (by decide +kernel) rfl) ?_
  refine hAllOk.c 261 (ok_iadd (by decide +kernel) rfl) ?_
  refine hAllOk.c 262 (ok_icne (off := 48) (by decide +kernel) (by decide +kernel) rfl) ?_
  refine hAllOk.c 263 (ok_no) ?_
  refine hAllOk.c 264 (ok_no) ?_
  refine hAllOk.c 265 (ok_aload_n (f := 1) rfl (by decide +kernel) rfl) ?_
  refine hAllOk.c 266 (ok_callV (idx := 122) ⟨wd_t_376, wd_t_1, by decide +kernel, by decide +kernel⟩ rfl rfl wd_t_373 wd_t_374 wd_t_375 (by decide +kernel) rfl) ?_
  refine hAllOk.c 267 (ok_no) ?_
  refine hAllOk.c 268 (ok_no) ?_
  refine hAllOk.c 269 (ok_iflt (off := 41) (by decide +kernel) (by decide +kernel) rfl) ?_
  refine hAllOk.c 270 (ok_no) ?_
  refine hAllOk.c 271 (ok_no) ?_
  refine hAllOk.c 272 (ok_aload_n (f := 1) rfl (by decide +kernel) rfl) ?_
  refine hAllOk.c 273 (ok_iconst (n := 0) (by decide +kernel) (by decide +kernel) rfl) ?_
  refine hAllOk.c 274 (ok_callV (idx := 9) ⟨wd_t_413, wd_t_1, by decide +kernel, by decide +kernel⟩ rfl rfl wd_t_410 wd_t_411 wd_t_412 (by decide +kernel) rfl) ?_
  refine hAllOk.c 275 (ok_no) ?_
  refine hAllOk.c 276 (ok_no) ?_
  refine hAllOk.c 277 (ok_iload (by decide +kernel) rfl) ?_
  refine hAllOk.c 278 (ok_no) ?_
  refine hAllOk.c 279 (ok_icne (off := 31) (by decide +kernel) (by decide +kernel) rfl) ?_
  refine hAllOk.c 280 (ok_no) ?_
  refine hAllOk.c 281 (ok_no) ?_
  refine hAllOk.c 282 (ok_aload_n (f := 1) rfl (by decide +kernel) rfl) ?_
  refine hAllOk.c 283 (ok_iconst (n := 2) (by decide +kernel) (by decide +kernel) rfl) ?_
  refine hAllOk.c 284 (ok_callV (idx := 83) ⟨wd_t_277, wd_t_1, by decide +kernel, by decide +kernel⟩ rfl rfl wd_t_274 wd_t_275 wd_t_276 (by decide +kernel) rfl) ?_
  refine hAllOk.c 285 (ok_no) ?_
  refine hAllOk.c 286 (ok_no) ?_
  refine hAllOk.c 287 (ok_iload (by decide +kernel) rfl) ?_
  refine hAllOk.c 288 (ok_no) ?_
  refine hAllOk.c 289 (ok_iconst (n := 2) (by decide +kernel) (by decide +kernel) rfl) ?_
  refine hAllOk.c 290 (ok_iadd (by decide +kernel) rfl) ?_
  refine hAllOk.c 291 (ok_icne (off := 19) (by decide +kernel) (by decide +kernel) rfl) ?_
  refine hAllOk.c 292 (ok_no) ?_
  refine hAllOk.c 293 (ok_no) ?_
  refine hAllOk.c 294 (ok_aload_n (f := 1) rfl (by decide +kernel) rfl) ?_
  refine hAllOk.c 295 (ok_callV (idx := 125) ⟨wd_t_389, wd_t_1, by decide +kernel, by decide +kernel⟩ rfl rfl wd_t_386 wd_t_387 wd_t_388 (by decide +kernel) rfl) ?_
  refine hAllOk.c 296 (ok_no) ?_
  refine hAllOk.c 297 (ok_no) ?_
  refine hAllOk.c 298 (ok_aload_n (f := 1) rfl (by decide +kernel) rfl) ?_
  refine hAllOk.c 299 (ok_iconst (n := 1) (by decide +kernel) (by decide +kernel) rfl) ?_
  refine hAllOk.c 300 (ok_callV (idx := 9) ⟨wd_t_413, wd_t_1, by decide +kernel, by decide +kernel⟩ rfl rfl wd_t_410 wd_t_411 wd_t_412 (by decide +kernel) rfl) ?_
  refine hAllOk.c 301 (ok_no) ?_
  refine hAllOk.c 302 (ok_no) ?_
  refine hAllOk.c 303 (ok_icne (off := 7) (by decide +kernel) (by decide +kernel) rfl) ?_
  refine hAllOk.c 304 (ok_no) ?_
  refine hAllOk.c 305 (ok_no) ?_
  refine hAllOk.c 306 (ok_iconst (n := 1) (by decide +kernel) (by decide +kernel) rfl) ?_
  refine hAllOk.c 307 (ok_goto (off := 4) (by decide +kernel) (by decide +kernel)) ?_
  refine hAllOk.c 308 (ok_no) ?_
  refine hAllOk.c 309 (ok_no) ?_
  refine hAllOk.c 310 (ok_iconst (n := 0) (by decide +kernel) (by decide +kernel) rfl) ?_
  refine hAllOk.c 311 (ok_istore_n (f := 3) rfl (by decide) (by decide +kernel) rfl) ?_
  refine hAllOk.c 312 (ok_iload_n (f := 3) rfl (by decide +kernel) rfl) ?_
  refine hAllOk.c 313 (ok_ifeq (off := 27) (by decide +kernel) (by decide +kernel) rfl) ?_
  refine hAllOk.c 314 (ok_no) ?_
  refine hAllOk.c 315 (ok_no) ?_
  refine hAllOk.c 316 (ok_aload_n (f := 1) rfl (by decide +kernel) rfl) ?_
  refine hAllOk.c 317 (ok_iconst (n := 0) (by decide +kernel) (by decide +kernel) rfl) ?_
  refine hAllOk.c 318 (ok_callV (idx := 9) ⟨wd_t_413, wd_t_1, by decide +kernel, by decide +kernel⟩ rfl rfl wd_t_410 wd_t_411 wd_t_412 (by decide +kernel) rfl) ?_
  refine hAllOk.c 319 (ok_no) ?_
  refine hAllOk.c 320 (ok_no) ?_
  refine hAllOk.c 321 (ok_iload (by decide +kernel) rfl) ?_
  refine hAllOk.c 322 (ok_no) ?_
  refine hAllOk.c 323 (ok_icne (off := 17) (by decide +kernel) (by decide +kernel) rfl) ?_
  refine hAllOk.c 324 (ok_no) ?_
  refine hAllOk.c 325 (ok_no) ?_
  refine hAllOk.c 326 (ok_aload_n (f := 1) rfl (by decide +kernel) rfl) ?_
  refine hAllOk.c 327 (ok_iconst (n := 0) (by decide +kernel) (by decide +kernel) rfl) ?_
  refine hAllOk.c 328 (ok_callV (idx := 19) ⟨wd_t_393, wd_t_1, by decide +kernel, by decide +kernel⟩ rfl rfl wd_t_390 wd_t_391 wd_t_392 (by decide +kernel) rfl) ?_
  refine hAllOk.c 329 (ok_no) ?_
  refine hAllOk.c 330 (ok_no) ?_
  refine hAllOk.c 331 (ok_iload (by decide +kernel) rfl) ?_
  refine hAllOk.c 332 (ok_no) ?_
  refine hAllOk.c 333 (ok_icne (off := 7) (by decide +kernel) (by decide +kernel) rfl) ?_
  refine hAllOk.c 334 (ok_no) ?_
  refine hAllOk.c 335 (ok_no) ?_
  refine hAllOk.c 336 (ok_iconst (n := 1) (by decide +kernel) (by decide +kernel) rfl) ?_
  refine hAllOk.c 337 (ok_goto (off := 4) (by decide +kernel) (by decide +kernel)) ?_
  refine hAllOk.c 338 (ok_no) ?_
  refine hAllOk.c 339 (ok_no) ?_
  refine hAllOk.c 340 (ok_iconst (n := 0) (by decide +kernel) (by decide +kernel) rfl) ?_
  refine hAllOk.c 341 (ok_ireturn (by decide +kernel)) ?_
  trivial
