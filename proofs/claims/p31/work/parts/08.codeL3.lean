theorem wd_t_501 : Cond.methodLink RL 59 yX5_clearText ∈ hTb := hTb_t (List.mem_of_getElem? (i := 501) (by decide +kernel)) (by decide +kernel)
theorem wd_t_504 : Cond.code yX5_clearText prog_1_method_13_code 2 (some .int) ∈ hTb := hTb_t (List.mem_of_getElem? (i := 504) (by decide +kernel)) (by decide +kernel)
theorem wd_t_502 : Cond.instanceMethod yX5_clearText ∈ hTb := hTb_t (List.mem_of_getElem? (i := 502) (by decide +kernel)) (by decide +kernel)
theorem wd_t_503 : Cond.selects RX5 yX5_clearText yX5_clearText ∈ hTb := hTb_t (List.mem_of_getElem? (i := 503) (by decide +kernel)) (by decide +kernel)
theorem wd_t_505 : Cond.methodLink RL 62 yX5_type ∈ hTb := hTb_t (List.mem_of_getElem? (i := 505) (by decide +kernel)) (by decide +kernel)
theorem wd_t_508 : Cond.code yX5_type prog_1_method_12_code 2 (some .int) ∈ hTb := hTb_t (List.mem_of_getElem? (i := 508) (by decide +kernel)) (by decide +kernel)
theorem wd_t_506 : Cond.instanceMethod yX5_type ∈ hTb := hTb_t (List.mem_of_getElem? (i := 506) (by decide +kernel)) (by decide +kernel)
theorem wd_t_507 : Cond.selects RX5 yX5_type yX5_type ∈ hTb := hTb_t (List.mem_of_getElem? (i := 507) (by decide +kernel)) (by decide +kernel)
theorem wd_t_509 : Cond.methodLink RL 66 yX5_setCondition ∈ hTb := hTb_t (List.mem_of_getElem? (i := 509) (by decide +kernel)) (by decide +kernel)
theorem wd_t_512 : Cond.code yX5_setCondition prog_1_method_3_code 4 (some .int) ∈ hTb := hTb_t (List.mem_of_getElem? (i := 512) (by decide +kernel)) (by decide +kernel)
theorem wd_t_510 : Cond.instanceMethod yX5_setCondition ∈ hTb := hTb_t (List.mem_of_getElem? (i := 510) (by decide +kernel)) (by decide +kernel)
theorem wd_t_511 : Cond.selects RX5 yX5_setCondition yX5_setCondition ∈ hTb := hTb_t (List.mem_of_getElem? (i := 511) (by decide +kernel)) (by decide +kernel)
def M_La_condition : hM := (yL_condition, method_7_code, 7, (some .boolean), 6, 129)
def code_La_condition (K : hK) (B : Nat × Nat) (Q : hPost) : List hSem := [x_aload 1 0, x_callV K 4 M_Pa_clearText 5 0, x_no, x_no, x_iflt 11 7, x_no, x_no, x_const 8 (1), x_goto 12, x_no, x_no, x_const 12 (0), x_istore 13 3, x_const 14 (0), x_istore 16 4, x_no, x_iload 18 4, x_no, x_const 19 (1), x_iload 20 2, x_const 21 (3), x_irem 22, x_iadd 23, x_icge 253 26, x_no, x_no, x_iload 27 3, x_ifeq 253 30, x_no, x_no, x_iload 31 2, x_const 32 (3), x_const 34 (7), x_no, x_iload 36 4, x_no, x_imul 37, x_iadd 38, x_ishr 39, x_istore 41 5, x_no, x_iload 43 5, x_no, x_const 44 (3), x_iand 45, x_istore 47 6, x_no, x_iload 49 4, x_no, x_ifeq 77 52, x_no, x_no, x_aload 53 0, x_iload 55 5, x_no, x_const 57 (6), x_no, x_ishr 58, x_const 59 (1), x_iand 60, x_const 61 (1), x_icne 69 64, x_no, x_no, x_const 66 (38), x_no, x_goto 71, x_no, x_no, x_const 71 (124), x_no, x_callV K 74 M_Pa_type 5 1, x_no, x_no, x_ifle 81 77, x_no, x_no, x_const 78 (1), x_goto 82, x_no, x_no, x_const 82 (0), x_istore 83 3, x_iload 85 6, x_no, x_const 86 (2), x_icge 123 89, x_no, x_no, x_iload 90 3, x_ifeq 118 93, x_no, x_no, x_aload 94 0, x_const 96 (97), x_no, x_iload 98 5, x_no, x_const 99 (2), x_ishr 100, x_aload 101 0, x_const 102 (1), x_callV K 105 M_Pa_count 5 1, x_no, x_no, x_irem 106, x_iadd 107, x_i2c 108, x_callV K 111 M_Pa_type 5 1, x_no, x_no, x_ifle 118 114, x_no, x_no, x_const 115 (1), x_goto 119, x_no, x_no, x_const 119 (0), x_istore 120 3, x_goto 247, x_no, x_no, x_iload 125 6, x_no, x_const 126 (2), x_icne 169 129, x_no, x_no, x_iload 130 3, x_ifeq 164 133, x_no, x_no, x_aload 134 0, x_const 136 (35), x_no, x_callV K 139 M_Pa_type 5 1, x_no, x_no, x_ifle 164 142, x_no, x_no, x_aload 143 0, x_const 145 (49), x_no, x_iload 147 5, x_no, x_const 148 (2), x_ishr 149, x_const 151 (6), x_no, x_irem 152, x_iadd 153, x_i2c 154, x_callV K 157 M_Pa_type 5 1, x_no, x_no, x_ifle 164 160, x_no, x_no, x_const 161 (1), x_goto 165, x_no, x_no, x_const 165 (0), x_istore 166 3, x_goto 247, x_no, x_no, x_iload 170 3, x_ifeq 245 173, x_no, x_no, x_aload 174 0, x_const 176 (49), x_no, x_iload 178 5, x_no, x_const 179 (2), x_ishr 180, x_const 181 (2), x_irem 182, x_iadd 183, x_i2c 184, x_callV K 187 M_Pa_type 5 1, x_no, x_no, x_ifle 245 190, x_no, x_no, x_aload 191 0, x_const 193 (58), x_no, x_callV K 196 M_Pa_type 5 1, x_no, x_no, x_ifle 245 199, x_no, x_no, x_aload 200 0, x_const 202 (97), x_no, x_iload 204 5, x_no, x_const 205 (3), x_ishr 206, x_aload 207 0, x_const 208 (1), x_callV K 211 M_Pa_count 5 1, x_no, x_no, x_irem 212, x_iadd 213, x_i2c 214, x_callV K 217 M_Pa_type 5 1, x_no, x_no, x_ifle 245 220, x_no, x_no, x_aload 221 0, x_const 223 (97), x_no, x_iload 225 5, x_no, x_const 226 (4), x_ishr 227, x_aload 228 0, x_const 229 (1), x_callV K 232 M_Pa_count 5 1, x_no, x_no, x_irem 233, x_iadd 234, x_i2c 235, x_callV K 238 M_Pa_type 5 1, x_no, x_no, x_ifle 245 241, x_no, x_no, x_const 242 (1), x_goto 246, x_no, x_no, x_const 246 (0), x_istore 247 3, x_iinc 250 4 (1), x_no, x_no, x_goto 16, x_no, x_no, x_aload 254 0, x_iload 255 1, x_const 256 (3), x_callV K 259 M_Pa_guest 5 2, x_no, x_no, x_istore 261 4, x_no, x_aload 262 0, x_const 263 (0), x_callV K 266 M_Pa_count 5 1, x_no, x_no, x_aload 267 0, x_const 269 (6), x_no, x_callV K 272 M_Pa_count 5 1, x_no, x_no, x_icle 284 275, x_no, x_no, x_aload 276 0, x_const 278 (7), x_no, x_callV K 281 M_Pa_count 5 1, x_no, x_no, x_goto 285, x_no, x_no, x_const 285 (0), x_istore 287 5, x_no, x_aload 288 0, x_iload 289 1, x_callV K 292 M_Pa_setCondition 5 1, x_no, x_no, x_istore 294 6, x_no, x_iload 295 3, x_ifeq 355 298, x_no, x_no, x_aload 299 0, x_const 301 (8), x_no, x_callV K 304 M_Pa_count 5 1, x_no, x_no, x_const 305 (1), x_icne 318 308, x_no, x_no, x_iload 310 6, x_no, x_const 312 (-4), x_no, x_icne 355 315, x_no, x_no, x_goto 351, x_no, x_no, x_iload 320 6, x_no, x_iflt 355 323, x_no, x_no, x_iload 325 6, x_no, x_aload 326 0, x_iload 327 1, x_const 328 (4), x_callV K 331 M_Pa_guest 5 2, x_no, x_no, x_callS K 334 M_La_ones 1, x_no, x_no, x_icne 355 337, x_no, x_no, x_aload 338 0, x_iload 339 1, x_const 340 (3), x_callV K 343 M_Pa_guest 5 2, x_no, x_no, x_iload 345 4, x_no, x_iload 347 5, x_no, x_iadd 348, x_icne 355 351, x_no, x_no, x_const 352 (1), x_goto 356, x_no, x_no, x_const 356 (0), x_ireturn (some .boolean) Q]
set_option maxRecDepth 100000 in
set_option maxHeartbeats 4000000 in
theorem okc_La_condition (K : hK) (B : Nat × Nat) (Q : hPost) : hAllOk (hJ K M_La_condition B Q) 0 (code_La_condition K B Q) := by
  refine hAllOk.c 0 (ok_aload_n (f := 0) rfl (by decide +kernel) rfl) ?_
  refine hAllOk.c 1 (ok_callV (idx := 59) ⟨wd_t_504, wd_t_1, by decide +kernel, by decide +kernel⟩ rfl rfl wd_t_501 wd_t_502 wd_t_503 (by decide +kernel) rfl) ?_
  refine hAllOk.c 2 (ok_no) ?_
  refine hAllOk.c 3 (ok_no) ?_
  refine hAllOk.c 4 (ok_iflt (off := 7) (by decide +kernel) (by decide +kernel) rfl) ?_
  refine hAllOk.c 5 (ok_no) ?_
  refine hAllOk.c 6 (ok_no) ?_
  refine hAllOk.c 7 (ok_iconst (n := 1) (by decide +kernel) (by decide +kernel) rfl) ?_
  refine hAllOk.c 8 (ok_goto (off := 4) (by decide +kernel) (by decide +kernel)) ?_
  refine hAllOk.c 9 (ok_no) ?_
  refine hAllOk.c 10 (ok_no) ?_
  refine hAllOk.c 11 (ok_iconst (n := 0) (by decide +kernel) (by decide +kernel) rfl) ?_
  refine hAllOk.c 12 (ok_istore_n (f := 3) rfl (by decide) (by decide +kernel) rfl) ?_
  refine hAllOk.c 13 (ok_iconst (n := 0) (by decide +kernel) (by decide +kernel) rfl) ?_
  refine hAllOk.c 14 (ok_istore (by decide) (by decide +kernel) rfl) ?_
  refine hAllOk.c 15 (ok_no) ?_
  refine hAllOk.c 16 (ok_iload (by decide +kernel) rfl) ?_
  refine hAllOk.c 17 (ok_no) ?_
  refine hAllOk.c 18 (ok_iconst (n := 1) (by decide +kernel) (by decide +kernel) rfl) ?_
  refine hAllOk.c 19 (ok_iload_n (f := 2) rfl (by decide +kernel) rfl) ?_
  refine hAllOk.c 20 (ok_iconst (n := 3) (by decide +kernel) (by decide +kernel) rfl) ?_
  refine hAllOk.c 21 (ok_irem (by decide +kernel) rfl) ?_
  refine hAllOk.c 22 (ok_iadd (by decide +kernel) rfl) ?_
  refine hAllOk.c 23 (ok_icge (off := 230) (by decide +kernel) (by decide +kernel) rfl) ?_
  refine hAllOk.c 24 (ok_no) ?_
  refine hAllOk.c 25 (ok_no) ?_
  refine hAllOk.c 26 (ok_iload_n (f := 3) rfl (by decide +kernel) rfl) ?_
  refine hAllOk.c 27 (ok_ifeq (off := 226) (by decide +kernel) (by decide +kernel) rfl) ?_
  refine hAllOk.c 28 (ok_no) ?_
  refine hAllOk.c 29 (ok_no) ?_
  refine hAllOk.c 30 (ok_iload_n (f := 2) rfl (by decide +kernel) rfl) ?_
  refine hAllOk.c 31 (ok_iconst (n := 3) (by decide +kernel) (by decide +kernel) rfl) ?_
  refine hAllOk.c 32 (ok_bipush (n := 7) (by decide +kernel) (by decide +kernel) rfl) ?_
  refine hAllOk.c 33 (ok_no) ?_
  refine hAllOk.c 34 (ok_iload (by decide +kernel) rfl) ?_
  refine hAllOk.c 35 (ok_no) ?_
  refine hAllOk.c 36 (ok_imul (by decide +kernel) rfl) ?_
  refine hAllOk.c 37 (ok_iadd (by decide +kernel) rfl) ?_
  refine hAllOk.c 38 (ok_ishr (by decide +kernel) rfl) ?_
  refine hAllOk.c 39 (ok_istore (by decide) (by decide +kernel) rfl) ?_
  refine hAllOk.c 40 (ok_no) ?_
  refine hAllOk.c 41 (ok_iload (by decide +kernel) rfl) ?_
  refine hAllOk.c 42 (ok_no) ?_
  refine hAllOk.c 43 (ok_iconst (n := 3) (by decide +kernel) (by decide +kernel) rfl) ?_
  refine hAllOk.c 44 (ok_iand (by decide +kernel) rfl) ?_
  refine hAllOk.c 45 (ok_istore (by decide) (by decide +kernel) rfl) ?_
  refine hAllOk.c 46 (ok_no) ?_
  refine hAllOk.c 47 (ok_iload (by decide +kernel) rfl) ?_
  refine hAllOk.c 48 (ok_no) ?_
  refine hAllOk.c 49 (ok_ifeq (off := 28) (by decide +kernel) (by decide +kernel) rfl) ?_
  refine hAllOk.c 50 (ok_no) ?_
  refine hAllOk.c 51 (ok_no) ?_
  refine hAllOk.c 52 (ok_aload_n (f := 0) rfl (by decide +kernel) rfl) ?_
  refine hAllOk.c 53 (ok_iload (by decide +kernel) rfl) ?_
  refine hAllOk.c 54 (ok_no) ?_
  refine hAllOk.c 55 (ok_bipush (n := 6) (by decide +kernel) (by decide +kernel) rfl) ?_
  refine hAllOk.c 56 (ok_no) ?_
  refine hAllOk.c 57 (ok_ishr (by decide +kernel) rfl) ?_
  refine hAllOk.c 58 (ok_iconst (n := 1) (by decide +kernel) (by decide +kernel) rfl) ?_
  refine hAllOk.c 59 (ok_iand (by decide +kernel) rfl) ?_
  refine hAllOk.c 60 (ok_iconst (n := 1) (by decide +kernel) (by decide +kernel) rfl) ?_
  refine hAllOk.c 61 (ok_icne (off := 8) (by decide +kernel) (by decide +kernel) rfl) ?_
  refine hAllOk.c 62 (ok_no) ?_
  refine hAllOk.c 63 (ok_no) ?_
  refine hAllOk.c 64 (ok_bipush (n := 38) (by decide +kernel) (by decide +kernel) rfl) ?_
  refine hAllOk.c 65 (ok_no) ?_
  refine hAllOk.c 66 (ok_goto (off := 5) (by decide +kernel) (by decide +kernel)) ?_
  refine hAllOk.c 67 (ok_no) ?_
  refine hAllOk.c 68 (ok_no) ?_
  refine hAllOk.c 69 (ok_bipush (n := 124) (by decide +kernel) (by decide +kernel) rfl) ?_
  refine hAllOk.c 70 (ok_no) ?_
  refine hAllOk.c 71 (ok_callV (idx := 62) ⟨wd_t_508, wd_t_1, by decide +kernel, by decide +kernel⟩ rfl rfl wd_t_505 wd_t_506 wd_t_507 (by decide +kernel) rfl) ?_
  refine hAllOk.c 72 (ok_no) ?_
  refine hAllOk.c 73 (ok_no) ?_
  refine hAllOk.c 74 (ok_ifle (off := 7) (by decide +kernel) (by decide +kernel) rfl) ?_
  refine hAllOk.c 75 (ok_no) ?_
  refine hAllOk.c 76 (ok_no) ?_
  refine hAllOk.c 77 (ok_iconst (n := 1) (by decide +kernel) (by decide +kernel) rfl) ?_
  refine hAllOk.c 78 (ok_goto (off := 4) (by decide +kernel) (by decide +kernel)) ?_
  refine hAllOk.c 79 (ok_no) ?_
  refine hAllOk.c 80 (ok_no) ?_
  refine hAllOk.c 81 (ok_iconst (n := 0) (by decide +kernel) (by decide +kernel) rfl) ?_
  refine hAllOk.c 82 (ok_istore_n (f := 3) rfl (by decide) (by decide +kernel) rfl) ?_
  refine hAllOk.c 83 (ok_iload (by decide +kernel) rfl) ?_
  refine hAllOk.c 84 (ok_no) ?_
  refine hAllOk.c 85 (ok_iconst (n := 2) (by decide +kernel) (by decide +kernel) rfl) ?_
  refine hAllOk.c 86 (ok_icge (off := 37) (by decide +kernel) (by decide +kernel) rfl) ?_
  refine hAllOk.c 87 (ok_no) ?_
  refine hAllOk.c 88 (ok_no) ?_
  refine hAllOk.c 89 (ok_iload_n (f := 3) rfl (by decide +kernel) rfl) ?_
  refine hAllOk.c 90 (ok_ifeq (off := 28) (by decide +kernel) (by decide +kernel) rfl) ?_
  refine hAllOk.c 91 (ok_no) ?_
  refine hAllOk.c 92 (ok_no) ?_
  refine hAllOk.c 93 (ok_aload_n (f := 0) rfl (by decide +kernel) rfl) ?_
  refine hAllOk.c 94 (ok_bipush (n := 97) (by decide +kernel) (by decide +kernel) rfl) ?_
  refine hAllOk.c 95 (ok_no) ?_
  refine hAllOk.c 96 (ok_iload (by decide +kernel) rfl) ?_
  refine hAllOk.c 97 (ok_no) ?_
  refine hAllOk.c 98 (ok_iconst (n := 2) (by decide +kernel) (by decide +kernel) rfl) ?_
  refine hAllOk.c 99 (ok_ishr (by decide +kernel) rfl) ?_
  refine hAllOk.c 100 (ok_aload_n (f := 0) rfl (by decide +kernel) rfl) ?_
  refine hAllOk.c 101 (ok_iconst (n := 1) (by decide +kernel) (by decide +kernel) rfl) ?_
  refine hAllOk.c 102 (ok_callV (idx := 9) ⟨wd_t_413, wd_t_1, by decide +kernel, by decide +kernel⟩ rfl rfl wd_t_410 wd_t_411 wd_t_412 (by decide +kernel) rfl) ?_
  refine hAllOk.c 103 (ok_no) ?_
  refine hAllOk.c 104 (ok_no) ?_
  refine hAllOk.c 105 (ok_irem (by decide +kernel) rfl) ?_
  refine hAllOk.c 106 (ok_iadd (by decide +kernel) rfl) ?_
  refine hAllOk.c 107 (ok_i2c (by decide +kernel) rfl) ?_
  refine hAllOk.c 108 (ok_callV (idx := 62) ⟨wd_t_508, wd_t_1, by decide +kernel, by decide +kernel⟩ rfl rfl wd_t_505 wd_t_506 wd_t_507 (by decide +kernel) rfl) ?_
  refine hAllOk.c 109 (ok_no) ?_
  refine hAllOk.c 110 (ok_no) ?_
  refine hAllOk.c 111 (ok_ifle (off := 7) (by decide +kernel) (by decide +kernel) rfl) ?_
  refine hAllOk.c 112 (ok_no) ?_
  refine hAllOk.c 113 (ok_no) ?_
  refine hAllOk.c 114 (ok_iconst (n := 1) (by decide +kernel) (by decide +kernel) rfl) ?_
  refine hAllOk.c 115 (ok_goto (off := 4) (by decide +kernel) (by decide +kernel)) ?_
  refine hAllOk.c 116 (ok_no) ?_
  refine hAllOk.c 117 (ok_no) ?_
  refine hAllOk.c 118 (ok_iconst (n := 0) (by decide +kernel) (by decide +kernel) rfl) ?_
  refine hAllOk.c 119 (ok_istore_n (f := 3) rfl (by decide) (by decide +kernel) rfl) ?_
  refine hAllOk.c 120 (ok_goto (off := 127) (by decide +kernel) (by decide +kernel)) ?_
  refine hAllOk.c 121 (ok_no) ?_
  refine hAllOk.c 122 (ok_no) ?_
  refine hAllOk.c 123 (ok_iload (by decide +kernel) rfl) ?_
  refine hAllOk.c 124 (ok_no) ?_
  refine hAllOk.c 125 (ok_iconst (n := 2) (by decide +kernel) (by decide +kernel) rfl) ?_
  refine hAllOk.c 126 (ok_icne (off := 43) (by decide +kernel) (by decide +kernel) rfl) ?_
  refine hAllOk.c 127 (ok_no) ?_
  refine hAllOk.c 128 (ok_no) ?_
  refine hAllOk.c 129 (ok_iload_n (f := 3) rfl (by decide +kernel) rfl) ?_
  refine hAllOk.c 130 (ok_ifeq (off := 34) (by decide +kernel) (by decide +kernel) rfl) ?_
  refine hAllOk.c 131 (ok_no) ?_
  refine hAllOk.c 132 (ok_no) ?_
  refine hAllOk.c 133 (ok_aload_n (f := 0) rfl (by decide +kernel) rfl) ?_
  refine hAllOk.c 134 (ok_bipush (n := 35) (by decide +kernel) (by decide +kernel) rfl) ?_
  refine hAllOk.c 135 (ok_no) ?_
  refine hAllOk.c 136 (ok_callV (idx := 62) ⟨wd_t_508, wd_t_1, by decide +kernel, by decide +kernel⟩ rfl rfl wd_t_505 wd_t_506 wd_t_507 (by decide +kernel) rfl) ?_
  refine hAllOk.c 137 (ok_no) ?_
  refine hAllOk.c 138 (ok_no) ?_
  refine hAllOk.c 139 (ok_ifle (off := 25) (by decide +kernel) (by decide +kernel) rfl) ?_
  refine hAllOk.c 140 (ok_no) ?_
  refine hAllOk.c 141 (ok_no) ?_
  refine hAllOk.c 142 (ok_aload_n (f := 0) rfl (by decide +kernel) rfl) ?_
  refine hAllOk.c 143 (ok_bipush (n := 49) (by decide +kernel) (by decide +kernel) rfl) ?_
  refine hAllOk.c 144 (ok_no) ?_
  refine hAllOk.c 145 (ok_iload (by decide +kernel) rfl) ?_
  refine hAllOk.c 146 (ok_no) ?_
  refine hAllOk.c 147 (ok_iconst (n := 2) (by decide +kernel) (by decide +kernel) rfl) ?_
  refine hAllOk.c 148 (ok_ishr (by decide +kernel) rfl) ?_
  refine hAllOk.c 149 (ok_bipush (n := 6) (by decide +kernel) (by decide +kernel) rfl) ?_
  refine hAllOk.c 150 (ok_no) ?_
  refine hAllOk.c 151 (ok_irem (by decide +kernel) rfl) ?_
  refine hAllOk.c 152 (ok_iadd (by decide +kernel) rfl) ?_
  refine hAllOk.c 153 (ok_i2c (by decide +kernel) rfl) ?_
  refine hAllOk.c 154 (ok_callV (idx := 62) ⟨wd_t_508, wd_t_1, by decide +kernel, by decide +kernel⟩ rfl rfl wd_t_505 wd_t_506 wd_t_507 (by decide +kernel) rfl) ?_
  refine hAllOk.c 155 (ok_no) ?_
  refine hAllOk.c 156 (ok_no) ?_
  refine hAllOk.c 157 (ok_ifle (off := 7) (by decide +kernel) (by decide +kernel) rfl) ?_
  refine hAllOk.c 158 (ok_no) ?_
  refine hAllOk.c 159 (ok_no) ?_
  refine hAllOk.c 160 (ok_iconst (n := 1) (by decide +kernel) (by decide +kernel) rfl) ?_
  refine hAllOk.c 161 (ok_goto (off := 4) (by decide +kernel) (by decide +kernel)) ?_
  refine hAllOk.c 162 (ok_no) ?_
  refine hAllOk.c 163 (ok_no) ?_
  refine hAllOk.c 164 (ok_iconst (n := 0) (by decide +kernel) (by decide +kernel) rfl) ?_
  refine hAllOk.c 165 (ok_istore_n (f := 3) rfl (by decide) (by decide +kernel) rfl) ?_
  refine hAllOk.c 166 (ok_goto (off := 81) (by decide +kernel) (by decide +kernel)) ?_
  refine hAllOk.c 167 (ok_no) ?_
  refine hAllOk.c 168 (ok_no) ?_
  refine hAllOk.c 169 (ok_iload_n (f := 3) rfl (by decide +kernel) rfl) ?_
  refine hAllOk.c 170 (ok_ifeq (off := 75) (by decide +kernel) (by decide +kernel) rfl) ?_
  refine hAllOk.c 171 (ok_no) ?_
  refine hAllOk.c 172 (ok_no) ?_
  refine hAllOk.c 173 (ok_aload_n (f := 0) rfl (by decide +kernel) rfl) ?_
  refine hAllOk.c 174 (ok_bipush (n := 49) (by decide +kernel) (by decide +kernel) rfl) ?_
  refine hAllOk.c 175 (ok_no) ?_
  refine hAllOk.c 176 (ok_iload (by decide +kernel) rfl) ?_
  refine hAllOk.c 177 (ok_no) ?_
  refine hAllOk.c 178 (ok_iconst (n := 2) (by decide +kernel) (by decide +kernel) rfl) ?_
  refine hAllOk.c 179 (ok_ishr (by decide +kernel) rfl) ?_
  refine hAllOk.c 180 (ok_iconst (n := 2) (by decide +kernel) (by decide +kernel) rfl) ?_
  refine hAllOk.c 181 (ok_irem (by decide +kernel) rfl) ?_
  refine hAllOk.c 182 (ok_iadd (by decide +kernel) rfl) ?_
  refine hAllOk.c 183 (ok_i2c (by decide +kernel) rfl) ?_
  refine hAllOk.c 184 (ok_callV (idx := 62) ⟨wd_t_508, wd_t_1, by decide +kernel, by decide +kernel⟩ rfl rfl wd_t_505 wd_t_506 wd_t_507 (by decide +kernel) rfl) ?_
  refine hAllOk.c 185 (ok_no) ?_
  refine hAllOk.c 186 (ok_no) ?_
  refine hAllOk.c 187 (ok_ifle (off := 58) (by decide +kernel) (by decide +kernel) rfl) ?_
  refine hAllOk.c 188 (ok_no) ?_
  refine hAllOk.c 189 (ok_no) ?_
  refine hAllOk.c 190 (ok_aload_n (f := 0) rfl (by decide +kernel) rfl) ?_
  refine hAllOk.c 191 (ok_bipush (n := 58) (by decide +kernel) (by decide +kernel) rfl) ?_
  refine hAllOk.c 192 (ok_no) ?_
  refine hAllOk.c 193 (ok_callV (idx := 62) ⟨wd_t_508, wd_t_1, by decide +kernel, by decide +kernel⟩ rfl rfl wd_t_505 wd_t_506 wd_t_507 (by decide +kernel) rfl) ?_
  refine hAllOk.c 194 (ok_no) ?_
  refine hAllOk.c 195 (ok_no) ?_
  refine hAllOk.c 196 (ok_ifle (off := 49) (by decide +kernel) (by decide +kernel) rfl) ?_
  refine hAllOk.c 197 (ok_no) ?_
  refine hAllOk.c 198 (ok_no) ?_
  refine hAllOk.c 199 (ok_aload_n (f := 0) rfl (by decide +kernel) rfl) ?_
  refine hAllOk.c 200 (ok_bipush (n := 97) (by decide +kernel) (by decide +kernel) rfl) ?_
  refine hAllOk.c 201 (ok_no) ?_
  refine hAllOk.c 202 (ok_iload (by decide +kernel) rfl) ?_
  refine hAllOk.c 203 (ok_no) ?_
  refine hAllOk.c 204 (ok_iconst (n := 3) (by decide +kernel) (by decide +kernel) rfl) ?_
  refine hAllOk.c 205 (ok_ishr (by decide +kernel) rfl) ?_
  refine hAllOk.c 206 (ok_aload_n (f := 0) rfl (by decide +kernel) rfl) ?_
  refine hAllOk.c 207 (ok_iconst (n := 1) (by decide +kernel) (by decide +kernel) rfl) ?_
  refine hAllOk.c 208 (ok_callV (idx := 9) ⟨wd_t_413, wd_t_1, by decide +kernel, by decide +kernel⟩ rfl rfl wd_t_410 wd_t_411 wd_t_412 (by decide +kernel) rfl) ?_
  refine hAllOk.c 209 (ok_no) ?_
  refine hAllOk.c 210 (ok_no) ?_
  refine hAllOk.c 211 (ok_irem (by decide +kernel) rfl) ?_
  refine hAllOk.c 212 (ok_iadd (by decide +kernel) rfl) ?_
  refine hAllOk.c 213 (ok_i2c (by decide +kernel) rfl) ?_
  refine hAllOk.c 214 (ok_callV (idx := 62) ⟨wd_t_508, wd_t_1, by decide +kernel, by decide +kernel⟩ rfl rfl wd_t_505 wd_t_506 wd_t_507 (by decide +kernel) rfl) ?_
  refine hAllOk.c 215 (ok_no) ?_
  refine hAllOk.c 216 (ok_no) ?_
  refine hAllOk.c 217 (ok_ifle (off := 28) (by decide +kernel) (by decide +kernel) rfl) ?_
  refine hAllOk.c 218 (ok_no) ?_
  refine hAllOk.c 219 (ok_no) ?_
  refine hAllOk.c 220 (ok_aload_n (f := 0) rfl (by decide +kernel) rfl) ?_
  refine hAllOk.c 221 (ok_bipush (n := 97) (by decide +kernel) (by decide +kernel) rfl) ?_
  refine hAllOk.c 222 (ok_no) ?_
  refine hAllOk.c 223 (ok_iload (by decide +kernel) rfl) ?_
  refine hAllOk.c 224 (ok_no) ?_
  refine hAllOk.c 225 (ok_iconst (n := 4) (by decide +kernel) (by decide +kernel) rfl) ?_
  refine hAllOk.c 226 (ok_ishr (by decide +kernel) rfl) ?_
  refine hAllOk.c 227 (ok_aload_n (f := 0) rfl (by decide +kernel) rfl) ?_
  refine hAllOk.c 228 (ok_iconst (n := 1) (by decide +kernel) (by decide +kernel) rfl) ?_
  refine hAllOk.c 229 (ok_callV (idx := 9) ⟨wd_t_413, wd_t_1, by decide +kernel, by decide +kernel⟩ rfl rfl wd_t_410 wd_t_411 wd_t_412 (by decide +kernel) rfl) ?_
  refine hAllOk.c 230 (ok_no) ?_
  refine hAllOk.c 231 (ok_no) ?_
  refine hAllOk.c 232 (ok_irem (by decide +kernel) rfl) ?_
  refine hAllOk.c 233 (ok_iadd (by decide +kernel) rfl) ?_
  refine hAllOk.c 234 (ok_i2c (by decide +kernel) rfl) ?_
  refine hAllOk.c 235 (ok_callV (idx := 62) ⟨wd_t_508, wd_t_1, by decide +kernel, by decide +kernel⟩ rfl rfl wd_t_505 wd_t_506 wd_t_507 (by decide +kernel) rfl) ?_
  refine hAllOk.c 236 (ok_no) ?_
  refine hAllOk.c 237 (ok_no) ?_
  refine hAllOk.c 238 (ok_ifle (off := 7) (by decide +kernel) (by decide +kernel) rfl) ?_
  refine hAllOk.c 239 (ok_no) ?_
  refine hAllOk.c 240 (ok_no) ?_
  refine hAllOk.c 241 (ok_iconst (n := 1) (by decide +kernel) (by decide +kernel) rfl) ?_
  refine hAllOk.c 242 (ok_goto (off := 4) (by decide +kernel) (by decide +kernel)) ?_
  refine hAllOk.c 243 (ok_no) ?_
  refine hAllOk.c 244 (ok_no) ?_
  refine hAllOk.c 245 (ok_iconst (n := 0) (by decide +kernel) (by decide +kernel) rfl) ?_
  refine hAllOk.c 246 (ok_istore_n (f := 3) rfl (by decide) (by decide +kernel) rfl) ?_
  refine hAllOk.c 247 (ok_iinc (n := 1) (by decide +kernel) (by decide) (by decide +kernel) rfl) ?_
  refine hAllOk.c 248 (ok_no) ?_
  refine hAllOk.c 249 (ok_no) ?_
  refine hAllOk.c 250 (ok_goto (off := (-234)) (by decide +kernel) (by decide +kernel)) ?_
  refine hAllOk.c 251 (ok_no) ?_
  refine hAllOk.c 252 (ok_no) ?_
  refine hAllOk.c 253 (ok_aload_n (f := 0) rfl (by decide +kernel) rfl) ?_
  refine hAllOk.c 254 (ok_iload_n (f := 1) rfl (by decide +kernel) rfl) ?_
  refine hAllOk.c 255 (ok_iconst (n := 3) (by decide +kernel) (by decide +kernel) rfl) ?_
  refine hAllOk.c 256 (ok_callV (idx := 15) ⟨wd_t_451, wd_t_1, by decide +kernel, by decide +kernel⟩ rfl rfl wd_t_448 wd_t_449 wd_t_450 (by decide +kernel) rfl) ?_
  refine hAllOk.c 257 (ok_no) ?_
  refine hAllOk.c 258 (ok_no) ?_
  refine hAllOk.c 259 (ok_istore (by decide) (by decide +kernel) rfl) ?_
  refine hAllOk.c 260 (ok_no) ?_
  refine hAllOk.c 261 (ok_aload_n (f := 0) rfl (by decide +kernel) rfl) ?_
  refine hAllOk.c 262 (ok_iconst (n := 0) (by decide +kernel) (by decide +kernel) rfl) ?_
  refine hAllOk.c 263 (ok_callV (idx := 9) ⟨wd_t_413, wd_t_1, by decide +kernel, by decide +kernel⟩ rfl rfl wd_t_410 wd_t_411 wd_t_412 (by decide +kernel) rfl) ?_
  refine hAllOk.c 264 (ok_no) ?_
  refine hAllOk.c 265 (ok_no) ?_
  refine hAllOk.c 266 (ok_aload_n (f := 0) rfl (by decide +kernel) rfl) ?_
  refine hAllOk.c 267 (ok_bipush (n := 6) (by decide +kernel) (by decide +kernel) rfl) ?_
  refine hAllOk.c 268 (ok_no) ?_
  refine hAllOk.c 269 (ok_callV (idx := 9) ⟨wd_t_413, wd_t_1, by decide +kernel, by decide +kernel⟩ rfl rfl wd_t_410 wd_t_411 wd_t_412 (by decide +kernel) rfl) ?_
  refine hAllOk.c 270 (ok_no) ?_
  refine hAllOk.c 271 (ok_no) ?_
  refine hAllOk.c 272 (ok_icle (off := 12) (by decide +kernel) (by decide +kernel) rfl) ?_
  refine hAllOk.c 273 (ok_no) ?_
  refine hAllOk.c 274 (ok_no) ?_
  refine hAllOk.c 275 (ok_aload_n (f := 0) rfl (by decide +kernel) rfl) ?_
  refine hAllOk.c 276 (ok_bipush (n := 7) (by decide +kernel) (by decide +kernel) rfl) ?_
  refine hAllOk.c 277 (ok_no) ?_
  refine hAllOk.c 278 (ok_callV (idx := 9) ⟨wd_t_413, wd_t_1, by decide +kernel, by decide +kernel⟩ rfl rfl wd_t_410 wd_t_411 wd_t_412 (by decide +kernel) rfl) ?_
  refine hAllOk.c 279 (ok_no) ?_
  refine hAllOk.c 280 (ok_no) ?_
  refine hAllOk.c 281 (ok_goto (off := 4) (by decide +kernel) (by decide +kernel)) ?_
  refine hAllOk.c 282 (ok_no) ?_
  refine hAllOk.c 283 (ok_no) ?_
  refine hAllOk.c 284 (ok_iconst (n := 0) (by decide +kernel) (by decide +kernel) rfl) ?_
  refine hAllOk.c 285 (ok_istore (by decide) (by decide +kernel) rfl) ?_
  refine hAllOk.c 286 (ok_no) ?_
  refine hAllOk.c 287 (ok_aload_n (f := 0) rfl (by decide +kernel) rfl) ?_
  refine hAllOk.c 288 (ok_iload_n (f := 1) rfl (by decide +kernel) rfl) ?_
  refine hAllOk.c 289 (ok_callV (idx := 66) ⟨wd_t_512, wd_t_1, by decide +kernel, by decide +kernel⟩ rfl rfl wd_t_509 wd_t_510 wd_t_511 (by decide +kernel) rfl) ?_
  refine hAllOk.c 290 (ok_no) ?_
  refine hAllOk.c 291 (ok_no) ?_
  refine hAllOk.c 292 (ok_istore (by decide) (by decide +kernel) rfl) ?_
  refine hAllOk.c 293 (ok_no) ?_
  refine hAllOk.c 294 (ok_iload_n (f := 3) rfl (by decide +kernel) rfl) ?_
  refine hAllOk.c 295 (ok_ifeq (off := 60) (by decide +kernel) (by decide +kernel) rfl) ?_
  refine hAllOk.c 296 (ok_no) ?_
  refine hAllOk.c 297 (ok_no) ?_
  refine hAllOk.c 298 (ok_aload_n (f := 0) rfl (by decide +kernel) rfl) ?_
  refine hAllOk.c 299 (ok_bipush (n := 8) (by decide +kernel) (by decide +kernel) rfl) ?_
  refine hAllOk.c 300 (ok_no) ?_
  refine hAllOk.c 301 (ok_callV (idx := 9) ⟨wd_t_413, wd_t_1, by decide +kernel, by decide +kernel⟩ rfl rfl wd_t_410 wd_t_411 wd_t_412 (by decide +kernel) rfl) ?_
  refine hAllOk.c 302 (ok_no) ?_
  refine hAllOk.c 303 (ok_no) ?_
  refine hAllOk.c 304 (ok_iconst (n := 1) (by decide +kernel) (by decide +kernel) rfl) ?_
  refine hAllOk.c 305 (ok_icne (off := 13) (by decide +kernel) (by decide +kernel) rfl) ?_
  refine hAllOk.c 306 (ok_no) ?_
  refine hAllOk.c 307 (ok_no) ?_
  refine hAllOk.c 308 (ok_iload (by decide +kernel) rfl) ?_
  refine hAllOk.c 309 (ok_no) ?_
  refine hAllOk.c 310 (ok_bipush (n := -4) (by decide +kernel) (by decide +kernel) rfl) ?_
  refine hAllOk.c 311 (ok_no) ?_
  refine hAllOk.c 312 (ok_icne (off := 43) (by decide +kernel) (by decide +kernel) rfl) ?_
  refine hAllOk.c 313 (ok_no) ?_
  refine hAllOk.c 314 (ok_no) ?_
  refine hAllOk.c 315 (ok_goto (off := 36) (by decide +kernel) (by decide +kernel)) ?_
  refine hAllOk.c 316 (ok_no) ?_
  refine hAllOk.c 317 (ok_no) ?_
  refine hAllOk.c 318 (ok_iload (by decide +kernel) rfl) ?_
  refine hAllOk.c 319 (ok_no) ?_
  refine hAllOk.c 320 (ok_iflt (off := 35) (by decide +kernel) (by decide +kernel) rfl) ?_
  refine hAllOk.c 321 (ok_no) ?_
  refine hAllOk.c 322 (ok_no) ?_
  refine hAllOk.c 323 (ok_iload (by decide +kernel) rfl) ?_
  refine hAllOk.c 324 (ok_no) ?_
  refine hAllOk.c 325 (ok_aload_n (f := 0) rfl (by decide +kernel) rfl) ?_
  refine hAllOk.c 326 (ok_iload_n (f := 1) rfl (by decide +kernel) rfl) ?_
  refine hAllOk.c 327 (ok_iconst (n := 4) (by decide +kernel) (by decide +kernel) rfl) ?_
  refine hAllOk.c 328 (ok_callV (idx := 15) ⟨wd_t_451, wd_t_1, by decide +kernel, by decide +kernel⟩ rfl rfl wd_t_448 wd_t_449 wd_t_450 (by decide +kernel) rfl) ?_
  refine hAllOk.c 329 (ok_no) ?_
  refine hAllOk.c 330 (ok_no) ?_
  refine hAllOk.c 331 (ok_callS (idx := 25) ⟨wd_t_447, wd_t_0, by decide +kernel, by decide +kernel⟩ wd_t_445 wd_t_446 (by decide +kernel) rfl) ?_
  refine hAllOk.c 332 (ok_no) ?_
  refine hAllOk.c 333 (ok_no) ?_
  refine hAllOk.c 334 (ok_icne (off := 21) (by decide +kernel) (by decide +kernel) rfl) ?_
  refine hAllOk.c 335 (ok_no) ?_
  refine hAllOk.c 336 (ok_no) ?_
  refine hAllOk.c 337 (ok_aload_n (f := 0) rfl (by decide +kernel) rfl) ?_
  refine hAllOk.c 338 (ok_iload_n (f := 1) rfl (by decide +kernel) rfl) ?_
  refine hAllOk.c 339 (ok_iconst (n := 3) (by decide +kernel) (by decide +kernel) rfl) ?_
  refine hAllOk.c 340 (ok_callV (idx := 15) ⟨wd_t_451, wd_t_1, by decide +kernel, by decide +kernel⟩ rfl rfl wd_t_448 wd_t_449 wd_t_450 (by decide +kernel) rfl) ?_
  refine hAllOk.c 341 (ok_no) ?_
  refine hAllOk.c 342 (ok_no) ?_
  refine hAllOk.c 343 (ok_iload (by decide +kernel) rfl) ?_
  refine hAllOk.c 344 (ok_no) ?_
  refine hAllOk.c 345 (ok_iload (by decide +kernel) rfl) ?_
  refine hAllOk.c 346 (ok_no) ?_
  refine hAllOk.c 347 (ok_iadd (by decide +kernel) rfl) ?_
  refine hAllOk.c 348 (ok_icne (off := 7) (by decide +kernel) (by decide +kernel) rfl) ?_
  refine hAllOk.c 349 (ok_no) ?_
  refine hAllOk.c 350 (ok_no) ?_
  refine hAllOk.c 351 (ok_iconst (n := 1) (by decide +kernel) (by decide +kernel) rfl) ?_
  refine hAllOk.c 352 (ok_goto (off := 4) (by decide +kernel) (by decide +kernel)) ?_
  refine hAllOk.c 353 (ok_no) ?_
  refine hAllOk.c 354 (ok_no) ?_
  refine hAllOk.c 355 (ok_iconst (n := 0) (by decide +kernel) (by decide +kernel) rfl) ?_
  refine hAllOk.c 356 (ok_ireturn (by decide +kernel)) ?_
  trivial
