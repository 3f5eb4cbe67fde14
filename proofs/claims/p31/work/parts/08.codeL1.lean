theorem wd_t_429 : Cond.constant RL 7 (15565427) ∈ hTb := hTb_t (List.mem_of_getElem? (i := 429) (by decide +kernel)) (by decide +kernel)
theorem wd_t_430 : Cond.constant RL 8 (2147483647) ∈ hTb := hTb_t (List.mem_of_getElem? (i := 430) (by decide +kernel)) (by decide +kernel)
def M_La_cell : hM := (yL_cell, method_2_code, 2, (some .int), 0, 0)
def code_La_cell (K : hK) (B : Nat × Nat) (Q : hPost) : List hSem := [x_iload 1 1, x_aload 2 0, x_alen K 3, x_icge 12 6, x_no, x_no, x_aload 7 0, x_iload 8 1, x_iaload K 9, x_goto 20, x_no, x_no, x_const 14 (15565427), x_no, x_iload 15 1, x_imul 16, x_const 19 (1907), x_no, x_no, x_iadd 20, x_const 22 (2147483647), x_no, x_iand 23, x_ireturn (some .int) Q]
set_option maxRecDepth 100000 in
set_option maxHeartbeats 4000000 in
theorem okc_La_cell (K : hK) (B : Nat × Nat) (Q : hPost) : hAllOk (hJ K M_La_cell B Q) 0 (code_La_cell K B Q) := by
  refine hAllOk.c 0 (ok_iload_n (f := 1) rfl (by decide +kernel) rfl) ?_
  refine hAllOk.c 1 (ok_aload_n (f := 0) rfl (by decide +kernel) rfl) ?_
  refine hAllOk.c 2 (ok_alen (by decide +kernel) rfl) ?_
  refine hAllOk.c 3 (ok_icge (off := 9) (by decide +kernel) (by decide +kernel) rfl) ?_
  refine hAllOk.c 4 (ok_no) ?_
  refine hAllOk.c 5 (ok_no) ?_
  refine hAllOk.c 6 (ok_aload_n (f := 0) rfl (by decide +kernel) rfl) ?_
  refine hAllOk.c 7 (ok_iload_n (f := 1) rfl (by decide +kernel) rfl) ?_
  refine hAllOk.c 8 (ok_iaload (by decide +kernel) rfl) ?_
  refine hAllOk.c 9 (ok_goto (off := 11) (by decide +kernel) (by decide +kernel)) ?_
  refine hAllOk.c 10 (ok_no) ?_
  refine hAllOk.c 11 (ok_no) ?_
  refine hAllOk.c 12 (ok_ldc (i := 7) wd_t_429 (by decide +kernel) rfl) ?_
  refine hAllOk.c 13 (ok_no) ?_
  refine hAllOk.c 14 (ok_iload_n (f := 1) rfl (by decide +kernel) rfl) ?_
  refine hAllOk.c 15 (ok_imul (by decide +kernel) rfl) ?_
  refine hAllOk.c 16 (ok_sipush (n := 1907) (by decide +kernel) (by decide +kernel) rfl) ?_
  refine hAllOk.c 17 (ok_no) ?_
  refine hAllOk.c 18 (ok_no) ?_
  refine hAllOk.c 19 (ok_iadd (by decide +kernel) rfl) ?_
  refine hAllOk.c 20 (ok_ldc (i := 8) wd_t_430 (by decide +kernel) rfl) ?_
  refine hAllOk.c 21 (ok_no) ?_
  refine hAllOk.c 22 (ok_iand (by decide +kernel) rfl) ?_
  refine hAllOk.c 23 (ok_ireturn (by decide +kernel)) ?_
  trivial
def M_La_ones : hM := (yL_ones, method_3_code, 3, (some .int), 0, 0)
def code_La_ones (K : hK) (B : Nat × Nat) (Q : hPost) : List hSem := [x_const 1 (0), x_istore 2 1, x_const 3 (0), x_istore 4 2, x_iload 5 2, x_const 7 (12), x_no, x_icge 24 10, x_no, x_no, x_iload 11 1, x_iload 12 0, x_iload 13 2, x_ishr 14, x_const 15 (1), x_iand 16, x_iadd 17, x_istore 18 1, x_iinc 21 2 (1), x_no, x_no, x_goto 4, x_no, x_no, x_iload 25 1, x_ireturn (some .int) Q]
set_option maxRecDepth 100000 in
set_option maxHeartbeats 4000000 in
theorem okc_La_ones (K : hK) (B : Nat × Nat) (Q : hPost) : hAllOk (hJ K M_La_ones B Q) 0 (code_La_ones K B Q) := by
  refine hAllOk.c 0 (ok_iconst (n := 0) (by decide +kernel) (by decide +kernel) rfl) ?_
  refine hAllOk.c 1 (ok_istore_n (f := 1) rfl (by decide) (by decide +kernel) rfl) ?_
  refine hAllOk.c 2 (ok_iconst (n := 0) (by decide +kernel) (by decide +kernel) rfl) ?_
  refine hAllOk.c 3 (ok_istore_n (f := 2) rfl (by decide) (by decide +kernel) rfl) ?_
  refine hAllOk.c 4 (ok_iload_n (f := 2) rfl (by decide +kernel) rfl) ?_
  refine hAllOk.c 5 (ok_bipush (n := 12) (by decide +kernel) (by decide +kernel) rfl) ?_
  refine hAllOk.c 6 (ok_no) ?_
  refine hAllOk.c 7 (ok_icge (off := 17) (by decide +kernel) (by decide +kernel) rfl) ?_
  refine hAllOk.c 8 (ok_no) ?_
  refine hAllOk.c 9 (ok_no) ?_
  refine hAllOk.c 10 (ok_iload_n (f := 1) rfl (by decide +kernel) rfl) ?_
  refine hAllOk.c 11 (ok_iload_n (f := 0) rfl (by decide +kernel) rfl) ?_
  refine hAllOk.c 12 (ok_iload_n (f := 2) rfl (by decide +kernel) rfl) ?_
  refine hAllOk.c 13 (ok_ishr (by decide +kernel) rfl) ?_
  refine hAllOk.c 14 (ok_iconst (n := 1) (by decide +kernel) (by decide +kernel) rfl) ?_
  refine hAllOk.c 15 (ok_iand (by decide +kernel) rfl) ?_
  refine hAllOk.c 16 (ok_iadd (by decide +kernel) rfl) ?_
  refine hAllOk.c 17 (ok_istore_n (f := 1) rfl (by decide) (by decide +kernel) rfl) ?_
  refine hAllOk.c 18 (ok_iinc (n := 1) (by decide +kernel) (by decide) (by decide +kernel) rfl) ?_
  refine hAllOk.c 19 (ok_no) ?_
  refine hAllOk.c 20 (ok_no) ?_
  refine hAllOk.c 21 (ok_goto (off := (-17)) (by decide +kernel) (by decide +kernel)) ?_
  refine hAllOk.c 22 (ok_no) ?_
  refine hAllOk.c 23 (ok_no) ?_
  refine hAllOk.c 24 (ok_iload_n (f := 1) rfl (by decide +kernel) rfl) ?_
  refine hAllOk.c 25 (ok_ireturn (by decide +kernel)) ?_
  trivial
theorem wd_t_410 : Cond.methodLink RL 9 yX5_count ∈ hTb := hTb_t (List.mem_of_getElem? (i := 410) (by decide +kernel)) (by decide +kernel)
theorem wd_t_413 : Cond.code yX5_count prog_1_method_29_code 2 (some .int) ∈ hTb := hTb_t (List.mem_of_getElem? (i := 413) (by decide +kernel)) (by decide +kernel)
theorem wd_t_411 : Cond.instanceMethod yX5_count ∈ hTb := hTb_t (List.mem_of_getElem? (i := 411) (by decide +kernel)) (by decide +kernel)
theorem wd_t_412 : Cond.selects RX5 yX5_count yX5_count ∈ hTb := hTb_t (List.mem_of_getElem? (i := 412) (by decide +kernel)) (by decide +kernel)
theorem wd_t_448 : Cond.methodLink RL 15 yX5_guest ∈ hTb := hTb_t (List.mem_of_getElem? (i := 448) (by decide +kernel)) (by decide +kernel)
theorem wd_t_451 : Cond.code yX5_guest prog_1_method_17_code 4 (some .int) ∈ hTb := hTb_t (List.mem_of_getElem? (i := 451) (by decide +kernel)) (by decide +kernel)
theorem wd_t_449 : Cond.instanceMethod yX5_guest ∈ hTb := hTb_t (List.mem_of_getElem? (i := 449) (by decide +kernel)) (by decide +kernel)
theorem wd_t_450 : Cond.selects RX5 yX5_guest yX5_guest ∈ hTb := hTb_t (List.mem_of_getElem? (i := 450) (by decide +kernel)) (by decide +kernel)
def M_La_weight : hM := (yL_weight, method_4_code, 4, (some .int), 4, 86)
def code_La_weight (K : hK) (B : Nat × Nat) (Q : hPost) : List hSem := [x_const 1 (0), x_istore 2 2, x_const 3 (0), x_istore 4 3, x_iload 5 3, x_aload 6 0, x_const 7 (1), x_callV K 10 M_Pa_count 5 1, x_no, x_no, x_icge 34 13, x_no, x_no, x_iload 14 2, x_iload 15 1, x_iload 16 3, x_ishr 17, x_const 18 (1), x_iand 19, x_aload 20 0, x_iload 21 3, x_const 22 (1), x_callV K 25 M_Pa_guest 5 2, x_no, x_no, x_imul 26, x_iadd 27, x_istore 28 2, x_iinc 31 3 (1), x_no, x_no, x_goto 4, x_no, x_no, x_iload 35 2, x_ireturn (some .int) Q]
set_option maxRecDepth 100000 in
set_option maxHeartbeats 4000000 in
theorem okc_La_weight (K : hK) (B : Nat × Nat) (Q : hPost) : hAllOk (hJ K M_La_weight B Q) 0 (code_La_weight K B Q) := by
  refine hAllOk.c 0 (ok_iconst (n := 0) (by decide +kernel) (by decide +kernel) rfl) ?_
  refine hAllOk.c 1 (ok_istore_n (f := 2) rfl (by decide) (by decide +kernel) rfl) ?_
  refine hAllOk.c 2 (ok_iconst (n := 0) (by decide +kernel) (by decide +kernel) rfl) ?_
  refine hAllOk.c 3 (ok_istore_n (f := 3) rfl (by decide) (by decide +kernel) rfl) ?_
  refine hAllOk.c 4 (ok_iload_n (f := 3) rfl (by decide +kernel) rfl) ?_
  refine hAllOk.c 5 (ok_aload_n (f := 0) rfl (by decide +kernel) rfl) ?_
  refine hAllOk.c 6 (ok_iconst (n := 1) (by decide +kernel) (by decide +kernel) rfl) ?_
  refine hAllOk.c 7 (ok_callV (idx := 9) ⟨wd_t_413, wd_t_1, by decide +kernel, by decide +kernel⟩ rfl rfl wd_t_410 wd_t_411 wd_t_412 (by decide +kernel) rfl) ?_
  refine hAllOk.c 8 (ok_no) ?_
  refine hAllOk.c 9 (ok_no) ?_
  refine hAllOk.c 10 (ok_icge (off := 24) (by decide +kernel) (by decide +kernel) rfl) ?_
  refine hAllOk.c 11 (ok_no) ?_
  refine hAllOk.c 12 (ok_no) ?_
  refine hAllOk.c 13 (ok_iload_n (f := 2) rfl (by decide +kernel) rfl) ?_
  refine hAllOk.c 14 (ok_iload_n (f := 1) rfl (by decide +kernel) rfl) ?_
  refine hAllOk.c 15 (ok_iload_n (f := 3) rfl (by decide +kernel) rfl) ?_
  refine hAllOk.c 16 (ok_ishr (by decide +kernel) rfl) ?_
  refine hAllOk.c 17 (ok_iconst (n := 1) (by decide +kernel) (by decide +kernel) rfl) ?_
  refine hAllOk.c 18 (ok_iand (by decide +kernel) rfl) ?_
  refine hAllOk.c 19 (ok_aload_n (f := 0) rfl (by decide +kernel) rfl) ?_
  refine hAllOk.c 20 (ok_iload_n (f := 3) rfl (by decide +kernel) rfl) ?_
  refine hAllOk.c 21 (ok_iconst (n := 1) (by decide +kernel) (by decide +kernel) rfl) ?_
  refine hAllOk.c 22 (ok_callV (idx := 15) ⟨wd_t_451, wd_t_1, by decide +kernel, by decide +kernel⟩ rfl rfl wd_t_448 wd_t_449 wd_t_450 (by decide +kernel) rfl) ?_
  refine hAllOk.c 23 (ok_no) ?_
  refine hAllOk.c 24 (ok_no) ?_
  refine hAllOk.c 25 (ok_imul (by decide +kernel) rfl) ?_
  refine hAllOk.c 26 (ok_iadd (by decide +kernel) rfl) ?_
  refine hAllOk.c 27 (ok_istore_n (f := 2) rfl (by decide) (by decide +kernel) rfl) ?_
  refine hAllOk.c 28 (ok_iinc (n := 1) (by decide +kernel) (by decide) (by decide +kernel) rfl) ?_
  refine hAllOk.c 29 (ok_no) ?_
  refine hAllOk.c 30 (ok_no) ?_
  refine hAllOk.c 31 (ok_goto (off := (-27)) (by decide +kernel) (by decide +kernel)) ?_
  refine hAllOk.c 32 (ok_no) ?_
  refine hAllOk.c 33 (ok_no) ?_
  refine hAllOk.c 34 (ok_iload_n (f := 2) rfl (by decide +kernel) rfl) ?_
  refine hAllOk.c 35 (ok_ireturn (by decide +kernel)) ?_
  trivial
theorem wd_t_390 : Cond.methodLink RL 19 yX5_company ∈ hTb := hTb_t (List.mem_of_getElem? (i := 390) (by decide +kernel)) (by decide +kernel)
theorem wd_t_393 : Cond.code yX5_company prog_1_method_21_code 2 (some .int) ∈ hTb := hTb_t (List.mem_of_getElem? (i := 393) (by decide +kernel)) (by decide +kernel)
theorem wd_t_391 : Cond.instanceMethod yX5_company ∈ hTb := hTb_t (List.mem_of_getElem? (i := 391) (by decide +kernel)) (by decide +kernel)
theorem wd_t_392 : Cond.selects RX5 yX5_company yX5_company ∈ hTb := hTb_t (List.mem_of_getElem? (i := 392) (by decide +kernel)) (by decide +kernel)
theorem wd_t_434 : Cond.methodLink RL 22 yX5_stable ∈ hTb := hTb_t (List.mem_of_getElem? (i := 434) (by decide +kernel)) (by decide +kernel)
theorem wd_t_437 : Cond.code yX5_stable prog_1_method_19_code 2 (some .int) ∈ hTb := hTb_t (List.mem_of_getElem? (i := 437) (by decide +kernel)) (by decide +kernel)
theorem wd_t_435 : Cond.instanceMethod yX5_stable ∈ hTb := hTb_t (List.mem_of_getElem? (i := 435) (by decide +kernel)) (by decide +kernel)
theorem wd_t_436 : Cond.selects RX5 yX5_stable yX5_stable ∈ hTb := hTb_t (List.mem_of_getElem? (i := 436) (by decide +kernel)) (by decide +kernel)
theorem wd_t_445 : Cond.methodLink RL 25 yL_ones ∈ hTb := hTb_t (List.mem_of_getElem? (i := 445) (by decide +kernel)) (by decide +kernel)
set_option maxRecDepth 100000 in
theorem wd_t_447 : Cond.code yL_ones method_3_code 3 (some .int) ∈ hTb := hTb_t (List.mem_of_getElem? (i := 447) rfl) (by decide +kernel)
theorem wd_t_0 : Cond.initialized RL ∈ hTb := hTb_t (List.mem_of_getElem? (i := 0) (by decide +kernel)) (by decide +kernel)
theorem wd_t_446 : Cond.static yL_ones ∈ hTb := hTb_t (List.mem_of_getElem? (i := 446) (by decide +kernel)) (by decide +kernel)
theorem wd_t_454 : Cond.methodLink RL 30 yX5_met ∈ hTb := hTb_t (List.mem_of_getElem? (i := 454) (by decide +kernel)) (by decide +kernel)
theorem wd_t_457 : Cond.code yX5_met prog_1_method_18_code 4 (some .int) ∈ hTb := hTb_t (List.mem_of_getElem? (i := 457) (by decide +kernel)) (by decide +kernel)
theorem wd_t_455 : Cond.instanceMethod yX5_met ∈ hTb := hTb_t (List.mem_of_getElem? (i := 455) (by decide +kernel)) (by decide +kernel)
theorem wd_t_456 : Cond.selects RX5 yX5_met yX5_met ∈ hTb := hTb_t (List.mem_of_getElem? (i := 456) (by decide +kernel)) (by decide +kernel)
theorem wd_t_459 : Cond.methodLink RL 33 yX5_fee ∈ hTb := hTb_t (List.mem_of_getElem? (i := 459) (by decide +kernel)) (by decide +kernel)
theorem wd_t_462 : Cond.code yX5_fee prog_1_method_20_code 2 (some .int) ∈ hTb := hTb_t (List.mem_of_getElem? (i := 462) (by decide +kernel)) (by decide +kernel)
theorem wd_t_460 : Cond.instanceMethod yX5_fee ∈ hTb := hTb_t (List.mem_of_getElem? (i := 460) (by decide +kernel)) (by decide +kernel)
theorem wd_t_461 : Cond.selects RX5 yX5_fee yX5_fee ∈ hTb := hTb_t (List.mem_of_getElem? (i := 461) (by decide +kernel)) (by decide +kernel)
theorem wd_t_464 : Cond.methodLink RL 36 yL_weight ∈ hTb := hTb_t (List.mem_of_getElem? (i := 464) (by decide +kernel)) (by decide +kernel)
set_option maxRecDepth 100000 in
theorem wd_t_466 : Cond.code yL_weight method_4_code 4 (some .int) ∈ hTb := hTb_t (List.mem_of_getElem? (i := 466) rfl) (by decide +kernel)
theorem wd_t_465 : Cond.static yL_weight ∈ hTb := hTb_t (List.mem_of_getElem? (i := 465) (by decide +kernel)) (by decide +kernel)
theorem wd_t_398 : Cond.methodLink RL 40 yX5_companies ∈ hTb := hTb_t (List.mem_of_getElem? (i := 398) (by decide +kernel)) (by decide +kernel)
theorem wd_t_401 : Cond.code yX5_companies prog_1_method_22_code 1 (some .int) ∈ hTb := hTb_t (List.mem_of_getElem? (i := 401) (by decide +kernel)) (by decide +kernel)
theorem wd_t_399 : Cond.instanceMethod yX5_companies ∈ hTb := hTb_t (List.mem_of_getElem? (i := 399) (by decide +kernel)) (by decide +kernel)
theorem wd_t_400 : Cond.selects RX5 yX5_companies yX5_companies ∈ hTb := hTb_t (List.mem_of_getElem? (i := 400) (by decide +kernel)) (by decide +kernel)
def M_La_companies : hM := (yL_companies, method_5_code, 10, (some .boolean), 9, 204)
def code_La_companies (K : hK) (B : Nat × Nat) (Q : hPost) : List hSem := [x_const 1 (0), x_istore 2 1, x_aload 3 0, x_const 4 (0), x_callV K 7 M_Pa_company 5 1, x_no, x_no, x_istore 8 2, x_aload 9 0, x_const 10 (1), x_callV K 13 M_Pa_company 5 1, x_no, x_no, x_istore 14 3, x_aload 15 0, x_const 16 (2), x_callV K 19 M_Pa_company 5 1, x_no, x_no, x_istore 21 4, x_no, x_aload 22 0, x_iload 23 2, x_callV K 26 M_Pa_stable 5 1, x_no, x_no, x_const 27 (1), x_icne 89 30, x_no, x_no, x_aload 31 0, x_iload 32 3, x_callV K 35 M_Pa_stable 5 1, x_no, x_no, x_const 36 (1), x_icne 89 39, x_no, x_no, x_iload 40 3, x_callS K 43 M_La_ones 1, x_no, x_no, x_aload 44 0, x_const 45 (5), x_callV K 48 M_Pa_count 5 1, x_no, x_no, x_icgt 89 51, x_no, x_no, x_iload 53 4, x_no, x_ifge 70 56, x_no, x_no, x_iload 58 4, x_no, x_const 60 (-5), x_no, x_icne 89 63, x_no, x_no, x_iload 64 2, x_ifne 89 67, x_no, x_no, x_goto 85, x_no, x_no, x_aload 71 0, x_iload 73 4, x_no, x_callV K 76 M_Pa_stable 5 1, x_no, x_no, x_const 77 (1), x_icne 89 80, x_no, x_no, x_iload 82 4, x_no, x_ifle 89 85, x_no, x_no, x_const 86 (1), x_goto 90, x_no, x_no, x_const 90 (0), x_istore 92 5, x_no, x_const 93 (0), x_istore 95 6, x_no, x_iload 97 6, x_no, x_const 98 (1), x_aload 99 0, x_const 100 (1), x_callV K 103 M_Pa_count 5 1, x_no, x_no, x_ishl 104, x_icge 400 107, x_no, x_no, x_iload 109 5, x_no, x_ifeq 400 112, x_no, x_no, x_aload 113 0, x_iload 115 6, x_no, x_callV K 118 M_Pa_stable 5 1, x_no, x_no, x_const 119 (1), x_icne 126 122, x_no, x_no, x_const 123 (1), x_goto 127, x_no, x_no, x_const 127 (0), x_istore 129 7, x_no, x_const 130 (1), x_istore 132 8, x_no, x_const 133 (0), x_istore 135 9, x_no, x_iload 137 9, x_no, x_aload 138 0, x_const 139 (1), x_callV K 142 M_Pa_count 5 1, x_no, x_no, x_icge 215 145, x_no, x_no, x_iload 147 8, x_no, x_ifeq 215 150, x_no, x_no, x_iload 152 6, x_no, x_iload 154 9, x_no, x_ishr 155, x_const 156 (1), x_iand 157, x_ifeq 202 160, x_no, x_no, x_aload 161 0, x_iload 163 9, x_no, x_const 164 (2), x_callV K 167 M_Pa_guest 5 2, x_no, x_no, x_const 168 (1), x_icne 206 171, x_no, x_no, x_aload 172 0, x_iload 174 9, x_no, x_iload 176 6, x_no, x_callV K 179 M_Pa_met 5 2, x_no, x_no, x_const 180 (1), x_icne 206 183, x_no, x_no, x_aload 184 0, x_iload 186 6, x_no, x_callS K 189 M_La_ones 1, x_no, x_no, x_callV K 192 M_Pa_fee 5 1, x_no, x_no, x_aload 193 0, x_iload 195 9, x_no, x_const 196 (0), x_callV K 199 M_Pa_guest 5 2, x_no, x_no, x_icgt 206 202, x_no, x_no, x_const 203 (1), x_goto 207, x_no, x_no, x_const 207 (0), x_istore 209 8, x_no, x_iinc 212 9 (1), x_no, x_no, x_goto 135, x_no, x_no, x_iload 216 1, x_iload 218 7, x_no, x_ifeq 225 221, x_no, x_no, x_const 222 (1), x_goto 226, x_no, x_no, x_const 226 (0), x_iadd 227, x_istore 228 1, x_iload 230 7, x_no, x_iload 232 8, x_no, x_icne 291 235, x_no, x_no, x_iload 237 7, x_no, x_ifeq 287 240, x_no, x_no, x_iload 242 6, x_no, x_iload 243 2, x_const 244 (-1), x_ixor 245, x_iand 246, x_ifne 291 249, x_no, x_no, x_iload 251 6, x_no, x_ifeq 287 254, x_no, x_no, x_iload 256 6, x_no, x_callS K 259 M_La_ones 1, x_no, x_no, x_iload 261 4, x_no, x_callS K 264 M_La_ones 1, x_no, x_no, x_icgt 287 267, x_no, x_no, x_iload 269 6, x_no, x_callS K 272 M_La_ones 1, x_no, x_no, x_iload 274 4, x_no, x_callS K 277 M_La_ones 1, x_no, x_no, x_icne 291 280, x_no, x_no, x_iload 282 6, x_no, x_iload 284 4, x_no, x_iclt 291 287, x_no, x_no, x_const 288 (1), x_goto 292, x_no, x_no, x_const 292 (0), x_istore 294 5, x_no, x_iload 296 7, x_no, x_ifeq 316 299, x_no, x_no, x_iload 301 6, x_no, x_callS K 304 M_La_ones 1, x_no, x_no, x_aload 305 0, x_const 306 (5), x_callV K 309 M_Pa_count 5 1, x_no, x_no, x_icgt 316 312, x_no, x_no, x_const 313 (1), x_goto 317, x_no, x_no, x_const 317 (0), x_istore 319 9, x_no, x_iload 321 5, x_no, x_ifeq 391 324, x_no, x_no, x_iload 326 9, x_no, x_ifeq 387 329, x_no, x_no, x_iload 331 6, x_no, x_callS K 334 M_La_ones 1, x_no, x_no, x_iload 335 3, x_callS K 338 M_La_ones 1, x_no, x_no, x_iclt 387 341, x_no, x_no, x_iload 343 6, x_no, x_callS K 346 M_La_ones 1, x_no, x_no, x_iload 347 3, x_callS K 350 M_La_ones 1, x_no, x_no, x_icne 391 353, x_no, x_no, x_aload 354 0, x_iload 356 6, x_no, x_callS K 359 M_La_weight 2, x_no, x_no, x_aload 360 0, x_iload 361 3, x_callS K 364 M_La_weight 2, x_no, x_no, x_iclt 387 367, x_no, x_no, x_aload 368 0, x_iload 370 6, x_no, x_callS K 373 M_La_weight 2, x_no, x_no, x_aload 374 0, x_iload 375 3, x_callS K 378 M_La_weight 2, x_no, x_no, x_icne 391 381, x_no, x_no, x_iload 383 6, x_no, x_iload 384 3, x_iclt 391 387, x_no, x_no, x_const 388 (1), x_goto 392, x_no, x_no, x_const 392 (0), x_istore 394 5, x_no, x_iinc 397 6 (1), x_no, x_no, x_goto 95, x_no, x_no, x_iload 402 5, x_no, x_ifeq 417 405, x_no, x_no, x_iload 406 1, x_aload 407 0, x_callV K 410 M_Pa_companies 5 0, x_no, x_no, x_icne 417 413, x_no, x_no, x_const 414 (1), x_goto 418, x_no, x_no, x_const 418 (0), x_ireturn (some .boolean) Q]
set_option maxRecDepth 100000 in
set_option maxHeartbeats 4000000 in
theorem okc_La_companies (K : hK) (B : Nat × Nat) (Q : hPost) : hAllOk (hJ K M_La_companies B Q) 0 (code_La_companies K B Q) := by
  refine hAllOk.c 0 (ok_iconst (n := 0) (by decide +kernel) (by decide +kernel) rfl) ?_
  refine hAllOk.c 1 (ok_istore_n (f := 1) rfl (by decide) (by decide +kernel) rfl) ?_
  refine hAllOk.c 2 (ok_aload_n (f := 0) rfl (by decide +kernel) rfl) ?_
  refine hAllOk.c 3 (ok_iconst (n := 0) (by decide +kernel) (by decide +kernel) rfl) ?_
  refine hAllOk.c 4 (ok_callV (idx := 19) ⟨wd_t_393, wd_t_1, by decide +kernel, by decide +kernel⟩ rfl rfl wd_t_390 wd_t_391 wd_t_392 (by decide +kernel) rfl) ?_
  refine hAllOk.c 5 (ok_no) ?_
  refine hAllOk.c 6 (ok_no) ?_
  refine hAllOk.c 7 (ok_istore_n (f := 2) rfl (by decide) (by decide +kernel) rfl) ?_
  refine hAllOk.c 8 (ok_aload_n (f := 0) rfl (by decide +kernel) rfl) ?_
  refine hAllOk.c 9 (ok_iconst (n := 1) (by decide +kernel) (by decide +kernel) rfl) ?_
  refine hAllOk.c 10 (ok_callV (idx := 19) ⟨wd_t_393, wd_t_1, by decide +kernel, by decide +kernel⟩ rfl rfl wd_t_390 wd_t_391 wd_t_392 (by decide +kernel) rfl) ?_
  refine hAllOk.c 11 (ok_no) ?_
  refine hAllOk.c 12 (ok_no) ?_
  refine hAllOk.c 13 (ok_istore_n (f := 3) rfl (by decide) (by decide +kernel) rfl) ?_
  refine hAllOk.c 14 (ok_aload_n (f := 0) rfl (by decide +kernel) rfl) ?_
  refine hAllOk.c 15 (ok_iconst (n := 2) (by decide +kernel) (by decide +kernel) rfl) ?_
  refine hAllOk.c 16 (ok_callV (idx := 19) ⟨wd_t_393, wd_t_1, by decide +kernel, by decide +kernel⟩ rfl rfl wd_t_390 wd_t_391 wd_t_392 (by decide +kernel) rfl) ?_
  refine hAllOk.c 17 (ok_no) ?_
  refine hAllOk.c 18 (ok_no) ?_
  refine hAllOk.c 19 (ok_istore (by decide) (by decide +kernel) rfl) ?_
  refine hAllOk.c 20 (ok_no) ?_
  refine hAllOk.c 21 (ok_aload_n (f := 0) rfl (by decide +kernel) rfl) ?_
  refine hAllOk.c 22 (ok_iload_n (f := 2) rfl (by decide +kernel) rfl) ?_
  refine hAllOk.c 23 (ok_callV (idx := 22) ⟨wd_t_437, wd_t_1, by decide +kernel, by decide +kernel⟩ rfl rfl wd_t_434 wd_t_435 wd_t_436 (by decide +kernel) rfl) ?_
  refine hAllOk.c 24 (ok_no) ?_
  refine hAllOk.c 25 (ok_no) ?_
  refine hAllOk.c 26 (ok_iconst (n := 1) (by decide +kernel) (by decide +kernel) rfl) ?_
  refine hAllOk.c 27 (ok_icne (off := 62) (by decide +kernel) (by decide +kernel) rfl) ?_
  refine hAllOk.c 28 (ok_no) ?_
  refine hAllOk.c 29 (ok_no) ?_
  refine hAllOk.c 30 (ok_aload_n (f := 0) rfl (by decide +kernel) rfl) ?_
  refine hAllOk.c 31 (ok_iload_n (f := 3) rfl (by decide +kernel) rfl) ?_
  refine hAllOk.c 32 (ok_callV (idx := 22) ⟨wd_t_437, wd_t_1, by decide +kernel, by decide +kernel⟩ rfl rfl wd_t_434 wd_t_435 wd_t_436 (by decide +kernel) rfl) ?_
  refine hAllOk.c 33 (ok_no) ?_
  refine hAllOk.c 34 (ok_no) ?_
  refine hAllOk.c 35 (ok_iconst (n := 1) (by decide +kernel) (by decide +kernel) rfl) ?_
  refine hAllOk.c 36 (ok_icne (off := 53) (by decide +kernel) (by decide +kernel) rfl) ?_
  refine hAllOk.c 37 (ok_no) ?_
  refine hAllOk.c 38 (ok_no) ?_
  refine hAllOk.c 39 (ok_iload_n (f := 3) rfl (by decide +kernel) rfl) ?_
  refine hAllOk.c 40 (ok_callS (idx := 25) ⟨wd_t_447, wd_t_0, by decide +kernel, by decide +kernel⟩ wd_t_445 wd_t_446 (by decide +kernel) rfl) ?_
  refine hAllOk.c 41 (ok_no) ?_
  refine hAllOk.c 42 (ok_no) ?_
  refine hAllOk.c 43 (ok_aload_n (f := 0) rfl (by decide +kernel) rfl) ?_
  refine hAllOk.c 44 (ok_iconst (n := 5) (by decide +kernel) (by decide +kernel) rfl) ?_
  refine hAllOk.c 45 (ok_callV (idx := 9) ⟨wd_t_413, wd_t_1, by decide +kernel, by decide +kernel⟩ rfl rfl wd_t_410 wd_t_411 wd_t_412 (by decide +kernel) rfl) ?_
  refine hAllOk.c 46 (ok_no) ?_
  refine hAllOk.c 47 (ok_no) ?_
  refine hAllOk.c 48 (ok_icgt (off := 41) (by decide +kernel) (by decide +kernel) rfl) ?_
  refine hAllOk.c 49 (ok_no) ?_
  refine hAllOk.c 50 (ok_no) ?_
  refine hAllOk.c 51 (ok_iload (by decide +kernel) rfl) ?_
  refine hAllOk.c 52 (ok_no) ?_
  refine hAllOk.c 53 (ok_ifge (off := 17) (by decide +kernel) (by decide +kernel) rfl) ?_
  refine hAllOk.c 54 (ok_no) ?_
  refine hAllOk.c 55 (ok_no) ?_
  refine hAllOk.c 56 (ok_iload (by decide +kernel) rfl) ?_
  refine hAllOk.c 57 (ok_no) ?_
  refine hAllOk.c 58 (ok_bipush (n := -5) (by decide +kernel) (by decide +kernel) rfl) ?_
  refine hAllOk.c 59 (ok_no) ?_
  refine hAllOk.c 60 (ok_icne (off := 29) (by decide +kernel) (by decide +kernel) rfl) ?_
  refine hAllOk.c 61 (ok_no) ?_
  refine hAllOk.c 62 (ok_no) ?_
  refine hAllOk.c 63 (ok_iload_n (f := 2) rfl (by decide +kernel) rfl) ?_
  refine hAllOk.c 64 (ok_ifne (off := 25) (by decide +kernel) (by decide +kernel) rfl) ?_
  refine hAllOk.c 65 (ok_no) ?_
  refine hAllOk.c 66 (ok_no) ?_
  refine hAllOk.c 67 (ok_goto (off := 18) (by decide +kernel) (by decide +kernel)) ?_
  refine hAllOk.c 68 (ok_no) ?_
  refine hAllOk.c 69 (ok_no) ?_
  refine hAllOk.c 70 (ok_aload_n (f := 0) rfl (by decide +kernel) rfl) ?_
  refine hAllOk.c 71 (ok_iload (by decide +kernel) rfl) ?_
  refine hAllOk.c 72 (ok_no) ?_
  refine hAllOk.c 73 (ok_callV (idx := 22) ⟨wd_t_437, wd_t_1, by decide +kernel, by decide +kernel⟩ rfl rfl wd_t_434 wd_t_435 wd_t_436 (by decide +kernel) rfl) ?_
  refine hAllOk.c 74 (ok_no) ?_
  refine hAllOk.c 75 (ok_no) ?_
  refine hAllOk.c 76 (ok_iconst (n := 1) (by decide +kernel) (by decide +kernel) rfl) ?_
  refine hAllOk.c 77 (ok_icne (off := 12) (by decide +kernel) (by decide +kernel) rfl) ?_
  refine hAllOk.c 78 (ok_no) ?_
  refine hAllOk.c 79 (ok_no) ?_
  refine hAllOk.c 80 (ok_iload (by decide +kernel) rfl) ?_
  refine hAllOk.c 81 (ok_no) ?_
  refine hAllOk.c 82 (ok_ifle (off := 7) (by decide +kernel) (by decide +kernel) rfl) ?_
  refine hAllOk.c 83 (ok_no) ?_
  refine hAllOk.c 84 (ok_no) ?_
  refine hAllOk.c 85 (ok_iconst (n := 1) (by decide +kernel) (by decide +kernel) rfl) ?_
  refine hAllOk.c 86 (ok_goto (off := 4) (by decide +kernel) (by decide +kernel)) ?_
  refine hAllOk.c 87 (ok_no) ?_
  refine hAllOk.c 88 (ok_no) ?_
  refine hAllOk.c 89 (ok_iconst (n := 0) (by decide +kernel) (by decide +kernel) rfl) ?_
  refine hAllOk.c 90 (ok_istore (by decide) (by decide +kernel) rfl) ?_
  refine hAllOk.c 91 (ok_no) ?_
  refine hAllOk.c 92 (ok_iconst (n := 0) (by decide +kernel) (by decide +kernel) rfl) ?_
  refine hAllOk.c 93 (ok_istore (by decide) (by decide +kernel) rfl) ?_
  refine hAllOk.c 94 (ok_no) ?_
  refine hAllOk.c 95 (ok_iload (by decide +kernel) rfl) ?_
  refine hAllOk.c 96 (ok_no) ?_
  refine hAllOk.c 97 (ok_iconst (n := 1) (by decide +kernel) (by decide +kernel) rfl) ?_
  refine hAllOk.c 98 (ok_aload_n (f := 0) rfl (by decide +kernel) rfl) ?_
  refine hAllOk.c 99 (ok_iconst (n := 1) (by decide +kernel) (by decide +kernel) rfl) ?_
  refine hAllOk.c 100 (ok_callV (idx := 9) ⟨wd_t_413, wd_t_1, by decide +kernel, by decide +kernel⟩ rfl rfl wd_t_410 wd_t_411 wd_t_412 (by decide +kernel) rfl) ?_
  refine hAllOk.c 101 (ok_no) ?_
  refine hAllOk.c 102 (ok_no) ?_
  refine hAllOk.c 103 (ok_ishl (by decide +kernel) rfl) ?_
  refine hAllOk.c 104 (ok_icge (off := 296) (by decide +kernel) (by decide +kernel) rfl) ?_
  refine hAllOk.c 105 (ok_no) ?_
  refine hAllOk.c 106 (ok_no) ?_
  refine hAllOk.c 107 (ok_iload (by decide +kernel) rfl) ?_
  refine hAllOk.c 108 (ok_no) ?_
  refine hAllOk.c 109 (ok_ifeq (off := 291) (by decide +kernel) (by decide +kernel) rfl) ?_
  refine hAllOk.c 110 (ok_no) ?_
  refine hAllOk.c 111 (ok_no) ?_
  refine hAllOk.c 112 (ok_aload_n (f := 0) rfl (by decide +kernel) rfl) ?_
  refine hAllOk.c 113 (ok_iload (by decide +kernel) rfl) ?_
  refine hAllOk.c 114 (ok_no) ?_
  refine hAllOk.c 115 (ok_callV (idx := 22) ⟨wd_t_437, wd_t_1, by decide +kernel, by decide +kernel⟩ rfl rfl wd_t_434 wd_t_435 wd_t_436 (by decide +kernel) rfl) ?_
  refine hAllOk.c 116 (ok_no) ?_
  refine hAllOk.c 117 (ok_no) ?_
  refine hAllOk.c 118 (ok_iconst (n := 1) (by decide +kernel) (by decide +kernel) rfl) ?_
  refine hAllOk.c 119 (ok_icne (off := 7) (by decide +kernel) (by decide +kernel) rfl) ?_
  refine hAllOk.c 120 (ok_no) ?_
  refine hAllOk.c 121 (ok_no) ?_
  refine hAllOk.c 122 (ok_iconst (n := 1) (by decide +kernel) (by decide +kernel) rfl) ?_
  refine hAllOk.c 123 (ok_goto (off := 4) (by decide +kernel) (by decide +kernel)) ?_
  refine hAllOk.c 124 (ok_no) ?_
  refine hAllOk.c 125 (ok_no) ?_
  refine hAllOk.c 126 (ok_iconst (n := 0) (by decide +kernel) (by decide +kernel) rfl) ?_
  refine hAllOk.c 127 (ok_istore (by decide) (by decide +kernel) rfl) ?_
  refine hAllOk.c 128 (ok_no) ?_
  refine hAllOk.c 129 (ok_iconst (n := 1) (by decide +kernel) (by decide +kernel) rfl) ?_
  refine hAllOk.c 130 (ok_istore (by decide) (by decide +kernel) rfl) ?_
  refine hAllOk.c 131 (ok_no) ?_
  refine hAllOk.c 132 (ok_iconst (n := 0) (by decide +kernel) (by decide +kernel) rfl) ?_
  refine hAllOk.c 133 (ok_istore (by decide) (by decide +kernel) rfl) ?_
  refine hAllOk.c 134 (ok_no) ?_
  refine hAllOk.c 135 (ok_iload (by decide +kernel) rfl) ?_
  refine hAllOk.c 136 (ok_no) ?_
  refine hAllOk.c 137 (ok_aload_n (f := 0) rfl (by decide +kernel) rfl) ?_
  refine hAllOk.c 138 (ok_iconst (n := 1) (by decide +kernel) (by decide +kernel) rfl) ?_
  refine hAllOk.c 139 (ok_callV (idx := 9) ⟨wd_t_413, wd_t_1, by decide +kernel, by decide +kernel⟩ rfl rfl wd_t_410 wd_t_411 wd_t_412 (by decide +kernel) rfl) ?_
  refine hAllOk.c 140 (ok_no) ?_
  refine hAllOk.c 141 (ok_no) ?_
  refine hAllOk.c 142 (ok_icge (off := 73) (by decide +kernel) (by decide +kernel) rfl) ?_
  refine hAllOk.c 143 (ok_no) ?_
  refine hAllOk.c 144 (ok_no) ?_
  refine hAllOk.c 145 (ok_iload (by decide +kernel) rfl) ?_
  refine hAllOk.c 146 (ok_no) ?_
  refine hAllOk.c 147 (ok_ifeq (off := 68) (by decide +kernel) (by decide +kernel) rfl) ?_
  refine hAllOk.c 148 (ok_no) ?_
  refine hAllOk.c 149 (ok_no) ?_
  refine hAllOk.c 150 (ok_iload (by decide +kernel) rfl) ?_
  refine hAllOk.c 151 (ok_no) ?_
  refine hAllOk.c 152 (ok_iload (by decide +kernel) rfl) ?_
  refine hAllOk.c 153 (ok_no) ?_
  refine hAllOk.c 154 (ok_ishr (by decide +kernel) rfl) ?_
  refine hAllOk.c 155 (ok_iconst (n := 1) (by decide +kernel) (by decide +kernel) rfl) ?_
  refine hAllOk.c 156 (ok_iand (by decide +kernel) rfl) ?_
  refine hAllOk.c 157 (ok_ifeq (off := 45) (by decide +kernel) (by decide +kernel) rfl) ?_
  refine hAllOk.c 158 (ok_no) ?_
  refine hAllOk.c 159 (ok_no) ?_
  refine hAllOk.c 160 (ok_aload_n (f := 0) rfl (by decide +kernel) rfl) ?_
  refine hAllOk.c 161 (ok_iload (by decide +kernel) rfl) ?_
  refine hAllOk.c 162 (ok_no) ?_
  refine hAllOk.c 163 (ok_iconst (n := 2) (by decide +kernel) (by decide +kernel) rfl) ?_
  refine hAllOk.c 164 (ok_callV (idx := 15) ⟨wd_t_451, wd_t_1, by decide +kernel, by decide +kernel⟩ rfl rfl wd_t_448 wd_t_449 wd_t_450 (by decide +kernel) rfl) ?_
  refine hAllOk.c 165 (ok_no) ?_
  refine hAllOk.c 166 (ok_no) ?_
  refine hAllOk.c 167 (ok_iconst (n := 1) (by decide +kernel) (by decide +kernel) rfl) ?_
  refine hAllOk.c 168 (ok_icne (off := 38) (by decide +kernel) (by decide +kernel) rfl) ?_
  refine hAllOk.c 169 (ok_no) ?_
  refine hAllOk.c 170 (ok_no) ?_
  refine hAllOk.c 171 (ok_aload_n (f := 0) rfl (by decide +kernel) rfl) ?_
  refine hAllOk.c 172 (ok_iload (by decide +kernel) rfl) ?_
  refine hAllOk.c 173 (ok_no) ?_
  refine hAllOk.c 174 (ok_iload (by decide +kernel) rfl) ?_
  refine hAllOk.c 175 (ok_no) ?_
  refine hAllOk.c 176 (ok_callV (idx := 30) ⟨wd_t_457, wd_t_1, by decide +kernel, by decide +kernel⟩ rfl rfl wd_t_454 wd_t_455 wd_t_456 (by decide +kernel) rfl) ?_
  refine hAllOk.c 177 (ok_no) ?_
  refine hAllOk.c 178 (ok_no) ?_
  refine hAllOk.c 179 (ok_iconst (n := 1) (by decide +kernel) (by decide +kernel) rfl) ?_
  refine hAllOk.c 180 (ok_icne (off := 26) (by decide +kernel) (by decide +kernel) rfl) ?_
  refine hAllOk.c 181 (ok_no) ?_
  refine hAllOk.c 182 (ok_no) ?_
  refine hAllOk.c 183 (ok_aload_n (f := 0) rfl (by decide +kernel) rfl) ?_
  refine hAllOk.c 184 (ok_iload (by decide +kernel) rfl) ?_
  refine hAllOk.c 185 (ok_no) ?_
  refine hAllOk.c 186 (ok_callS (idx := 25) ⟨wd_t_447, wd_t_0, by decide +kernel, by decide +kernel⟩ wd_t_445 wd_t_446 (by decide +kernel) rfl) ?_
  refine hAllOk.c 187 (ok_no) ?_
  refine hAllOk.c 188 (ok_no) ?_
  refine hAllOk.c 189 (ok_callV (idx := 33) ⟨wd_t_462, wd_t_1, by decide +kernel, by decide +kernel⟩ rfl rfl wd_t_459 wd_t_460 wd_t_461 (by decide +kernel) rfl) ?_
  refine hAllOk.c 190 (ok_no) ?_
  refine hAllOk.c 191 (ok_no) ?_
  refine hAllOk.c 192 (ok_aload_n (f := 0) rfl (by decide +kernel) rfl) ?_
  refine hAllOk.c 193 (ok_iload (by decide +kernel) rfl) ?_
  refine hAllOk.c 194 (ok_no) ?_
  refine hAllOk.c 195 (ok_iconst (n := 0) (by decide +kernel) (by decide +kernel) rfl) ?_
  refine hAllOk.c 196 (ok_callV (idx := 15) ⟨wd_t_451, wd_t_1, by decide +kernel, by decide +kernel⟩ rfl rfl wd_t_448 wd_t_449 wd_t_450 (by decide +kernel) rfl) ?_
  refine hAllOk.c 197 (ok_no) ?_
  refine hAllOk.c 198 (ok_no) ?_
  refine hAllOk.c 199 (ok_icgt (off := 7) (by decide +kernel) (by decide +kernel) rfl) ?_
  refine hAllOk.c 200 (ok_no) ?_
  refine hAllOk.c 201 (ok_no) ?_
  refine hAllOk.c 202 (ok_iconst (n := 1) (by decide +kernel) (by decide +kernel) rfl) ?_
  refine hAllOk.c 203 (ok_goto (off := 4) (by decide +kernel) (by decide +kernel)) ?_
  refine hAllOk.c 204 (ok_no) ?_
  refine hAllOk.c 205 (ok_no) ?_
  refine hAllOk.c 206 (ok_iconst (n := 0) (by decide +kernel) (by decide +kernel) rfl) ?_
  refine hAllOk.c 207 (ok_istore (by decide) (by decide +kernel) rfl) ?_
  refine hAllOk.c 208 (ok_no) ?_
  refine hAllOk.c 209 (ok_iinc (n := 1) (by decide +kernel) (by decide) (by decide +kernel) rfl) ?_
  refine hAllOk.c 210 (ok_no) ?_
  refine hAllOk.c 211 (ok_no) ?_
  refine hAllOk.c 212 (ok_goto (off := (-77)) (by decide +kernel) (by decide +kernel)) ?_
  refine hAllOk.c 213 (ok_no) ?_
  refine hAllOk.c 214 (ok_no) ?_
  refine hAllOk.c 215 (ok_iload_n (f := 1) rfl (by decide +kernel) rfl) ?_
  refine hAllOk.c 216 (ok_iload (by decide +kernel) rfl) ?_
  refine hAllOk.c 217 (ok_no) ?_
  refine hAllOk.c 218 (ok_ifeq (off := 7) (by decide +kernel) (by decide +kernel) rfl) ?_
  refine hAllOk.c 219 (ok_no) ?_
  refine hAllOk.c 220 (ok_no) ?_
  refine hAllOk.c 221 (ok_iconst (n := 1) (by decide +kernel) (by decide +kernel) rfl) ?_
  refine hAllOk.c 222 (ok_goto (off := 4) (by decide +kernel) (by decide +kernel)) ?_
  refine hAllOk.c 223 (ok_no) ?_
  refine hAllOk.c 224 (ok_no) ?_
  refine hAllOk.c 225 (ok_iconst (n := 0) (by decide +kernel) (by decide +kernel) rfl) ?_
  refine hAllOk.c 226 (ok_iadd (by decide +kernel) rfl) ?_
  refine hAllOk.c 227 (ok_istore_n (f := 1) rfl (by decide) (by decide +kernel) rfl) ?_
  refine hAllOk.c 228 (ok_iload (by decide +kernel) rfl) ?_
  refine hAllOk.c 229 (ok_no) ?_
  refine hAllOk.c 230 (ok_iload (by decide +kernel) rfl) ?_
  refine hAllOk.c 231 (ok_no) ?_
  refine hAllOk.c 232 (ok_icne (off := 59) (by decide +kernel) (by decide +kernel) rfl) ?_
  refine hAllOk.c 233 (ok_no) ?_
  refine hAllOk.c 234 (ok_no) ?_
  refine hAllOk.c 235 (ok_iload (by decide +kernel) rfl) ?_
  refine hAllOk.c 236 (ok_no) ?_
  refine hAllOk.c 237 (ok_ifeq (off := 50) (by decide +kernel) (by decide +kernel) rfl) ?_
  refine hAllOk.c 238 (ok_no) ?_
  refine hAllOk.c 239 (ok_no) ?_
  refine hAllOk.c 240 (ok_iload (by decide +kernel) rfl) ?_
  refine hAllOk.c 241 (ok_no) ?_
  refine hAllOk.c 242 (ok_iload_n (f := 2) rfl (by decide +kernel) rfl) ?_
  refine hAllOk.c 243 (ok_iconst (n := -1) (by decide +kernel) (by decide +kernel) rfl) ?_
  refine hAllOk.c 244 (ok_ixor (by decide +kernel) rfl) ?_
  refine hAllOk.c 245 (ok_iand (by decide +kernel) rfl) ?_
  refine hAllOk.c 246 (ok_ifne (off := 45) (by decide +kernel) (by decide +kernel) rfl) ?_
  refine hAllOk.c 247 (ok_no) ?_
  refine hAllOk.c 248 (ok_no) ?_
  refine hAllOk.c 249 (ok_iload (by decide +kernel) rfl) ?_
  refine hAllOk.c 250 (ok_no) ?_
  refine hAllOk.c 251 (ok_ifeq (off := 36) (by decide +kernel) (by decide +kernel) rfl) ?_
  refine hAllOk.c 252 (ok_no) ?_
  refine hAllOk.c 253 (ok_no) ?_
  refine hAllOk.c 254 (ok_iload (by decide +kernel) rfl) ?_
  refine hAllOk.c 255 (ok_no) ?_
  refine hAllOk.c 256 (ok_callS (idx := 25) ⟨wd_t_447, wd_t_0, by decide +kernel, by decide +kernel⟩ wd_t_445 wd_t_446 (by decide +kernel) rfl) ?_
  refine hAllOk.c 257 (ok_no) ?_
  refine hAllOk.c 258 (ok_no) ?_
  refine hAllOk.c 259 (ok_iload (by decide +kernel) rfl) ?_
  refine hAllOk.c 260 (ok_no) ?_
  refine hAllOk.c 261 (ok_callS (idx := 25) ⟨wd_t_447, wd_t_0, by decide +kernel, by decide +kernel⟩ wd_t_445 wd_t_446 (by decide +kernel) rfl) ?_
  refine hAllOk.c 262 (ok_no) ?_
  refine hAllOk.c 263 (ok_no) ?_
  refine hAllOk.c 264 (ok_icgt (off := 23) (by decide +kernel) (by decide +kernel) rfl) ?_
  refine hAllOk.c 265 (ok_no) ?_
  refine hAllOk.c 266 (ok_no) ?_
  refine hAllOk.c 267 (ok_iload (by decide +kernel) rfl) ?_
  refine hAllOk.c 268 (ok_no) ?_
  refine hAllOk.c 269 (ok_callS (idx := 25) ⟨wd_t_447, wd_t_0, by decide +kernel, by decide +kernel⟩ wd_t_445 wd_t_446 (by decide +kernel) rfl) ?_
  refine hAllOk.c 270 (ok_no) ?_
  refine hAllOk.c 271 (ok_no) ?_
  refine hAllOk.c 272 (ok_iload (by decide +kernel) rfl) ?_
  refine hAllOk.c 273 (ok_no) ?_
  refine hAllOk.c 274 (ok_callS (idx := 25) ⟨wd_t_447, wd_t_0, by decide +kernel, by decide +kernel⟩ wd_t_445 wd_t_446 (by decide +kernel) rfl) ?_
  refine hAllOk.c 275 (ok_no) ?_
  refine hAllOk.c 276 (ok_no) ?_
  refine hAllOk.c 277 (ok_icne (off := 14) (by decide +kernel) (by decide +kernel) rfl) ?_
  refine hAllOk.c 278 (ok_no) ?_
  refine hAllOk.c 279 (ok_no) ?_
  refine hAllOk.c 280 (ok_iload (by decide +kernel) rfl) ?_
  refine hAllOk.c 281 (ok_no) ?_
  refine hAllOk.c 282 (ok_iload (by decide +kernel) rfl) ?_
  refine hAllOk.c 283 (ok_no) ?_
  refine hAllOk.c 284 (ok_iclt (off := 7) (by decide +kernel) (by decide +kernel) rfl) ?_
  refine hAllOk.c 285 (ok_no) ?_
  refine hAllOk.c 286 (ok_no) ?_
  refine hAllOk.c 287 (ok_iconst (n := 1) (by decide +kernel) (by decide +kernel) rfl) ?_
  refine hAllOk.c 288 (ok_goto (off := 4) (by decide +kernel) (by decide +kernel)) ?_
  refine hAllOk.c 289 (ok_no) ?_
  refine hAllOk.c 290 (ok_no) ?_
  refine hAllOk.c 291 (ok_iconst (n := 0) (by decide +kernel) (by decide +kernel) rfl) ?_
  refine hAllOk.c 292 (ok_istore (by decide) (by decide +kernel) rfl) ?_
  refine hAllOk.c 293 (ok_no) ?_
  refine hAllOk.c 294 (ok_iload (by decide +kernel) rfl) ?_
  refine hAllOk.c 295 (ok_no) ?_
  refine hAllOk.c 296 (ok_ifeq (off := 20) (by decide +kernel) (by decide +kernel) rfl) ?_
  refine hAllOk.c 297 (ok_no) ?_
  refine hAllOk.c 298 (ok_no) ?_
  refine hAllOk.c 299 (ok_iload (by decide +kernel) rfl) ?_
  refine hAllOk.c 300 (ok_no) ?_
  refine hAllOk.c 301 (ok_callS (idx := 25) ⟨wd_t_447, wd_t_0, by decide +kernel, by decide +kernel⟩ wd_t_445 wd_t_446 (by decide +kernel) rfl) ?_
  refine hAllOk.c 302 (ok_no) ?_
  refine hAllOk.c 303 (ok_no) ?_
  refine hAllOk.c 304 (ok_aload_n (f := 0) rfl (by decide +kernel) rfl) ?_
  refine hAllOk.c 305 (ok_iconst (n := 5) (by decide +kernel) (by decide +kernel) rfl) ?_
  refine hAllOk.c 306 (ok_callV (idx := 9) ⟨wd_t_413, wd_t_1, by decide +kernel, by decide +kernel⟩ rfl rfl wd_t_410 wd_t_411 wd_t_412 (by decide +kernel) rfl) ?_
  refine hAllOk.c 307 (ok_no) ?_
  refine hAllOk.c 308 (ok_no) ?_
  refine hAllOk.c 309 (ok_icgt (off := 7) (by decide +kernel) (by decide +kernel) rfl) ?_
  refine hAllOk.c 310 (ok_no) ?_
  refine hAllOk.c 311 (ok_no) ?_
  refine hAllOk.c 312 (ok_iconst (n := 1) (by decide +kernel) (by decide +kernel) rfl) ?_
  refine hAllOk.c 313 (ok_goto (off := 4) (by decide +kernel) (by decide +kernel)) ?_
  refine hAllOk.c 314 (ok_no) ?_
  refine hAllOk.c 315 (ok_no) ?_
  refine hAllOk.c 316 (ok_iconst (n := 0) (by decide +kernel) (by decide +kernel) rfl) ?_
  refine hAllOk.c 317 (ok_istore (by decide) (by decide +kernel) rfl) ?_
  refine hAllOk.c 318 (ok_no) ?_
  refine hAllOk.c 319 (ok_iload (by decide +kernel) rfl) ?_
  refine hAllOk.c 320 (ok_no) ?_
  refine hAllOk.c 321 (ok_ifeq (off := 70) (by decide +kernel) (by decide +kernel) rfl) ?_
  refine hAllOk.c 322 (ok_no) ?_
  refine hAllOk.c 323 (ok_no) ?_
  refine hAllOk.c 324 (ok_iload (by decide +kernel) rfl) ?_
  refine hAllOk.c 325 (ok_no) ?_
  refine hAllOk.c 326 (ok_ifeq (off := 61) (by decide +kernel) (by decide +kernel) rfl) ?_
  refine hAllOk.c 327 (ok_no) ?_
  refine hAllOk.c 328 (ok_no) ?_
  refine hAllOk.c 329 (ok_iload (by decide +kernel) rfl) ?_
  refine hAllOk.c 330 (ok_no) ?_
  refine hAllOk.c 331 (ok_callS (idx := 25) ⟨wd_t_447, wd_t_0, by decide +kernel, by decide +kernel⟩ wd_t_445 wd_t_446 (by decide +kernel) rfl) ?_
  refine hAllOk.c 332 (ok_no) ?_
  refine hAllOk.c 333 (ok_no) ?_
  refine hAllOk.c 334 (ok_iload_n (f := 3) rfl (by decide +kernel) rfl) ?_
  refine hAllOk.c 335 (ok_callS (idx := 25) ⟨wd_t_447, wd_t_0, by decide +kernel, by decide +kernel⟩ wd_t_445 wd_t_446 (by decide +kernel) rfl) ?_
  refine hAllOk.c 336 (ok_no) ?_
  refine hAllOk.c 337 (ok_no) ?_
  refine hAllOk.c 338 (ok_iclt (off := 49) (by decide +kernel) (by decide +kernel) rfl) ?_
  refine hAllOk.c 339 (ok_no) ?_
  refine hAllOk.c 340 (ok_no) ?_
  refine hAllOk.c 341 (ok_iload (by decide +kernel) rfl) ?_
  refine hAllOk.c 342 (ok_no) ?_
  refine hAllOk.c 343 (ok_callS (idx := 25) ⟨wd_t_447, wd_t_0, by decide +kernel, by decide +kernel⟩ wd_t_445 wd_t_446 (by decide +kernel) rfl) ?_
  refine hAllOk.c 344 (ok_no) ?_
  refine hAllOk.c 345 (ok_no) ?_
  refine hAllOk.c 346 (ok_iload_n (f := 3) rfl (by decide +kernel) rfl) ?_
  refine hAllOk.c 347 (ok_callS (idx := 25) ⟨wd_t_447, wd_t_0, by decide +kernel, by decide +kernel⟩ wd_t_445 wd_t_446 (by decide +kernel) rfl) ?_
  refine hAllOk.c 348 (ok_no) ?_
  refine hAllOk.c 349 (ok_no) ?_
  refine hAllOk.c 350 (ok_icne (off := 41) (by decide +kernel) (by decide +kernel) rfl) ?_
  refine hAllOk.c 351 (ok_no) ?_
  refine hAllOk.c 352 (ok_no) ?_
  refine hAllOk.c 353 (ok_aload_n (f := 0) rfl (by decide +kernel) rfl) ?_
  refine hAllOk.c 354 (ok_iload (by decide +kernel) rfl) ?_
  refine hAllOk.c 355 (ok_no) ?_
  refine hAllOk.c 356 (ok_callS (idx := 36) ⟨wd_t_466, wd_t_0, by decide +kernel, by decide +kernel⟩ wd_t_464 wd_t_465 (by decide +kernel) rfl) ?_
  refine hAllOk.c 357 (ok_no) ?_
  refine hAllOk.c 358 (ok_no) ?_
  refine hAllOk.c 359 (ok_aload_n (f := 0) rfl (by decide +kernel) rfl) ?_
  refine hAllOk.c 360 (ok_iload_n (f := 3) rfl (by decide +kernel) rfl) ?_
  refine hAllOk.c 361 (ok_callS (idx := 36) ⟨wd_t_466, wd_t_0, by decide +kernel, by decide +kernel⟩ wd_t_464 wd_t_465 (by decide +kernel) rfl) ?_
  refine hAllOk.c 362 (ok_no) ?_
  refine hAllOk.c 363 (ok_no) ?_
  refine hAllOk.c 364 (ok_iclt (off := 23) (by decide +kernel) (by decide +kernel) rfl) ?_
  refine hAllOk.c 365 (ok_no) ?_
  refine hAllOk.c 366 (ok_no) ?_
  refine hAllOk.c 367 (ok_aload_n (f := 0) rfl (by decide +kernel) rfl) ?_
  refine hAllOk.c 368 (ok_iload (by decide +kernel) rfl) ?_
  refine hAllOk.c 369 (ok_no) ?_
  refine hAllOk.c 370 (ok_callS (idx := 36) ⟨wd_t_466, wd_t_0, by decide +kernel, by decide +kernel⟩ wd_t_464 wd_t_465 (by decide +kernel) rfl) ?_
  refine hAllOk.c 371 (ok_no) ?_
  refine hAllOk.c 372 (ok_no) ?_
  refine hAllOk.c 373 (ok_aload_n (f := 0) rfl (by decide +kernel) rfl) ?_
  refine hAllOk.c 374 (ok_iload_n (f := 3) rfl (by decide +kernel) rfl) ?_
  refine hAllOk.c 375 (ok_callS (idx := 36) ⟨wd_t_466, wd_t_0, by decide +kernel, by decide +kernel⟩ wd_t_464 wd_t_465 (by decide +kernel) rfl) ?_
  refine hAllOk.c 376 (ok_no) ?_
  refine hAllOk.c 377 (ok_no) ?_
  refine hAllOk.c 378 (ok_icne (off := 13) (by decide +kernel) (by decide +kernel) rfl) ?_
  refine hAllOk.c 379 (ok_no) ?_
  refine hAllOk.c 380 (ok_no) ?_
  refine hAllOk.c 381 (ok_iload (by decide +kernel) rfl) ?_
  refine hAllOk.c 382 (ok_no) ?_
  refine hAllOk.c 383 (ok_iload_n (f := 3) rfl (by decide +kernel) rfl) ?_
  refine hAllOk.c 384 (ok_iclt (off := 7) (by decide +kernel) (by decide +kernel) rfl) ?_
  refine hAllOk.c 385 (ok_no) ?_
  refine hAllOk.c 386 (ok_no) ?_
  refine hAllOk.c 387 (ok_iconst (n := 1) (by decide +kernel) (by decide +kernel) rfl) ?_
  refine hAllOk.c 388 (ok_goto (off := 4) (by decide +kernel) (by decide +kernel)) ?_
  refine hAllOk.c 389 (ok_no) ?_
  refine hAllOk.c 390 (ok_no) ?_
  refine hAllOk.c 391 (ok_iconst (n := 0) (by decide +kernel) (by decide +kernel) rfl) ?_
  refine hAllOk.c 392 (ok_istore (by decide) (by decide +kernel) rfl) ?_
  refine hAllOk.c 393 (ok_no) ?_
  refine hAllOk.c 394 (ok_iinc (n := 1) (by decide +kernel) (by decide) (by decide +kernel) rfl) ?_
  refine hAllOk.c 395 (ok_no) ?_
  refine hAllOk.c 396 (ok_no) ?_
  refine hAllOk.c 397 (ok_goto (off := (-302)) (by decide +kernel) (by decide +kernel)) ?_
  refine hAllOk.c 398 (ok_no) ?_
  refine hAllOk.c 399 (ok_no) ?_
  refine hAllOk.c 400 (ok_iload (by decide +kernel) rfl) ?_
  refine hAllOk.c 401 (ok_no) ?_
  refine hAllOk.c 402 (ok_ifeq (off := 15) (by decide +kernel) (by decide +kernel) rfl) ?_
  refine hAllOk.c 403 (ok_no) ?_
  refine hAllOk.c 404 (ok_no) ?_
  refine hAllOk.c 405 (ok_iload_n (f := 1) rfl (by decide +kernel) rfl) ?_
  refine hAllOk.c 406 (ok_aload_n (f := 0) rfl (by decide +kernel) rfl) ?_
  refine hAllOk.c 407 (ok_callV (idx := 40) ⟨wd_t_401, wd_t_1, by decide +kernel, by decide +kernel⟩ rfl rfl wd_t_398 wd_t_399 wd_t_400 (by decide +kernel) rfl) ?_
  refine hAllOk.c 408 (ok_no) ?_
  refine hAllOk.c 409 (ok_no) ?_
  refine hAllOk.c 410 (ok_icne (off := 7) (by decide +kernel) (by decide +kernel) rfl) ?_
  refine hAllOk.c 411 (ok_no) ?_
  refine hAllOk.c 412 (ok_no) ?_
  refine hAllOk.c 413 (ok_iconst (n := 1) (by decide +kernel) (by decide +kernel) rfl) ?_
  refine hAllOk.c 414 (ok_goto (off := 4) (by decide +kernel) (by decide +kernel)) ?_
  refine hAllOk.c 415 (ok_no) ?_
  refine hAllOk.c 416 (ok_no) ?_
  refine hAllOk.c 417 (ok_iconst (n := 0) (by decide +kernel) (by decide +kernel) rfl) ?_
  refine hAllOk.c 418 (ok_ireturn (by decide +kernel)) ?_
  trivial
