theorem wd_t_470 : Cond.methodLink RL 44 yX5_why ∈ hTb := hTb_t (List.mem_of_getElem? (i := 470) (by decide +kernel)) (by decide +kernel)
theorem wd_t_473 : Cond.code yX5_why prog_1_method_23_code 3 (some .int) ∈ hTb := hTb_t (List.mem_of_getElem? (i := 473) (by decide +kernel)) (by decide +kernel)
theorem wd_t_471 : Cond.instanceMethod yX5_why ∈ hTb := hTb_t (List.mem_of_getElem? (i := 471) (by decide +kernel)) (by decide +kernel)
theorem wd_t_472 : Cond.selects RX5 yX5_why yX5_why ∈ hTb := hTb_t (List.mem_of_getElem? (i := 472) (by decide +kernel)) (by decide +kernel)
theorem wd_t_478 : Cond.methodLink RL 47 yX5_seat ∈ hTb := hTb_t (List.mem_of_getElem? (i := 478) (by decide +kernel)) (by decide +kernel)
theorem wd_t_481 : Cond.code yX5_seat prog_1_method_28_code 2 (some .int) ∈ hTb := hTb_t (List.mem_of_getElem? (i := 481) (by decide +kernel)) (by decide +kernel)
theorem wd_t_479 : Cond.instanceMethod yX5_seat ∈ hTb := hTb_t (List.mem_of_getElem? (i := 479) (by decide +kernel)) (by decide +kernel)
theorem wd_t_480 : Cond.selects RX5 yX5_seat yX5_seat ∈ hTb := hTb_t (List.mem_of_getElem? (i := 480) (by decide +kernel)) (by decide +kernel)
theorem wd_t_406 : Cond.methodLink RL 50 yX5_rounds ∈ hTb := hTb_t (List.mem_of_getElem? (i := 406) (by decide +kernel)) (by decide +kernel)
theorem wd_t_409 : Cond.code yX5_rounds prog_1_method_24_code 1 (some .int) ∈ hTb := hTb_t (List.mem_of_getElem? (i := 409) (by decide +kernel)) (by decide +kernel)
theorem wd_t_407 : Cond.instanceMethod yX5_rounds ∈ hTb := hTb_t (List.mem_of_getElem? (i := 407) (by decide +kernel)) (by decide +kernel)
theorem wd_t_408 : Cond.selects RX5 yX5_rounds yX5_rounds ∈ hTb := hTb_t (List.mem_of_getElem? (i := 408) (by decide +kernel)) (by decide +kernel)
theorem wd_t_486 : Cond.methodLink RL 53 yX5_needs ∈ hTb := hTb_t (List.mem_of_getElem? (i := 486) (by decide +kernel)) (by decide +kernel)
theorem wd_t_489 : Cond.code yX5_needs prog_1_method_25_code 7 (some .int) ∈ hTb := hTb_t (List.mem_of_getElem? (i := 489) (by decide +kernel)) (by decide +kernel)
theorem wd_t_487 : Cond.instanceMethod yX5_needs ∈ hTb := hTb_t (List.mem_of_getElem? (i := 487) (by decide +kernel)) (by decide +kernel)
theorem wd_t_488 : Cond.selects RX5 yX5_needs yX5_needs ∈ hTb := hTb_t (List.mem_of_getElem? (i := 488) (by decide +kernel)) (by decide +kernel)
theorem wd_t_491 : Cond.methodLink RL 56 yX5_weightOf ∈ hTb := hTb_t (List.mem_of_getElem? (i := 491) (by decide +kernel)) (by decide +kernel)
theorem wd_t_494 : Cond.code yX5_weightOf prog_1_method_26_code 6 (some .int) ∈ hTb := hTb_t (List.mem_of_getElem? (i := 494) (by decide +kernel)) (by decide +kernel)
theorem wd_t_492 : Cond.instanceMethod yX5_weightOf ∈ hTb := hTb_t (List.mem_of_getElem? (i := 492) (by decide +kernel)) (by decide +kernel)
theorem wd_t_493 : Cond.selects RX5 yX5_weightOf yX5_weightOf ∈ hTb := hTb_t (List.mem_of_getElem? (i := 493) (by decide +kernel)) (by decide +kernel)
def M_La_guests : hM := (yL_guests, method_6_code, 12, (some .boolean), 9, 204)
def code_La_guests (K : hK) (B : Nat × Nat) (Q : hPost) : List hSem := [x_aload 1 0, x_const 2 (0), x_callV K 5 M_Pa_company 5 1, x_no, x_no, x_istore 6 1, x_const 7 (0), x_istore 8 2, x_const 9 (0), x_istore 10 3, x_const 11 (0), x_istore 13 4, x_no, x_const 14 (0), x_istore 16 5, x_no, x_const 17 (1), x_istore 19 6, x_no, x_const 20 (0), x_istore 22 7, x_no, x_iload 24 7, x_no, x_aload 25 0, x_const 26 (1), x_callV K 29 M_Pa_count 5 1, x_no, x_no, x_icge 557 32, x_no, x_no, x_iload 34 6, x_no, x_ifeq 557 37, x_no, x_no, x_aload 38 0, x_iload 40 7, x_no, x_const 41 (0), x_callV K 44 M_Pa_why 5 2, x_no, x_no, x_istore 46 8, x_no, x_aload 47 0, x_iload 49 7, x_no, x_const 50 (2), x_callV K 53 M_Pa_why 5 2, x_no, x_no, x_istore 55 9, x_no, x_iload 56 2, x_aload 57 0, x_iload 59 7, x_no, x_const 60 (5), x_callV K 63 M_Pa_guest 5 2, x_no, x_no, x_iadd 64, x_istore 65 2, x_iload 66 3, x_aload 67 0, x_iload 69 7, x_no, x_const 71 (6), x_no, x_callV K 74 M_Pa_guest 5 2, x_no, x_no, x_iadd 75, x_istore 76 3, x_iload 78 4, x_no, x_aload 79 0, x_iload 81 7, x_no, x_const 82 (3), x_callV K 85 M_Pa_guest 5 2, x_no, x_no, x_iadd 86, x_istore 88 4, x_no, x_iload 90 5, x_no, x_aload 91 0, x_iload 93 7, x_no, x_const 95 (7), x_no, x_callV K 98 M_Pa_guest 5 2, x_no, x_no, x_iflt 108 101, x_no, x_no, x_const 102 (1), x_iload 104 7, x_no, x_ishl 105, x_goto 109, x_no, x_no, x_const 109 (0), x_ior 110, x_istore 112 5, x_no, x_iload 114 8, x_no, x_ifne 121 117, x_no, x_no, x_const 118 (1), x_goto 122, x_no, x_no, x_const 122 (0), x_iload 123 1, x_iload 125 7, x_no, x_ishr 126, x_const 127 (1), x_iand 128, x_const 129 (1), x_icne 136 132, x_no, x_no, x_const 133 (1), x_goto 137, x_no, x_no, x_const 137 (0), x_icne 201 140, x_no, x_no, x_iload 142 8, x_no, x_const 143 (1), x_icne 150 146, x_no, x_no, x_const 147 (1), x_goto 151, x_no, x_no, x_const 151 (0), x_aload 152 0, x_iload 154 7, x_no, x_const 155 (2), x_callV K 158 M_Pa_guest 5 2, x_no, x_no, x_ifne 165 161, x_no, x_no, x_const 162 (1), x_goto 166, x_no, x_no, x_const 166 (0), x_icne 201 169, x_no, x_no, x_aload 170 0, x_iload 172 7, x_no, x_const 174 (7), x_no, x_callV K 177 M_Pa_guest 5 2, x_no, x_no, x_iflt 197 180, x_no, x_no, x_aload 181 0, x_aload 182 0, x_iload 184 7, x_no, x_const 186 (7), x_no, x_callV K 189 M_Pa_guest 5 2, x_no, x_no, x_callV K 192 M_Pa_seat 5 1, x_no, x_no, x_iload 194 7, x_no, x_icne 201 197, x_no, x_no, x_const 198 (1), x_goto 202, x_no, x_no, x_const 202 (0), x_istore 204 6, x_no, x_iload 206 6, x_no, x_ifeq 340 209, x_no, x_no, x_iload 211 8, x_no, x_ifle 317 214, x_no, x_no, x_aload 215 0, x_iload 217 7, x_no, x_const 218 (1), x_callV K 221 M_Pa_why 5 2, x_no, x_no, x_aload 222 0, x_callV K 225 M_Pa_rounds 5 0, x_no, x_no, x_icge 340 228, x_no, x_no, x_iload 230 9, x_no, x_ifge 259 233, x_no, x_no, x_aload 234 0, x_iload 236 7, x_no, x_const 237 (3), x_callV K 240 M_Pa_why 5 2, x_no, x_no, x_const 241 (1), x_icne 340 244, x_no, x_no, x_aload 245 0, x_iload 247 7, x_no, x_const 248 (4), x_callV K 251 M_Pa_why 5 2, x_no, x_no, x_iload 253 7, x_no, x_icne 340 256, x_no, x_no, x_goto 336, x_no, x_no, x_aload 260 0, x_iload 262 9, x_no, x_const 263 (1), x_callV K 266 M_Pa_why 5 2, x_no, x_no, x_aload 267 0, x_iload 269 7, x_no, x_const 270 (1), x_callV K 273 M_Pa_why 5 2, x_no, x_no, x_const 274 (1), x_isub 275, x_icne 340 278, x_no, x_no, x_aload 279 0, x_iload 281 7, x_no, x_const 282 (3), x_callV K 285 M_Pa_why 5 2, x_no, x_no, x_aload 286 0, x_iload 288 9, x_no, x_const 289 (3), x_callV K 292 M_Pa_why 5 2, x_no, x_no, x_const 293 (1), x_iadd 294, x_icne 340 297, x_no, x_no, x_aload 298 0, x_iload 300 7, x_no, x_const 301 (4), x_callV K 304 M_Pa_why 5 2, x_no, x_no, x_aload 305 0, x_iload 307 9, x_no, x_const 308 (4), x_callV K 311 M_Pa_why 5 2, x_no, x_no, x_icne 340 314, x_no, x_no, x_goto 336, x_no, x_no, x_iload 319 9, x_no, x_const 321 (-5), x_no, x_icne 340 324, x_no, x_no, x_aload 325 0, x_iload 327 7, x_no, x_const 328 (1), x_callV K 331 M_Pa_why 5 2, x_no, x_no, x_const 333 (-5), x_no, x_icne 340 336, x_no, x_no, x_const 337 (1), x_goto 341, x_no, x_no, x_const 341 (0), x_istore 343 6, x_no, x_const 344 (0), x_istore 346 10, x_no, x_iload 348 10, x_no, x_const 349 (1), x_aload 350 0, x_const 351 (1), x_callV K 354 M_Pa_count 5 1, x_no, x_no, x_ishl 355, x_icge 410 358, x_no, x_no, x_iload 360 6, x_no, x_ifeq 410 363, x_no, x_no, x_aload 364 0, x_iload 366 7, x_no, x_iload 368 10, x_no, x_callV K 371 M_Pa_met 5 2, x_no, x_no, x_ifeq 397 374, x_no, x_no, x_aload 375 0, x_iload 377 7, x_no, x_iload 379 10, x_no, x_const 380 (1), x_iload 382 10, x_no, x_aload 383 0, x_const 384 (1), x_callV K 387 M_Pa_count 5 1, x_no, x_no, x_irem 388, x_ishl 389, x_ior 390, x_callV K 393 M_Pa_met 5 2, x_no, x_no, x_const 394 (1), x_icne 401 397, x_no, x_no, x_const 398 (1), x_goto 402, x_no, x_no, x_const 402 (0), x_istore 404 6, x_no, x_iinc 407 10 (1), x_no, x_no, x_goto 346, x_no, x_no, x_aload 411 0, x_iload 413 7, x_no, x_callV K 416 M_Pa_needs 5 1, x_no, x_no, x_istore 418 10, x_no, x_iload 420 6, x_no, x_ifeq 485 423, x_no, x_no, x_iload 425 10, x_no, x_ifge 432 428, x_no, x_no, x_const 429 (1), x_goto 433, x_no, x_no, x_const 433 (0), x_aload 434 0, x_iload 436 7, x_no, x_const 437 (1), x_aload 438 0, x_const 439 (1), x_callV K 442 M_Pa_count 5 1, x_no, x_no, x_ishl 443, x_const 444 (1), x_isub 445, x_callV K 448 M_Pa_met 5 2, x_no, x_no, x_ifne 455 451, x_no, x_no, x_const 452 (1), x_goto 456, x_no, x_no, x_const 456 (0), x_icne 485 459, x_no, x_no, x_aload 460 0, x_iload 462 7, x_no, x_const 463 (4), x_callV K 466 M_Pa_guest 5 2, x_no, x_no, x_const 467 (1), x_aload 468 0, x_const 469 (1), x_callV K 472 M_Pa_count 5 1, x_no, x_no, x_ishl 473, x_const 474 (1), x_isub 475, x_const 476 (-1), x_ixor 477, x_iand 478, x_ifne 485 481, x_no, x_no, x_const 482 (1), x_goto 486, x_no, x_no, x_const 486 (0), x_istore 488 6, x_no, x_aload 489 0, x_iload 491 7, x_no, x_callV K 494 M_Pa_weightOf 5 1, x_no, x_no, x_istore 496 11, x_no, x_iload 498 6, x_no, x_ifeq 548 501, x_no, x_no, x_aload 502 0, x_iload 504 7, x_no, x_const 505 (2), x_callV K 508 M_Pa_guest 5 2, x_no, x_no, x_ifne 521 511, x_no, x_no, x_iload 513 11, x_no, x_const 515 (-5), x_no, x_icne 548 518, x_no, x_no, x_goto 544, x_no, x_no, x_iload 523 8, x_no, x_ifne 530 526, x_no, x_no, x_const 527 (1), x_goto 531, x_no, x_no, x_const 531 (0), x_iload 533 11, x_no, x_ifle 540 536, x_no, x_no, x_const 537 (1), x_goto 541, x_no, x_no, x_const 541 (0), x_icne 548 544, x_no, x_no, x_const 545 (1), x_goto 549, x_no, x_no, x_const 549 (0), x_istore 551 6, x_no, x_iinc 554 7 (1), x_no, x_no, x_goto 22, x_no, x_no, x_aload 558 0, x_const 559 (3), x_callV K 562 M_Pa_company 5 1, x_no, x_no, x_istore 564 7, x_no, x_iload 566 6, x_no, x_ifeq 649 569, x_no, x_no, x_iload 570 2, x_aload 571 0, x_const 573 (9), x_no, x_callV K 576 M_Pa_count 5 1, x_no, x_no, x_icne 649 579, x_no, x_no, x_iload 580 3, x_aload 581 0, x_const 583 (10), x_no, x_callV K 586 M_Pa_count 5 1, x_no, x_no, x_icne 649 589, x_no, x_no, x_iload 591 4, x_no, x_aload 592 0, x_const 594 (14), x_no, x_callV K 597 M_Pa_count 5 1, x_no, x_no, x_icne 649 600, x_no, x_no, x_iload 601 3, x_iload 602 2, x_icgt 649 605, x_no, x_no, x_aload 606 0, x_const 608 (8), x_no, x_callV K 611 M_Pa_count 5 1, x_no, x_no, x_const 612 (1), x_icne 619 615, x_no, x_no, x_const 616 (1), x_goto 620, x_no, x_no, x_const 620 (0), x_iload 622 7, x_no, x_iflt 629 625, x_no, x_no, x_const 626 (1), x_goto 630, x_no, x_no, x_const 630 (0), x_icne 649 633, x_no, x_no, x_iload 635 7, x_no, x_iflt 645 638, x_no, x_no, x_iload 640 7, x_no, x_iload 642 5, x_no, x_icne 649 645, x_no, x_no, x_const 646 (1), x_goto 650, x_no, x_no, x_const 650 (0), x_ireturn (some .boolean) Q]
set_option maxRecDepth 100000 in
set_option maxHeartbeats 4000000 in
theorem okc_La_guests (K : hK) (B : Nat × Nat) (Q : hPost) : hAllOk (hJ K M_La_guests B Q) 0 (code_La_guests K B Q) := by
  refine hAllOk.c 0 (ok_aload_n (f := 0) rfl (by decide +kernel) rfl) ?_
  refine hAllOk.c 1 (ok_iconst (n := 0) (by decide +kernel) (by decide +kernel) rfl) ?_
  refine hAllOk.c 2 (ok_callV (idx := 19) ⟨wd_t_393, wd_t_1, by decide +kernel, by decide +kernel⟩ rfl rfl wd_t_390 wd_t_391 wd_t_392 (by decide +kernel) rfl) ?_
  refine hAllOk.c 3 (ok_no) ?_
  refine hAllOk.c 4 (ok_no) ?_
  refine hAllOk.c 5 (ok_istore_n (f := 1) rfl (by decide) (by decide +kernel) rfl) ?_
  refine hAllOk.c 6 (ok_iconst (n := 0) (by decide +kernel) (by decide +kernel) rfl) ?_
  refine hAllOk.c 7 (ok_istore_n (f := 2) rfl (by decide) (by decide +kernel) rfl) ?_
  refine hAllOk.c 8 (ok_iconst (n := 0) (by decide +kernel) (by decide +kernel) rfl) ?_
  refine hAllOk.c 9 (ok_istore_n (f := 3) rfl (by decide) (by decide +kernel) rfl) ?_
  refine hAllOk.c 10 (ok_iconst (n := 0) (by decide +kernel) (by decide +kernel) rfl) ?_
  refine hAllOk.c 11 (ok_istore (by decide) (by decide +kernel) rfl) ?_
  refine hAllOk.c 12 (ok_no) ?_
  refine hAllOk.c 13 (ok_iconst (n := 0) (by decide +kernel) (by decide +kernel) rfl) ?_
  refine hAllOk.c 14 (ok_istore (by decide) (by decide +kernel) rfl) ?_
  refine hAllOk.c 15 (ok_no) ?_
  refine hAllOk.c 16 (ok_iconst (n := 1) (by decide +kernel) (by decide +kernel) rfl) ?_
  refine hAllOk.c 17 (ok_istore (by decide) (by decide +kernel) rfl) ?_
  refine hAllOk.c 18 (ok_no) ?_
  refine hAllOk.c 19 (ok_iconst (n := 0) (by decide +kernel) (by decide +kernel) rfl) ?_
  refine hAllOk.c 20 (ok_istore (by decide) (by decide +kernel) rfl) ?_
  refine hAllOk.c 21 (ok_no) ?_
  refine hAllOk.c 22 (ok_iload (by decide +kernel) rfl) ?_
  refine hAllOk.c 23 (ok_no) ?_
  refine hAllOk.c 24 (ok_aload_n (f := 0) rfl (by decide +kernel) rfl) ?_
  refine hAllOk.c 25 (ok_iconst (n := 1) (by decide +kernel) (by decide +kernel) rfl) ?_
  refine hAllOk.c 26 (ok_callV (idx := 9) ⟨wd_t_413, wd_t_1, by decide +kernel, by decide +kernel⟩ rfl rfl wd_t_410 wd_t_411 wd_t_412 (by decide +kernel) rfl) ?_
  refine hAllOk.c 27 (ok_no) ?_
  refine hAllOk.c 28 (ok_no) ?_
  refine hAllOk.c 29 (ok_icge (off := 528) (by decide +kernel) (by decide +kernel) rfl) ?_
  refine hAllOk.c 30 (ok_no) ?_
  refine hAllOk.c 31 (ok_no) ?_
  refine hAllOk.c 32 (ok_iload (by decide +kernel) rfl) ?_
  refine hAllOk.c 33 (ok_no) ?_
  refine hAllOk.c 34 (ok_ifeq (off := 523) (by decide +kernel) (by decide +kernel) rfl) ?_
  refine hAllOk.c 35 (ok_no) ?_
  refine hAllOk.c 36 (ok_no) ?_
  refine hAllOk.c 37 (ok_aload_n (f := 0) rfl (by decide +kernel) rfl) ?_
  refine hAllOk.c 38 (ok_iload (by decide +kernel) rfl) ?_
  refine hAllOk.c 39 (ok_no) ?_
  refine hAllOk.c 40 (ok_iconst (n := 0) (by decide +kernel) (by decide +kernel) rfl) ?_
  refine hAllOk.c 41 (ok_callV (idx := 44) ⟨wd_t_473, wd_t_1, by decide +kernel, by decide +kernel⟩ rfl rfl wd_t_470 wd_t_471 wd_t_472 (by decide +kernel) rfl) ?_
  refine hAllOk.c 42 (ok_no) ?_
  refine hAllOk.c 43 (ok_no) ?_
  refine hAllOk.c 44 (ok_istore (by decide) (by decide +kernel) rfl) ?_
  refine hAllOk.c 45 (ok_no) ?_
  refine hAllOk.c 46 (ok_aload_n (f := 0) rfl (by decide +kernel) rfl) ?_
  refine hAllOk.c 47 (ok_iload (by decide +kernel) rfl) ?_
  refine hAllOk.c 48 (ok_no) ?_
  refine hAllOk.c 49 (ok_iconst (n := 2) (by decide +kernel) (by decide +kernel) rfl) ?_
  refine hAllOk.c 50 (ok_callV (idx := 44) ⟨wd_t_473, wd_t_1, by decide +kernel, by decide +kernel⟩ rfl rfl wd_t_470 wd_t_471 wd_t_472 (by decide +kernel) rfl) ?_
  refine hAllOk.c 51 (ok_no) ?_
  refine hAllOk.c 52 (ok_no) ?_
  refine hAllOk.c 53 (ok_istore (by decide) (by decide +kernel) rfl) ?_
  refine hAllOk.c 54 (ok_no) ?_
  refine hAllOk.c 55 (ok_iload_n (f := 2) rfl (by decide +kernel) rfl) ?_
  refine hAllOk.c 56 (ok_aload_n (f := 0) rfl (by decide +kernel) rfl) ?_
  refine hAllOk.c 57 (ok_iload (by decide +kernel) rfl) ?_
  refine hAllOk.c 58 (ok_no) ?_
  refine hAllOk.c 59 (ok_iconst (n := 5) (by decide +kernel) (by decide +kernel) rfl) ?_
  refine hAllOk.c 60 (ok_callV (idx := 15) ⟨wd_t_451, wd_t_1, by decide +kernel, by decide +kernel⟩ rfl rfl wd_t_448 wd_t_449 wd_t_450 (by decide +kernel) rfl) ?_
  refine hAllOk.c 61 (ok_no) ?_
  refine hAllOk.c 62 (ok_no) ?_
  refine hAllOk.c 63 (ok_iadd (by decide +kernel) rfl) ?_
  refine hAllOk.c 64 (ok_istore_n (f := 2) rfl (by decide) (by decide +kernel) rfl) ?_
  refine hAllOk.c 65 (ok_iload_n (f := 3) rfl (by decide +kernel) rfl) ?_
  refine hAllOk.c 66 (ok_aload_n (f := 0) rfl (by decide +kernel) rfl) ?_
  refine hAllOk.c 67 (ok_iload (by decide +kernel) rfl) ?_
  refine hAllOk.c 68 (ok_no) ?_
  refine hAllOk.c 69 (ok_bipush (n := 6) (by decide +kernel) (by decide +kernel) rfl) ?_
  refine hAllOk.c 70 (ok_no) ?_
  refine hAllOk.c 71 (ok_callV (idx := 15) ⟨wd_t_451, wd_t_1, by decide +kernel, by decide +kernel⟩ rfl rfl wd_t_448 wd_t_449 wd_t_450 (by decide +kernel) rfl) ?_
  refine hAllOk.c 72 (ok_no) ?_
  refine hAllOk.c 73 (ok_no) ?_
  refine hAllOk.c 74 (ok_iadd (by decide +kernel) rfl) ?_
  refine hAllOk.c 75 (ok_istore_n (f := 3) rfl (by decide) (by decide +kernel) rfl) ?_
  refine hAllOk.c 76 (ok_iload (by decide +kernel) rfl) ?_
  refine hAllOk.c 77 (ok_no) ?_
  refine hAllOk.c 78 (ok_aload_n (f := 0) rfl (by decide +kernel) rfl) ?_
  refine hAllOk.c 79 (ok_iload (by decide +kernel) rfl) ?_
  refine hAllOk.c 80 (ok_no) ?_
  refine hAllOk.c 81 (ok_iconst (n := 3) (by decide +kernel) (by decide +kernel) rfl) ?_
  refine hAllOk.c 82 (ok_callV (idx := 15) ⟨wd_t_451, wd_t_1, by decide +kernel, by decide +kernel⟩ rfl rfl wd_t_448 wd_t_449 wd_t_450 (by decide +kernel) rfl) ?_
  refine hAllOk.c 83 (ok_no) ?_
  refine hAllOk.c 84 (ok_no) ?_
  refine hAllOk.c 85 (ok_iadd (by decide +kernel) rfl) ?_
  refine hAllOk.c 86 (ok_istore (by decide) (by decide +kernel) rfl) ?_
  refine hAllOk.c 87 (ok_no) ?_
  refine hAllOk.c 88 (ok_iload (by decide +kernel) rfl) ?_
  refine hAllOk.c 89 (ok_no) ?_
  refine hAllOk.c 90 (ok_aload_n (f := 0) rfl (by decide +kernel) rfl) ?_
  refine hAllOk.c 91 (ok_iload (by decide +kernel) rfl) ?_
  refine hAllOk.c 92 (ok_no) ?_
  refine hAllOk.c 93 (ok_bipush (n := 7) (by decide +kernel) (by decide +kernel) rfl) ?_
  refine hAllOk.c 94 (ok_no) ?_
  refine hAllOk.c 95 (ok_callV (idx := 15) ⟨wd_t_451, wd_t_1, by decide +kernel, by decide +kernel⟩ rfl rfl wd_t_448 wd_t_449 wd_t_450 (by decide +kernel) rfl) ?_
  refine hAllOk.c 96 (ok_no) ?_
  refine hAllOk.c 97 (ok_no) ?_
  refine hAllOk.c 98 (ok_iflt (off := 10) (by decide +kernel) (by decide +kernel) rfl) ?_
  refine hAllOk.c 99 (ok_no) ?_
  refine hAllOk.c 100 (ok_no) ?_
  refine hAllOk.c 101 (ok_iconst (n := 1) (by decide +kernel) (by decide +kernel) rfl) ?_
  refine hAllOk.c 102 (ok_iload (by decide +kernel) rfl) ?_
  refine hAllOk.c 103 (ok_no) ?_
  refine hAllOk.c 104 (ok_ishl (by decide +kernel) rfl) ?_
  refine hAllOk.c 105 (ok_goto (off := 4) (by decide +kernel) (by decide +kernel)) ?_
  refine hAllOk.c 106 (ok_no) ?_
  refine hAllOk.c 107 (ok_no) ?_
  refine hAllOk.c 108 (ok_iconst (n := 0) (by decide +kernel) (by decide +kernel) rfl) ?_
  refine hAllOk.c 109 (ok_ior (by decide +kernel) rfl) ?_
  refine hAllOk.c 110 (ok_istore (by decide) (by decide +kernel) rfl) ?_
  refine hAllOk.c 111 (ok_no) ?_
  refine hAllOk.c 112 (ok_iload (by decide +kernel) rfl) ?_
  refine hAllOk.c 113 (ok_no) ?_
  refine hAllOk.c 114 (ok_ifne (off := 7) (by decide +kernel) (by decide +kernel) rfl) ?_
  refine hAllOk.c 115 (ok_no) ?_
  refine hAllOk.c 116 (ok_no) ?_
  refine hAllOk.c 117 (ok_iconst (n := 1) (by decide +kernel) (by decide +kernel) rfl) ?_
  refine hAllOk.c 118 (ok_goto (off := 4) (by decide +kernel) (by decide +kernel)) ?_
  refine hAllOk.c 119 (ok_no) ?_
  refine hAllOk.c 120 (ok_no) ?_
  refine hAllOk.c 121 (ok_iconst (n := 0) (by decide +kernel) (by decide +kernel) rfl) ?_
  refine hAllOk.c 122 (ok_iload_n (f := 1) rfl (by decide +kernel) rfl) ?_
  refine hAllOk.c 123 (ok_iload (by decide +kernel) rfl) ?_
  refine hAllOk.c 124 (ok_no) ?_
  refine hAllOk.c 125 (ok_ishr (by decide +kernel) rfl) ?_
  refine hAllOk.c 126 (ok_iconst (n := 1) (by decide +kernel) (by decide +kernel) rfl) ?_
  refine hAllOk.c 127 (ok_iand (by decide +kernel) rfl) ?_
  refine hAllOk.c 128 (ok_iconst (n := 1) (by decide +kernel) (by decide +kernel) rfl) ?_
  refine hAllOk.c 129 (ok_icne (off := 7) (by decide +kernel) (by decide +kernel) rfl) ?_
  refine hAllOk.c 130 (ok_no) ?_
  refine hAllOk.c 131 (ok_no) ?_
  refine hAllOk.c 132 (ok_iconst (n := 1) (by decide +kernel) (by decide +kernel) rfl) ?_
  refine hAllOk.c 133 (ok_goto (off := 4) (by decide +kernel) (by decide +kernel)) ?_
  refine hAllOk.c 134 (ok_no) ?_
  refine hAllOk.c 135 (ok_no) ?_
  refine hAllOk.c 136 (ok_iconst (n := 0) (by decide +kernel) (by decide +kernel) rfl) ?_
  refine hAllOk.c 137 (ok_icne (off := 64) (by decide +kernel) (by decide +kernel) rfl) ?_
  refine hAllOk.c 138 (ok_no) ?_
  refine hAllOk.c 139 (ok_no) ?_
  refine hAllOk.c 140 (ok_iload (by decide +kernel) rfl) ?_
  refine hAllOk.c 141 (ok_no) ?_
  refine hAllOk.c 142 (ok_iconst (n := 1) (by decide +kernel) (by decide +kernel) rfl) ?_
  refine hAllOk.c 143 (ok_icne (off := 7) (by decide +kernel) (by decide +kernel) rfl) ?_
  refine hAllOk.c 144 (ok_no) ?_
  refine hAllOk.c 145 (ok_no) ?_
  refine hAllOk.c 146 (ok_iconst (n := 1) (by decide +kernel) (by decide +kernel) rfl) ?_
  refine hAllOk.c 147 (ok_goto (off := 4) (by decide +kernel) (by decide +kernel)) ?_
  refine hAllOk.c 148 (ok_no) ?_
  refine hAllOk.c 149 (ok_no) ?_
  refine hAllOk.c 150 (ok_iconst (n := 0) (by decide +kernel) (by decide +kernel) rfl) ?_
  refine hAllOk.c 151 (ok_aload_n (f := 0) rfl (by decide +kernel) rfl) ?_
  refine hAllOk.c 152 (ok_iload (by decide +kernel) rfl) ?_
  refine hAllOk.c 153 (ok_no) ?_
  refine hAllOk.c 154 (ok_iconst (n := 2) (by decide +kernel) (by decide +kernel) rfl) ?_
  refine hAllOk.c 155 (ok_callV (idx := 15) ⟨wd_t_451, wd_t_1, by decide +kernel, by decide +kernel⟩ rfl rfl wd_t_448 wd_t_449 wd_t_450 (by decide +kernel) rfl) ?_
  refine hAllOk.c 156 (ok_no) ?_
  refine hAllOk.c 157 (ok_no) ?_
  refine hAllOk.c 158 (ok_ifne (off := 7) (by decide +kernel) (by decide +kernel) rfl) ?_
  refine hAllOk.c 159 (ok_no) ?_
  refine hAllOk.c 160 (ok_no) ?_
  refine hAllOk.c 161 (ok_iconst (n := 1) (by decide +kernel) (by decide +kernel) rfl) ?_
  refine hAllOk.c 162 (ok_goto (off := 4) (by decide +kernel) (by decide +kernel)) ?_
  refine hAllOk.c 163 (ok_no) ?_
  refine hAllOk.c 164 (ok_no) ?_
  refine hAllOk.c 165 (ok_iconst (n := 0) (by decide +kernel) (by decide +kernel) rfl) ?_
  refine hAllOk.c 166 (ok_icne (off := 35) (by decide +kernel) (by decide +kernel) rfl) ?_
  refine hAllOk.c 167 (ok_no) ?_
  refine hAllOk.c 168 (ok_no) ?_
  refine hAllOk.c 169 (ok_aload_n (f := 0) rfl (by decide +kernel) rfl) ?_
  refine hAllOk.c 170 (ok_iload (by decide +kernel) rfl) ?_
  refine hAllOk.c 171 (ok_no) ?_
  refine hAllOk.c 172 (ok_bipush (n := 7) (by decide +kernel) (by decide +kernel) rfl) ?_
  refine hAllOk.c 173 (ok_no) ?_
  refine hAllOk.c 174 (ok_callV (idx := 15) ⟨wd_t_451, wd_t_1, by decide +kernel, by decide +kernel⟩ rfl rfl wd_t_448 wd_t_449 wd_t_450 (by decide +kernel) rfl) ?_
  refine hAllOk.c 175 (ok_no) ?_
  refine hAllOk.c 176 (ok_no) ?_
  refine hAllOk.c 177 (ok_iflt (off := 20) (by decide +kernel) (by decide +kernel) rfl) ?_
  refine hAllOk.c 178 (ok_no) ?_
  refine hAllOk.c 179 (ok_no) ?_
  refine hAllOk.c 180 (ok_aload_n (f := 0) rfl (by decide +kernel) rfl) ?_
  refine hAllOk.c 181 (ok_aload_n (f := 0) rfl (by decide +kernel) rfl) ?_
  refine hAllOk.c 182 (ok_iload (by decide +kernel) rfl) ?_
  refine hAllOk.c 183 (ok_no) ?_
  refine hAllOk.c 184 (ok_bipush (n := 7) (by decide +kernel) (by decide +kernel) rfl) ?_
  refine hAllOk.c 185 (ok_no) ?_
  refine hAllOk.c 186 (ok_callV (idx := 15) ⟨wd_t_451, wd_t_1, by decide +kernel, by decide +kernel⟩ rfl rfl wd_t_448 wd_t_449 wd_t_450 (by decide +kernel) rfl) ?_
  refine hAllOk.c 187 (ok_no) ?_
  refine hAllOk.c 188 (ok_no) ?_
  refine hAllOk.c 189 (ok_callV (idx := 47) ⟨wd_t_481, wd_t_1, by decide +kernel, by decide +kernel⟩ rfl rfl wd_t_478 wd_t_479 wd_t_480 (by decide +kernel) rfl) ?_
  refine hAllOk.c 190 (ok_no) ?_
  refine hAllOk.c 191 (ok_no) ?_
  refine hAllOk.c 192 (ok_iload (by decide +kernel) rfl) ?_
  refine hAllOk.c 193 (ok_no) ?_
  refine hAllOk.c 194 (ok_icne (off := 7) (by decide +kernel) (by decide +kernel) rfl) ?_
  refine hAllOk.c 195 (ok_no) ?_
  refine hAllOk.c 196 (ok_no) ?_
  refine hAllOk.c 197 (ok_iconst (n := 1) (by decide +kernel) (by decide +kernel) rfl) ?_
  refine hAllOk.c 198 (ok_goto (off := 4) (by decide +kernel) (by decide +kernel)) ?_
  refine hAllOk.c 199 (ok_no) ?_
  refine hAllOk.c 200 (ok_no) ?_
  refine hAllOk.c 201 (ok_iconst (n := 0) (by decide +kernel) (by decide +kernel) rfl) ?_
  refine hAllOk.c 202 (ok_istore (by decide) (by decide +kernel) rfl) ?_
  refine hAllOk.c 203 (ok_no) ?_
  refine hAllOk.c 204 (ok_iload (by decide +kernel) rfl) ?_
  refine hAllOk.c 205 (ok_no) ?_
  refine hAllOk.c 206 (ok_ifeq (off := 134) (by decide +kernel) (by decide +kernel) rfl) ?_
  refine hAllOk.c 207 (ok_no) ?_
  refine hAllOk.c 208 (ok_no) ?_
  refine hAllOk.c 209 (ok_iload (by decide +kernel) rfl) ?_
  refine hAllOk.c 210 (ok_no) ?_
  refine hAllOk.c 211 (ok_ifle (off := 106) (by decide +kernel) (by decide +kernel) rfl) ?_
  refine hAllOk.c 212 (ok_no) ?_
  refine hAllOk.c 213 (ok_no) ?_
  refine hAllOk.c 214 (ok_aload_n (f := 0) rfl (by decide +kernel) rfl) ?_
  refine hAllOk.c 215 (ok_iload (by decide +kernel) rfl) ?_
  refine hAllOk.c 216 (ok_no) ?_
  refine hAllOk.c 217 (ok_iconst (n := 1) (by decide +kernel) (by decide +kernel) rfl) ?_
  refine hAllOk.c 218 (ok_callV (idx := 44) ⟨wd_t_473, wd_t_1, by decide +kernel, by decide +kernel⟩ rfl rfl wd_t_470 wd_t_471 wd_t_472 (by decide +kernel) rfl) ?_
  refine hAllOk.c 219 (ok_no) ?_
  refine hAllOk.c 220 (ok_no) ?_
  refine hAllOk.c 221 (ok_aload_n (f := 0) rfl (by decide +kernel) rfl) ?_
  refine hAllOk.c 222 (ok_callV (idx := 50) ⟨wd_t_409, wd_t_1, by decide +kernel, by decide +kernel⟩ rfl rfl wd_t_406 wd_t_407 wd_t_408 (by decide +kernel) rfl) ?_
  refine hAllOk.c 223 (ok_no) ?_
  refine hAllOk.c 224 (ok_no) ?_
  refine hAllOk.c 225 (ok_icge (off := 115) (by decide +kernel) (by decide +kernel) rfl) ?_
  refine hAllOk.c 226 (ok_no) ?_
  refine hAllOk.c 227 (ok_no) ?_
  refine hAllOk.c 228 (ok_iload (by decide +kernel) rfl) ?_
  refine hAllOk.c 229 (ok_no) ?_
  refine hAllOk.c 230 (ok_ifge (off := 29) (by decide +kernel) (by decide +kernel) rfl) ?_
  refine hAllOk.c 231 (ok_no) ?_
  refine hAllOk.c 232 (ok_no) ?_
  refine hAllOk.c 233 (ok_aload_n (f := 0) rfl (by decide +kernel) rfl) ?_
  refine hAllOk.c 234 (ok_iload (by decide +kernel) rfl) ?_
  refine hAllOk.c 235 (ok_no) ?_
  refine hAllOk.c 236 (ok_iconst (n := 3) (by decide +kernel) (by decide +kernel) rfl) ?_
  refine hAllOk.c 237 (ok_callV (idx := 44) ⟨wd_t_473, wd_t_1, by decide +kernel, by decide +kernel⟩ rfl rfl wd_t_470 wd_t_471 wd_t_472 (by decide +kernel) rfl) ?_
  refine hAllOk.c 238 (ok_no) ?_
  refine hAllOk.c 239 (ok_no) ?_
  refine hAllOk.c 240 (ok_iconst (n := 1) (by decide +kernel) (by decide +kernel) rfl) ?_
  refine hAllOk.c 241 (ok_icne (off := 99) (by decide +kernel) (by decide +kernel) rfl) ?_
  refine hAllOk.c 242 (ok_no) ?_
  refine hAllOk.c 243 (ok_no) ?_
  refine hAllOk.c 244 (ok_aload_n (f := 0) rfl (by decide +kernel) rfl) ?_
  refine hAllOk.c 245 (ok_iload (by decide +kernel) rfl) ?_
  refine hAllOk.c 246 (ok_no) ?_
  refine hAllOk.c 247 (ok_iconst (n := 4) (by decide +kernel) (by decide +kernel) rfl) ?_
  refine hAllOk.c 248 (ok_callV (idx := 44) ⟨wd_t_473, wd_t_1, by decide +kernel, by decide +kernel⟩ rfl rfl wd_t_470 wd_t_471 wd_t_472 (by decide +kernel) rfl) ?_
  refine hAllOk.c 249 (ok_no) ?_
  refine hAllOk.c 250 (ok_no) ?_
  refine hAllOk.c 251 (ok_iload (by decide +kernel) rfl) ?_
  refine hAllOk.c 252 (ok_no) ?_
  refine hAllOk.c 253 (ok_icne (off := 87) (by decide +kernel) (by decide +kernel) rfl) ?_
  refine hAllOk.c 254 (ok_no) ?_
  refine hAllOk.c 255 (ok_no) ?_
  refine hAllOk.c 256 (ok_goto (off := 80) (by decide +kernel) (by decide +kernel)) ?_
  refine hAllOk.c 257 (ok_no) ?_
  refine hAllOk.c 258 (ok_no) ?_
  refine hAllOk.c 259 (ok_aload_n (f := 0) rfl (by decide +kernel) rfl) ?_
  refine hAllOk.c 260 (ok_iload (by decide +kernel) rfl) ?_
  refine hAllOk.c 261 (ok_no) ?_
  refine hAllOk.c 262 (ok_iconst (n := 1) (by decide +kernel) (by decide +kernel) rfl) ?_
  refine hAllOk.c 263 (ok_callV (idx := 44) ⟨wd_t_473, wd_t_1, by decide +kernel, by decide +kernel⟩ rfl rfl wd_t_470 wd_t_471 wd_t_472 (by decide +kernel) rfl) ?_
  refine hAllOk.c 264 (ok_no) ?_
  refine hAllOk.c 265 (ok_no) ?_
  refine hAllOk.c 266 (ok_aload_n (f := 0) rfl (by decide +kernel) rfl) ?_
  refine hAllOk.c 267 (ok_iload (by decide +kernel) rfl) ?_
  refine hAllOk.c 268 (ok_no) ?_
  refine hAllOk.c 269 (ok_iconst (n := 1) (by decide +kernel) (by decide +kernel) rfl) ?_
  refine hAllOk.c 270 (ok_callV (idx := 44) ⟨wd_t_473, wd_t_1, by decide +kernel, by decide +kernel⟩ rfl rfl wd_t_470 wd_t_471 wd_t_472 (by decide +kernel) rfl) ?_
  refine hAllOk.c 271 (ok_no) ?_
  refine hAllOk.c 272 (ok_no) ?_
  refine hAllOk.c 273 (ok_iconst (n := 1) (by decide +kernel) (by decide +kernel) rfl) ?_
  refine hAllOk.c 274 (ok_isub (by decide +kernel) rfl) ?_
  refine hAllOk.c 275 (ok_icne (off := 65) (by decide +kernel) (by decide +kernel) rfl) ?_
  refine hAllOk.c 276 (ok_no) ?_
  refine hAllOk.c 277 (ok_no) ?_
  refine hAllOk.c 278 (ok_aload_n (f := 0) rfl (by decide +kernel) rfl) ?_
  refine hAllOk.c 279 (ok_iload (by decide +kernel) rfl) ?_
  refine hAllOk.c 280 (ok_no) ?_
  refine hAllOk.c 281 (ok_iconst (n := 3) (by decide +kernel) (by decide +kernel) rfl) ?_
  refine hAllOk.c 282 (ok_callV (idx := 44) ⟨wd_t_473, wd_t_1, by decide +kernel, by decide +kernel⟩ rfl rfl wd_t_470 wd_t_471 wd_t_472 (by decide +kernel) rfl) ?_
  refine hAllOk.c 283 (ok_no) ?_
  refine hAllOk.c 284 (ok_no) ?_
  refine hAllOk.c 285 (ok_aload_n (f := 0) rfl (by decide +kernel) rfl) ?_
  refine hAllOk.c 286 (ok_iload (by decide +kernel) rfl) ?_
  refine hAllOk.c 287 (ok_no) ?_
  refine hAllOk.c 288 (ok_iconst (n := 3) (by decide +kernel) (by decide +kernel) rfl) ?_
  refine hAllOk.c 289 (ok_callV (idx := 44) ⟨wd_t_473, wd_t_1, by decide +kernel, by decide +kernel⟩ rfl rfl wd_t_470 wd_t_471 wd_t_472 (by decide +kernel) rfl) ?_
  refine hAllOk.c 290 (ok_no) ?_
  refine hAllOk.c 291 (ok_no) ?_
  refine hAllOk.c 292 (ok_iconst (n := 1) (by decide +kernel) (by decide +kernel) rfl) ?_
  refine hAllOk.c 293 (ok_iadd (by decide +kernel) rfl) ?_
  refine hAllOk.c 294 (ok_icne (off := 46) (by decide +kernel) (by decide +kernel) rfl) ?_
  refine hAllOk.c 295 (ok_no) ?_
  refine hAllOk.c 296 (ok_no) ?_
  refine hAllOk.c 297 (ok_aload_n (f := 0) rfl (by decide +kernel) rfl) ?_
  refine hAllOk.c 298 (ok_iload (by decide +kernel) rfl) ?_
  refine hAllOk.c 299 (ok_no) ?_
  refine hAllOk.c 300 (ok_iconst (n := 4) (by decide +kernel) (by decide +kernel) rfl) ?_
  refine hAllOk.c 301 (ok_callV (idx := 44) ⟨wd_t_473, wd_t_1, by decide +kernel, by decide +kernel⟩ rfl rfl wd_t_470 wd_t_471 wd_t_472 (by decide +kernel) rfl) ?_
  refine hAllOk.c 302 (ok_no) ?_
  refine hAllOk.c 303 (ok_no) ?_
  refine hAllOk.c 304 (ok_aload_n (f := 0) rfl (by decide +kernel) rfl) ?_
  refine hAllOk.c 305 (ok_iload (by decide +kernel) rfl) ?_
  refine hAllOk.c 306 (ok_no) ?_
  refine hAllOk.c 307 (ok_iconst (n := 4) (by decide +kernel) (by decide +kernel) rfl) ?_
  refine hAllOk.c 308 (ok_callV (idx := 44) ⟨wd_t_473, wd_t_1, by decide +kernel, by decide +kernel⟩ rfl rfl wd_t_470 wd_t_471 wd_t_472 (by decide +kernel) rfl) ?_
  refine hAllOk.c 309 (ok_no) ?_
  refine hAllOk.c 310 (ok_no) ?_
  refine hAllOk.c 311 (ok_icne (off := 29) (by decide +kernel) (by decide +kernel) rfl) ?_
  refine hAllOk.c 312 (ok_no) ?_
  refine hAllOk.c 313 (ok_no) ?_
  refine hAllOk.c 314 (ok_goto (off := 22) (by decide +kernel) (by decide +kernel)) ?_
  refine hAllOk.c 315 (ok_no) ?_
  refine hAllOk.c 316 (ok_no) ?_
  refine hAllOk.c 317 (ok_iload (by decide +kernel) rfl) ?_
  refine hAllOk.c 318 (ok_no) ?_
  refine hAllOk.c 319 (ok_bipush (n := -5) (by decide +kernel) (by decide +kernel) rfl) ?_
  refine hAllOk.c 320 (ok_no) ?_
  refine hAllOk.c 321 (ok_icne (off := 19) (by decide +kernel) (by decide +kernel) rfl) ?_
  refine hAllOk.c 322 (ok_no) ?_
  refine hAllOk.c 323 (ok_no) ?_
  refine hAllOk.c 324 (ok_aload_n (f := 0) rfl (by decide +kernel) rfl) ?_
  refine hAllOk.c 325 (ok_iload (by decide +kernel) rfl) ?_
  refine hAllOk.c 326 (ok_no) ?_
  refine hAllOk.c 327 (ok_iconst (n := 1) (by decide +kernel) (by decide +kernel) rfl) ?_
  refine hAllOk.c 328 (ok_callV (idx := 44) ⟨wd_t_473, wd_t_1, by decide +kernel, by decide +kernel⟩ rfl rfl wd_t_470 wd_t_471 wd_t_472 (by decide +kernel) rfl) ?_
  refine hAllOk.c 329 (ok_no) ?_
  refine hAllOk.c 330 (ok_no) ?_
  refine hAllOk.c 331 (ok_bipush (n := -5) (by decide +kernel) (by decide +kernel) rfl) ?_
  refine hAllOk.c 332 (ok_no) ?_
  refine hAllOk.c 333 (ok_icne (off := 7) (by decide +kernel) (by decide +kernel) rfl) ?_
  refine hAllOk.c 334 (ok_no) ?_
  refine hAllOk.c 335 (ok_no) ?_
  refine hAllOk.c 336 (ok_iconst (n := 1) (by decide +kernel) (by decide +kernel) rfl) ?_
  refine hAllOk.c 337 (ok_goto (off := 4) (by decide +kernel) (by decide +kernel)) ?_
  refine hAllOk.c 338 (ok_no) ?_
  refine hAllOk.c 339 (ok_no) ?_
  refine hAllOk.c 340 (ok_iconst (n := 0) (by decide +kernel) (by decide +kernel) rfl) ?_
  refine hAllOk.c 341 (ok_istore (by decide) (by decide +kernel) rfl) ?_
  refine hAllOk.c 342 (ok_no) ?_
  refine hAllOk.c 343 (ok_iconst (n := 0) (by decide +kernel) (by decide +kernel) rfl) ?_
  refine hAllOk.c 344 (ok_istore (by decide) (by decide +kernel) rfl) ?_
  refine hAllOk.c 345 (ok_no) ?_
  refine hAllOk.c 346 (ok_iload (by decide +kernel) rfl) ?_
  refine hAllOk.c 347 (ok_no) ?_
  refine hAllOk.c 348 (ok_iconst (n := 1) (by decide +kernel) (by decide +kernel) rfl) ?_
  refine hAllOk.c 349 (ok_aload_n (f := 0) rfl (by decide +kernel) rfl) ?_
  refine hAllOk.c 350 (ok_iconst (n := 1) (by decide +kernel) (by decide +kernel) rfl) ?_
  refine hAllOk.c 351 (ok_callV (idx := 9) ⟨wd_t_413, wd_t_1, by decide +kernel, by decide +kernel⟩ rfl rfl wd_t_410 wd_t_411 wd_t_412 (by decide +kernel) rfl) ?_
  refine hAllOk.c 352 (ok_no) ?_
  refine hAllOk.c 353 (ok_no) ?_
  refine hAllOk.c 354 (ok_ishl (by decide +kernel) rfl) ?_
  refine hAllOk.c 355 (ok_icge (off := 55) (by decide +kernel) (by decide +kernel) rfl) ?_
  refine hAllOk.c 356 (ok_no) ?_
  refine hAllOk.c 357 (ok_no) ?_
  refine hAllOk.c 358 (ok_iload (by decide +kernel) rfl) ?_
  refine hAllOk.c 359 (ok_no) ?_
  refine hAllOk.c 360 (ok_ifeq (off := 50) (by decide +kernel) (by decide +kernel) rfl) ?_
  refine hAllOk.c 361 (ok_no) ?_
  refine hAllOk.c 362 (ok_no) ?_
  refine hAllOk.c 363 (ok_aload_n (f := 0) rfl (by decide +kernel) rfl) ?_
  refine hAllOk.c 364 (ok_iload (by decide +kernel) rfl) ?_
  refine hAllOk.c 365 (ok_no) ?_
  refine hAllOk.c 366 (ok_iload (by decide +kernel) rfl) ?_
  refine hAllOk.c 367 (ok_no) ?_
  refine hAllOk.c 368 (ok_callV (idx := 30) ⟨wd_t_457, wd_t_1, by decide +kernel, by decide +kernel⟩ rfl rfl wd_t_454 wd_t_455 wd_t_456 (by decide +kernel) rfl) ?_
  refine hAllOk.c 369 (ok_no) ?_
  refine hAllOk.c 370 (ok_no) ?_
  refine hAllOk.c 371 (ok_ifeq (off := 26) (by decide +kernel) (by decide +kernel) rfl) ?_
  refine hAllOk.c 372 (ok_no) ?_
  refine hAllOk.c 373 (ok_no) ?_
  refine hAllOk.c 374 (ok_aload_n (f := 0) rfl (by decide +kernel) rfl) ?_
  refine hAllOk.c 375 (ok_iload (by decide +kernel) rfl) ?_
  refine hAllOk.c 376 (ok_no) ?_
  refine hAllOk.c 377 (ok_iload (by decide +kernel) rfl) ?_
  refine hAllOk.c 378 (ok_no) ?_
  refine hAllOk.c 379 (ok_iconst (n := 1) (by decide +kernel) (by decide +kernel) rfl) ?_
  refine hAllOk.c 380 (ok_iload (by decide +kernel) rfl) ?_
  refine hAllOk.c 381 (ok_no) ?_
  refine hAllOk.c 382 (ok_aload_n (f := 0) rfl (by decide +kernel) rfl) ?_
  refine hAllOk.c 383 (ok_iconst (n := 1) (by decide +kernel) (by decide +kernel) rfl) ?_
  refine hAllOk.c 384 (ok_callV (idx := 9) ⟨wd_t_413, wd_t_1, by decide +kernel, by decide +kernel⟩ rfl rfl wd_t_410 wd_t_411 wd_t_412 (by decide +kernel) rfl) ?_
  refine hAllOk.c 385 (ok_no) ?_
  refine hAllOk.c 386 (ok_no) ?_
  refine hAllOk.c 387 (ok_irem (by decide +kernel) rfl) ?_
  refine hAllOk.c 388 (ok_ishl (by decide +kernel) rfl) ?_
  refine hAllOk.c 389 (ok_ior (by decide +kernel) rfl) ?_
  refine hAllOk.c 390 (ok_callV (idx := 30) ⟨wd_t_457, wd_t_1, by decide +kernel, by decide +kernel⟩ rfl rfl wd_t_454 wd_t_455 wd_t_456 (by decide +kernel) rfl) ?_
  refine hAllOk.c 391 (ok_no) ?_
  refine hAllOk.c 392 (ok_no) ?_
  refine hAllOk.c 393 (ok_iconst (n := 1) (by decide +kernel) (by decide +kernel) rfl) ?_
  refine hAllOk.c 394 (ok_icne (off := 7) (by decide +kernel) (by decide +kernel) rfl) ?_
  refine hAllOk.c 395 (ok_no) ?_
  refine hAllOk.c 396 (ok_no) ?_
  refine hAllOk.c 397 (ok_iconst (n := 1) (by decide +kernel) (by decide +kernel) rfl) ?_
  refine hAllOk.c 398 (ok_goto (off := 4) (by decide +kernel) (by decide +kernel)) ?_
  refine hAllOk.c 399 (ok_no) ?_
  refine hAllOk.c 400 (ok_no) ?_
  refine hAllOk.c 401 (ok_iconst (n := 0) (by decide +kernel) (by decide +kernel) rfl) ?_
  refine hAllOk.c 402 (ok_istore (by decide) (by decide +kernel) rfl) ?_
  refine hAllOk.c 403 (ok_no) ?_
  refine hAllOk.c 404 (ok_iinc (n := 1) (by decide +kernel) (by decide) (by decide +kernel) rfl) ?_
  refine hAllOk.c 405 (ok_no) ?_
  refine hAllOk.c 406 (ok_no) ?_
  refine hAllOk.c 407 (ok_goto (off := (-61)) (by decide +kernel) (by decide +kernel)) ?_
  refine hAllOk.c 408 (ok_no) ?_
  refine hAllOk.c 409 (ok_no) ?_
  refine hAllOk.c 410 (ok_aload_n (f := 0) rfl (by decide +kernel) rfl) ?_
  refine hAllOk.c 411 (ok_iload (by decide +kernel) rfl) ?_
  refine hAllOk.c 412 (ok_no) ?_
  refine hAllOk.c 413 (ok_callV (idx := 53) ⟨wd_t_489, wd_t_1, by decide +kernel, by decide +kernel⟩ rfl rfl wd_t_486 wd_t_487 wd_t_488 (by decide +kernel) rfl) ?_
  refine hAllOk.c 414 (ok_no) ?_
  refine hAllOk.c 415 (ok_no) ?_
  refine hAllOk.c 416 (ok_istore (by decide) (by decide +kernel) rfl) ?_
  refine hAllOk.c 417 (ok_no) ?_
  refine hAllOk.c 418 (ok_iload (by decide +kernel) rfl) ?_
  refine hAllOk.c 419 (ok_no) ?_
  refine hAllOk.c 420 (ok_ifeq (off := 65) (by decide +kernel) (by decide +kernel) rfl) ?_
  refine hAllOk.c 421 (ok_no) ?_
  refine hAllOk.c 422 (ok_no) ?_
  refine hAllOk.c 423 (ok_iload (by decide +kernel) rfl) ?_
  refine hAllOk.c 424 (ok_no) ?_
  refine hAllOk.c 425 (ok_ifge (off := 7) (by decide +kernel) (by decide +kernel) rfl) ?_
  refine hAllOk.c 426 (ok_no) ?_
  refine hAllOk.c 427 (ok_no) ?_
  refine hAllOk.c 428 (ok_iconst (n := 1) (by decide +kernel) (by decide +kernel) rfl) ?_
  refine hAllOk.c 429 (ok_goto (off := 4) (by decide +kernel) (by decide +kernel)) ?_
  refine hAllOk.c 430 (ok_no) ?_
  refine hAllOk.c 431 (ok_no) ?_
  refine hAllOk.c 432 (ok_iconst (n := 0) (by decide +kernel) (by decide +kernel) rfl) ?_
  refine hAllOk.c 433 (ok_aload_n (f := 0) rfl (by decide +kernel) rfl) ?_
  refine hAllOk.c 434 (ok_iload (by decide +kernel) rfl) ?_
  refine hAllOk.c 435 (ok_no) ?_
  refine hAllOk.c 436 (ok_iconst (n := 1) (by decide +kernel) (by decide +kernel) rfl) ?_
  refine hAllOk.c 437 (ok_aload_n (f := 0) rfl (by decide +kernel) rfl) ?_
  refine hAllOk.c 438 (ok_iconst (n := 1) (by decide +kernel) (by decide +kernel) rfl) ?_
  refine hAllOk.c 439 (ok_callV (idx := 9) ⟨wd_t_413, wd_t_1, by decide +kernel, by decide +kernel⟩ rfl rfl wd_t_410 wd_t_411 wd_t_412 (by decide +kernel) rfl) ?_
  refine hAllOk.c 440 (ok_no) ?_
  refine hAllOk.c 441 (ok_no) ?_
  refine hAllOk.c 442 (ok_ishl (by decide +kernel) rfl) ?_
  refine hAllOk.c 443 (ok_iconst (n := 1) (by decide +kernel) (by decide +kernel) rfl) ?_
  refine hAllOk.c 444 (ok_isub (by decide +kernel) rfl) ?_
  refine hAllOk.c 445 (ok_callV (idx := 30) ⟨wd_t_457, wd_t_1, by decide +kernel, by decide +kernel⟩ rfl rfl wd_t_454 wd_t_455 wd_t_456 (by decide +kernel) rfl) ?_
  refine hAllOk.c 446 (ok_no) ?_
  refine hAllOk.c 447 (ok_no) ?_
  refine hAllOk.c 448 (ok_ifne (off := 7) (by decide +kernel) (by decide +kernel) rfl) ?_
  refine hAllOk.c 449 (ok_no) ?_
  refine hAllOk.c 450 (ok_no) ?_
  refine hAllOk.c 451 (ok_iconst (n := 1) (by decide +kernel) (by decide +kernel) rfl) ?_
  refine hAllOk.c 452 (ok_goto (off := 4) (by decide +kernel) (by decide +kernel)) ?_
  refine hAllOk.c 453 (ok_no) ?_
  refine hAllOk.c 454 (ok_no) ?_
  refine hAllOk.c 455 (ok_iconst (n := 0) (by decide +kernel) (by decide +kernel) rfl) ?_
  refine hAllOk.c 456 (ok_icne (off := 29) (by decide +kernel) (by decide +kernel) rfl) ?_
  refine hAllOk.c 457 (ok_no) ?_
  refine hAllOk.c 458 (ok_no) ?_
  refine hAllOk.c 459 (ok_aload_n (f := 0) rfl (by decide +kernel) rfl) ?_
  refine hAllOk.c 460 (ok_iload (by decide +kernel) rfl) ?_
  refine hAllOk.c 461 (ok_no) ?_
  refine hAllOk.c 462 (ok_iconst (n := 4) (by decide +kernel) (by decide +kernel) rfl) ?_
  refine hAllOk.c 463 (ok_callV (idx := 15) ⟨wd_t_451, wd_t_1, by decide +kernel, by decide +kernel⟩ rfl rfl wd_t_448 wd_t_449 wd_t_450 (by decide +kernel) rfl) ?_
  refine hAllOk.c 464 (ok_no) ?_
  refine hAllOk.c 465 (ok_no) ?_
  refine hAllOk.c 466 (ok_iconst (n := 1) (by decide +kernel) (by decide +kernel) rfl) ?_
  refine hAllOk.c 467 (ok_aload_n (f := 0) rfl (by decide +kernel) rfl) ?_
  refine hAllOk.c 468 (ok_iconst (n := 1) (by decide +kernel) (by decide +kernel) rfl) ?_
  refine hAllOk.c 469 (ok_callV (idx := 9) ⟨wd_t_413, wd_t_1, by decide +kernel, by decide +kernel⟩ rfl rfl wd_t_410 wd_t_411 wd_t_412 (by decide +kernel) rfl) ?_
  refine hAllOk.c 470 (ok_no) ?_
  refine hAllOk.c 471 (ok_no) ?_
  refine hAllOk.c 472 (ok_ishl (by decide +kernel) rfl) ?_
  refine hAllOk.c 473 (ok_iconst (n := 1) (by decide +kernel) (by decide +kernel) rfl) ?_
  refine hAllOk.c 474 (ok_isub (by decide +kernel) rfl) ?_
  refine hAllOk.c 475 (ok_iconst (n := -1) (by decide +kernel) (by decide +kernel) rfl) ?_
  refine hAllOk.c 476 (ok_ixor (by decide +kernel) rfl) ?_
  refine hAllOk.c 477 (ok_iand (by decide +kernel) rfl) ?_
  refine hAllOk.c 478 (ok_ifne (off := 7) (by decide +kernel) (by decide +kernel) rfl) ?_
  refine hAllOk.c 479 (ok_no) ?_
  refine hAllOk.c 480 (ok_no) ?_
  refine hAllOk.c 481 (ok_iconst (n := 1) (by decide +kernel) (by decide +kernel) rfl) ?_
  refine hAllOk.c 482 (ok_goto (off := 4) (by decide +kernel) (by decide +kernel)) ?_
  refine hAllOk.c 483 (ok_no) ?_
  refine hAllOk.c 484 (ok_no) ?_
  refine hAllOk.c 485 (ok_iconst (n := 0) (by decide +kernel) (by decide +kernel) rfl) ?_
  refine hAllOk.c 486 (ok_istore (by decide) (by decide +kernel) rfl) ?_
  refine hAllOk.c 487 (ok_no) ?_
  refine hAllOk.c 488 (ok_aload_n (f := 0) rfl (by decide +kernel) rfl) ?_
  refine hAllOk.c 489 (ok_iload (by decide +kernel) rfl) ?_
  refine hAllOk.c 490 (ok_no) ?_
  refine hAllOk.c 491 (ok_callV (idx := 56) ⟨wd_t_494, wd_t_1, by decide +kernel, by decide +kernel⟩ rfl rfl wd_t_491 wd_t_492 wd_t_493 (by decide +kernel) rfl) ?_
  refine hAllOk.c 492 (ok_no) ?_
  refine hAllOk.c 493 (ok_no) ?_
  refine hAllOk.c 494 (ok_istore (by decide) (by decide +kernel) rfl) ?_
  refine hAllOk.c 495 (ok_no) ?_
  refine hAllOk.c 496 (ok_iload (by decide +kernel) rfl) ?_
  refine hAllOk.c 497 (ok_no) ?_
  refine hAllOk.c 498 (ok_ifeq (off := 50) (by decide +kernel) (by decide +kernel) rfl) ?_
  refine hAllOk.c 499 (ok_no) ?_
  refine hAllOk.c 500 (ok_no) ?_
  refine hAllOk.c 501 (ok_aload_n (f := 0) rfl (by decide +kernel) rfl) ?_
  refine hAllOk.c 502 (ok_iload (by decide +kernel) rfl) ?_
  refine hAllOk.c 503 (ok_no) ?_
  refine hAllOk.c 504 (ok_iconst (n := 2) (by decide +kernel) (by decide +kernel) rfl) ?_
  refine hAllOk.c 505 (ok_callV (idx := 15) ⟨wd_t_451, wd_t_1, by decide +kernel, by decide +kernel⟩ rfl rfl wd_t_448 wd_t_449 wd_t_450 (by decide +kernel) rfl) ?_
  refine hAllOk.c 506 (ok_no) ?_
  refine hAllOk.c 507 (ok_no) ?_
  refine hAllOk.c 508 (ok_ifne (off := 13) (by decide +kernel) (by decide +kernel) rfl) ?_
  refine hAllOk.c 509 (ok_no) ?_
  refine hAllOk.c 510 (ok_no) ?_
  refine hAllOk.c 511 (ok_iload (by decide +kernel) rfl) ?_
  refine hAllOk.c 512 (ok_no) ?_
  refine hAllOk.c 513 (ok_bipush (n := -5) (by decide +kernel) (by decide +kernel) rfl) ?_
  refine hAllOk.c 514 (ok_no) ?_
  refine hAllOk.c 515 (ok_icne (off := 33) (by decide +kernel) (by decide +kernel) rfl) ?_
  refine hAllOk.c 516 (ok_no) ?_
  refine hAllOk.c 517 (ok_no) ?_
  refine hAllOk.c 518 (ok_goto (off := 26) (by decide +kernel) (by decide +kernel)) ?_
  refine hAllOk.c 519 (ok_no) ?_
  refine hAllOk.c 520 (ok_no) ?_
  refine hAllOk.c 521 (ok_iload (by decide +kernel) rfl) ?_
  refine hAllOk.c 522 (ok_no) ?_
  refine hAllOk.c 523 (ok_ifne (off := 7) (by decide +kernel) (by decide +kernel) rfl) ?_
  refine hAllOk.c 524 (ok_no) ?_
  refine hAllOk.c 525 (ok_no) ?_
  refine hAllOk.c 526 (ok_iconst (n := 1) (by decide +kernel) (by decide +kernel) rfl) ?_
  refine hAllOk.c 527 (ok_goto (off := 4) (by decide +kernel) (by decide +kernel)) ?_
  refine hAllOk.c 528 (ok_no) ?_
  refine hAllOk.c 529 (ok_no) ?_
  refine hAllOk.c 530 (ok_iconst (n := 0) (by decide +kernel) (by decide +kernel) rfl) ?_
  refine hAllOk.c 531 (ok_iload (by decide +kernel) rfl) ?_
  refine hAllOk.c 532 (ok_no) ?_
  refine hAllOk.c 533 (ok_ifle (off := 7) (by decide +kernel) (by decide +kernel) rfl) ?_
  refine hAllOk.c 534 (ok_no) ?_
  refine hAllOk.c 535 (ok_no) ?_
  refine hAllOk.c 536 (ok_iconst (n := 1) (by decide +kernel) (by decide +kernel) rfl) ?_
  refine hAllOk.c 537 (ok_goto (off := 4) (by decide +kernel) (by decide +kernel)) ?_
  refine hAllOk.c 538 (ok_no) ?_
  refine hAllOk.c 539 (ok_no) ?_
  refine hAllOk.c 540 (ok_iconst (n := 0) (by decide +kernel) (by decide +kernel) rfl) ?_
  refine hAllOk.c 541 (ok_icne (off := 7) (by decide +kernel) (by decide +kernel) rfl) ?_
  refine hAllOk.c 542 (ok_no) ?_
  refine hAllOk.c 543 (ok_no) ?_
  refine hAllOk.c 544 (ok_iconst (n := 1) (by decide +kernel) (by decide +kernel) rfl) ?_
  refine hAllOk.c 545 (ok_goto (off := 4) (by decide +kernel) (by decide +kernel)) ?_
  refine hAllOk.c 546 (ok_no) ?_
  refine hAllOk.c 547 (ok_no) ?_
  refine hAllOk.c 548 (ok_iconst (n := 0) (by decide +kernel) (by decide +kernel) rfl) ?_
  refine hAllOk.c 549 (ok_istore (by decide) (by decide +kernel) rfl) ?_
  refine hAllOk.c 550 (ok_no) ?_
  refine hAllOk.c 551 (ok_iinc (n := 1) (by decide +kernel) (by decide) (by decide +kernel) rfl) ?_
  refine hAllOk.c 552 (ok_no) ?_
  refine hAllOk.c 553 (ok_no) ?_
  refine hAllOk.c 554 (ok_goto (off := (-532)) (by decide +kernel) (by decide +kernel)) ?_
  refine hAllOk.c 555 (ok_no) ?_
  refine hAllOk.c 556 (ok_no) ?_
  refine hAllOk.c 557 (ok_aload_n (f := 0) rfl (by decide +kernel) rfl) ?_
  refine hAllOk.c 558 (ok_iconst (n := 3) (by decide +kernel) (by decide +kernel) rfl) ?_
  refine hAllOk.c 559 (ok_callV (idx := 19) ⟨wd_t_393, wd_t_1, by decide +kernel, by decide +kernel⟩ rfl rfl wd_t_390 wd_t_391 wd_t_392 (by decide +kernel) rfl) ?_
  refine hAllOk.c 560 (ok_no) ?_
  refine hAllOk.c 561 (ok_no) ?_
  refine hAllOk.c 562 (ok_istore (by decide) (by decide +kernel) rfl) ?_
  refine hAllOk.c 563 (ok_no) ?_
  refine hAllOk.c 564 (ok_iload (by decide +kernel) rfl) ?_
  refine hAllOk.c 565 (ok_no) ?_
  refine hAllOk.c 566 (ok_ifeq (off := 83) (by decide +kernel) (by decide +kernel) rfl) ?_
  refine hAllOk.c 567 (ok_no) ?_
  refine hAllOk.c 568 (ok_no) ?_
  refine hAllOk.c 569 (ok_iload_n (f := 2) rfl (by decide +kernel) rfl) ?_
  refine hAllOk.c 570 (ok_aload_n (f := 0) rfl (by decide +kernel) rfl) ?_
  refine hAllOk.c 571 (ok_bipush (n := 9) (by decide +kernel) (by decide +kernel) rfl) ?_
  refine hAllOk.c 572 (ok_no) ?_
  refine hAllOk.c 573 (ok_callV (idx := 9) ⟨wd_t_413, wd_t_1, by decide +kernel, by decide +kernel⟩ rfl rfl wd_t_410 wd_t_411 wd_t_412 (by decide +kernel) rfl) ?_
  refine hAllOk.c 574 (ok_no) ?_
  refine hAllOk.c 575 (ok_no) ?_
  refine hAllOk.c 576 (ok_icne (off := 73) (by decide +kernel) (by decide +kernel) rfl) ?_
  refine hAllOk.c 577 (ok_no) ?_
  refine hAllOk.c 578 (ok_no) ?_
  refine hAllOk.c 579 (ok_iload_n (f := 3) rfl (by decide +kernel) rfl) ?_
  refine hAllOk.c 580 (ok_aload_n (f := 0) rfl (by decide +kernel) rfl) ?_
  refine hAllOk.c 581 (ok_bipush (n := 10) (by decide +kernel) (by decide +kernel) rfl) ?_
  refine hAllOk.c 582 (ok_no) ?_
  refine hAllOk.c 583 (ok_callV (idx := 9) ⟨wd_t_413, wd_t_1, by decide +kernel, by decide +kernel⟩ rfl rfl wd_t_410 wd_t_411 wd_t_412 (by decide +kernel) rfl) ?_
  refine hAllOk.c 584 (ok_no) ?_
  refine hAllOk.c 585 (ok_no) ?_
  refine hAllOk.c 586 (ok_icne (off := 63) (by decide +kernel) (by decide +kernel) rfl) ?_
  refine hAllOk.c 587 (ok_no) ?_
  refine hAllOk.c 588 (ok_no) ?_
  refine hAllOk.c 589 (ok_iload (by decide +kernel) rfl) ?_
  refine hAllOk.c 590 (ok_no) ?_
  refine hAllOk.c 591 (ok_aload_n (f := 0) rfl (by decide +kernel) rfl) ?_
  refine hAllOk.c 592 (ok_bipush (n := 14) (by decide +kernel) (by decide +kernel) rfl) ?_
  refine hAllOk.c 593 (ok_no) ?_
  refine hAllOk.c 594 (ok_callV (idx := 9) ⟨wd_t_413, wd_t_1, by decide +kernel, by decide +kernel⟩ rfl rfl wd_t_410 wd_t_411 wd_t_412 (by decide +kernel) rfl) ?_
  refine hAllOk.c 595 (ok_no) ?_
  refine hAllOk.c 596 (ok_no) ?_
  refine hAllOk.c 597 (ok_icne (off := 52) (by decide +kernel) (by decide +kernel) rfl) ?_
  refine hAllOk.c 598 (ok_no) ?_
  refine hAllOk.c 599 (ok_no) ?_
  refine hAllOk.c 600 (ok_iload_n (f := 3) rfl (by decide +kernel) rfl) ?_
  refine hAllOk.c 601 (ok_iload_n (f := 2) rfl (by decide +kernel) rfl) ?_
  refine hAllOk.c 602 (ok_icgt (off := 47) (by decide +kernel) (by decide +kernel) rfl) ?_
  refine hAllOk.c 603 (ok_no) ?_
  refine hAllOk.c 604 (ok_no) ?_
  refine hAllOk.c 605 (ok_aload_n (f := 0) rfl (by decide +kernel) rfl) ?_
  refine hAllOk.c 606 (ok_bipush (n := 8) (by decide +kernel) (by decide +kernel) rfl) ?_
  refine hAllOk.c 607 (ok_no) ?_
  refine hAllOk.c 608 (ok_callV (idx := 9) ⟨wd_t_413, wd_t_1, by decide +kernel, by decide +kernel⟩ rfl rfl wd_t_410 wd_t_411 wd_t_412 (by decide +kernel) rfl) ?_
  refine hAllOk.c 609 (ok_no) ?_
  refine hAllOk.c 610 (ok_no) ?_
  refine hAllOk.c 611 (ok_iconst (n := 1) (by decide +kernel) (by decide +kernel) rfl) ?_
  refine hAllOk.c 612 (ok_icne (off := 7) (by decide +kernel) (by decide +kernel) rfl) ?_
  refine hAllOk.c 613 (ok_no) ?_
  refine hAllOk.c 614 (ok_no) ?_
  refine hAllOk.c 615 (ok_iconst (n := 1) (by decide +kernel) (by decide +kernel) rfl) ?_
  refine hAllOk.c 616 (ok_goto (off := 4) (by decide +kernel) (by decide +kernel)) ?_
  refine hAllOk.c 617 (ok_no) ?_
  refine hAllOk.c 618 (ok_no) ?_
  refine hAllOk.c 619 (ok_iconst (n := 0) (by decide +kernel) (by decide +kernel) rfl) ?_
  refine hAllOk.c 620 (ok_iload (by decide +kernel) rfl) ?_
  refine hAllOk.c 621 (ok_no) ?_
  refine hAllOk.c 622 (ok_iflt (off := 7) (by decide +kernel) (by decide +kernel) rfl) ?_
  refine hAllOk.c 623 (ok_no) ?_
  refine hAllOk.c 624 (ok_no) ?_
  refine hAllOk.c 625 (ok_iconst (n := 1) (by decide +kernel) (by decide +kernel) rfl) ?_
  refine hAllOk.c 626 (ok_goto (off := 4) (by decide +kernel) (by decide +kernel)) ?_
  refine hAllOk.c 627 (ok_no) ?_
  refine hAllOk.c 628 (ok_no) ?_
  refine hAllOk.c 629 (ok_iconst (n := 0) (by decide +kernel) (by decide +kernel) rfl) ?_
  refine hAllOk.c 630 (ok_icne (off := 19) (by decide +kernel) (by decide +kernel) rfl) ?_
  refine hAllOk.c 631 (ok_no) ?_
  refine hAllOk.c 632 (ok_no) ?_
  refine hAllOk.c 633 (ok_iload (by decide +kernel) rfl) ?_
  refine hAllOk.c 634 (ok_no) ?_
  refine hAllOk.c 635 (ok_iflt (off := 10) (by decide +kernel) (by decide +kernel) rfl) ?_
  refine hAllOk.c 636 (ok_no) ?_
  refine hAllOk.c 637 (ok_no) ?_
  refine hAllOk.c 638 (ok_iload (by decide +kernel) rfl) ?_
  refine hAllOk.c 639 (ok_no) ?_
  refine hAllOk.c 640 (ok_iload (by decide +kernel) rfl) ?_
  refine hAllOk.c 641 (ok_no) ?_
  refine hAllOk.c 642 (ok_icne (off := 7) (by decide +kernel) (by decide +kernel) rfl) ?_
  refine hAllOk.c 643 (ok_no) ?_
  refine hAllOk.c 644 (ok_no) ?_
  refine hAllOk.c 645 (ok_iconst (n := 1) (by decide +kernel) (by decide +kernel) rfl) ?_
  refine hAllOk.c 646 (ok_goto (off := 4) (by decide +kernel) (by decide +kernel)) ?_
  refine hAllOk.c 647 (ok_no) ?_
  refine hAllOk.c 648 (ok_no) ?_
  refine hAllOk.c 649 (ok_iconst (n := 0) (by decide +kernel) (by decide +kernel) rfl) ?_
  refine hAllOk.c 650 (ok_ireturn (by decide +kernel)) ?_
  trivial
