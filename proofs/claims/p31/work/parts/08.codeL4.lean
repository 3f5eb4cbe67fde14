theorem wd_t_498 : Cond.methodLink RL 69 yL_condition ∈ hTb := hTb_t (List.mem_of_getElem? (i := 498) (by decide +kernel)) (by decide +kernel)
set_option maxRecDepth 100000 in
theorem wd_t_500 : Cond.code yL_condition method_7_code 7 (some .boolean) ∈ hTb := hTb_t (List.mem_of_getElem? (i := 500) rfl) (by decide +kernel)
theorem wd_t_499 : Cond.static yL_condition ∈ hTb := hTb_t (List.mem_of_getElem? (i := 499) (by decide +kernel)) (by decide +kernel)
theorem wd_t_577 : Cond.methodLink RL 73 yX5_leastLimit ∈ hTb := hTb_t (List.mem_of_getElem? (i := 577) (by decide +kernel)) (by decide +kernel)
theorem wd_t_580 : Cond.code yX5_leastLimit prog_1_method_27_code 4 (some .int) ∈ hTb := hTb_t (List.mem_of_getElem? (i := 580) (by decide +kernel)) (by decide +kernel)
theorem wd_t_578 : Cond.instanceMethod yX5_leastLimit ∈ hTb := hTb_t (List.mem_of_getElem? (i := 578) (by decide +kernel)) (by decide +kernel)
theorem wd_t_579 : Cond.selects RX5 yX5_leastLimit yX5_leastLimit ∈ hTb := hTb_t (List.mem_of_getElem? (i := 579) (by decide +kernel)) (by decide +kernel)
theorem wd_t_581 : Cond.methodLink RL 76 yX5_setLimit ∈ hTb := hTb_t (List.mem_of_getElem? (i := 581) (by decide +kernel)) (by decide +kernel)
theorem wd_t_584 : Cond.code yX5_setLimit prog_1_method_4_code 5 (some .int) ∈ hTb := hTb_t (List.mem_of_getElem? (i := 584) (by decide +kernel)) (by decide +kernel)
theorem wd_t_582 : Cond.instanceMethod yX5_setLimit ∈ hTb := hTb_t (List.mem_of_getElem? (i := 582) (by decide +kernel)) (by decide +kernel)
theorem wd_t_583 : Cond.selects RX5 yX5_setLimit yX5_setLimit ∈ hTb := hTb_t (List.mem_of_getElem? (i := 583) (by decide +kernel)) (by decide +kernel)
theorem wd_t_585 : Cond.methodLink RL 79 yX5_invite ∈ hTb := hTb_t (List.mem_of_getElem? (i := 585) (by decide +kernel)) (by decide +kernel)
theorem wd_t_588 : Cond.code yX5_invite prog_1_method_6_code 4 (some .int) ∈ hTb := hTb_t (List.mem_of_getElem? (i := 588) (by decide +kernel)) (by decide +kernel)
theorem wd_t_586 : Cond.instanceMethod yX5_invite ∈ hTb := hTb_t (List.mem_of_getElem? (i := 586) (by decide +kernel)) (by decide +kernel)
theorem wd_t_587 : Cond.selects RX5 yX5_invite yX5_invite ∈ hTb := hTb_t (List.mem_of_getElem? (i := 587) (by decide +kernel)) (by decide +kernel)
theorem wd_t_274 : Cond.methodLink RL 83 yX5_pass ∈ hTb := hTb_t (List.mem_of_getElem? (i := 274) (by decide +kernel)) (by decide +kernel)
theorem wd_t_277 : Cond.code yX5_pass prog_1_method_8_code 2 (some .int) ∈ hTb := hTb_t (List.mem_of_getElem? (i := 277) (by decide +kernel)) (by decide +kernel)
theorem wd_t_275 : Cond.instanceMethod yX5_pass ∈ hTb := hTb_t (List.mem_of_getElem? (i := 275) (by decide +kernel)) (by decide +kernel)
theorem wd_t_276 : Cond.selects RX5 yX5_pass yX5_pass ∈ hTb := hTb_t (List.mem_of_getElem? (i := 276) (by decide +kernel)) (by decide +kernel)
theorem wd_t_266 : Cond.methodLink RL 86 yX5_set ∈ hTb := hTb_t (List.mem_of_getElem? (i := 266) (by decide +kernel)) (by decide +kernel)
theorem wd_t_269 : Cond.code yX5_set prog_1_method_7_code 4 (some .int) ∈ hTb := hTb_t (List.mem_of_getElem? (i := 269) (by decide +kernel)) (by decide +kernel)
theorem wd_t_267 : Cond.instanceMethod yX5_set ∈ hTb := hTb_t (List.mem_of_getElem? (i := 267) (by decide +kernel)) (by decide +kernel)
theorem wd_t_268 : Cond.selects RX5 yX5_set yX5_set ∈ hTb := hTb_t (List.mem_of_getElem? (i := 268) (by decide +kernel)) (by decide +kernel)
theorem wd_t_278 : Cond.methodLink RL 89 yX5_fix ∈ hTb := hTb_t (List.mem_of_getElem? (i := 278) (by decide +kernel)) (by decide +kernel)
theorem wd_t_281 : Cond.code yX5_fix prog_1_method_9_code 2 (some .int) ∈ hTb := hTb_t (List.mem_of_getElem? (i := 281) (by decide +kernel)) (by decide +kernel)
theorem wd_t_279 : Cond.instanceMethod yX5_fix ∈ hTb := hTb_t (List.mem_of_getElem? (i := 279) (by decide +kernel)) (by decide +kernel)
theorem wd_t_280 : Cond.selects RX5 yX5_fix yX5_fix ∈ hTb := hTb_t (List.mem_of_getElem? (i := 280) (by decide +kernel)) (by decide +kernel)
theorem wd_t_589 : Cond.methodLink RL 92 yX5_cancel ∈ hTb := hTb_t (List.mem_of_getElem? (i := 589) (by decide +kernel)) (by decide +kernel)
theorem wd_t_592 : Cond.code yX5_cancel prog_1_method_10_code 2 (some .int) ∈ hTb := hTb_t (List.mem_of_getElem? (i := 592) (by decide +kernel)) (by decide +kernel)
theorem wd_t_590 : Cond.instanceMethod yX5_cancel ∈ hTb := hTb_t (List.mem_of_getElem? (i := 590) (by decide +kernel)) (by decide +kernel)
theorem wd_t_591 : Cond.selects RX5 yX5_cancel yX5_cancel ∈ hTb := hTb_t (List.mem_of_getElem? (i := 591) (by decide +kernel)) (by decide +kernel)
theorem wd_t_605 : Cond.methodLink RL 95 yX5_setWeight ∈ hTb := hTb_t (List.mem_of_getElem? (i := 605) (by decide +kernel)) (by decide +kernel)
theorem wd_t_608 : Cond.code yX5_setWeight prog_1_method_5_code 5 (some .int) ∈ hTb := hTb_t (List.mem_of_getElem? (i := 608) (by decide +kernel)) (by decide +kernel)
theorem wd_t_606 : Cond.instanceMethod yX5_setWeight ∈ hTb := hTb_t (List.mem_of_getElem? (i := 606) (by decide +kernel)) (by decide +kernel)
theorem wd_t_607 : Cond.selects RX5 yX5_setWeight yX5_setWeight ∈ hTb := hTb_t (List.mem_of_getElem? (i := 607) (by decide +kernel)) (by decide +kernel)
theorem wd_t_609 : Cond.methodLink RL 98 yX5_dissolve ∈ hTb := hTb_t (List.mem_of_getElem? (i := 609) (by decide +kernel)) (by decide +kernel)
theorem wd_t_612 : Cond.code yX5_dissolve prog_1_method_11_code 1 (some .int) ∈ hTb := hTb_t (List.mem_of_getElem? (i := 612) (by decide +kernel)) (by decide +kernel)
theorem wd_t_610 : Cond.instanceMethod yX5_dissolve ∈ hTb := hTb_t (List.mem_of_getElem? (i := 610) (by decide +kernel)) (by decide +kernel)
theorem wd_t_611 : Cond.selects RX5 yX5_dissolve yX5_dissolve ∈ hTb := hTb_t (List.mem_of_getElem? (i := 611) (by decide +kernel)) (by decide +kernel)
def M_La_acts : hM := (yL_acts, method_8_code, 13, (some .boolean), 9, 204)
def code_La_acts (K : hK) (B : Nat × Nat) (Q : hPost) : List hSem := [x_iload 1 1, x_const 2 (3), x_ishr 3, x_istore 4 2, x_iload 5 2, x_aload 6 0, x_const 7 (1), x_callV K 10 M_Pa_count 5 1, x_no, x_no, x_irem 11, x_istore 12 3, x_aload 13 0, x_const 15 (8), x_no, x_callV K 18 M_Pa_count 5 1, x_no, x_no, x_const 19 (1), x_icne 26 22, x_no, x_no, x_const 23 (1), x_goto 27, x_no, x_no, x_const 27 (0), x_istore 29 4, x_no, x_aload 30 0, x_const 31 (3), x_callV K 34 M_Pa_company 5 1, x_no, x_no, x_istore 36 5, x_no, x_iload 37 1, x_const 39 (7), x_no, x_iand 40, x_tab 624 [(0, 84), (1, 84), (2, 93), (3, 192), (4, 304), (5, 380), (6, 532)], x_no, x_no, x_no, x_no, x_no, x_no, x_no, x_no, x_no, x_no, x_no, x_no, x_no, x_no, x_no, x_no, x_no, x_no, x_no, x_no, x_no, x_no, x_no, x_no, x_no, x_no, x_no, x_no, x_no, x_no, x_no, x_no, x_no, x_no, x_no, x_no, x_no, x_no, x_no, x_no, x_no, x_no, x_no, x_aload 85 0, x_iload 86 3, x_iload 87 2, x_const 88 (3), x_ishr 89, x_callS K 92 M_La_condition 3, x_no, x_no, x_ireturn (some .boolean) Q, x_aload 94 0, x_iload 95 3, x_const 96 (0), x_callV K 99 M_Pa_guest 5 2, x_no, x_no, x_istore 101 6, x_no, x_aload 102 0, x_iload 103 3, x_callV K 106 M_Pa_leastLimit 5 1, x_no, x_no, x_istore 108 7, x_no, x_iload 110 7, x_no, x_iflt 186 113, x_no, x_no, x_iload 115 4, x_no, x_ifne 186 118, x_no, x_no, x_aload 119 0, x_iload 120 3, x_iload 122 7, x_no, x_callV K 125 M_Pa_setLimit 5 2, x_no, x_no, x_const 127 (-4), x_no, x_iceq 190 130, x_no, x_no, x_aload 131 0, x_const 132 (0), x_callV K 135 M_Pa_company 5 1, x_no, x_no, x_iload 136 3, x_ishr 137, x_const 138 (1), x_iand 139, x_const 140 (1), x_icne 190 143, x_no, x_no, x_iload 145 7, x_no, x_ifeq 174 148, x_no, x_no, x_aload 149 0, x_iload 150 3, x_iload 152 7, x_no, x_const 153 (1), x_isub 154, x_callV K 157 M_Pa_setLimit 5 2, x_no, x_no, x_iload 159 7, x_no, x_icne 190 162, x_no, x_no, x_aload 163 0, x_const 164 (0), x_callV K 167 M_Pa_company 5 1, x_no, x_no, x_iload 168 3, x_ishr 169, x_const 170 (1), x_iand 171, x_ifne 190 174, x_no, x_no, x_aload 175 0, x_iload 176 3, x_iload 178 6, x_no, x_callV K 181 M_Pa_setLimit 5 2, x_no, x_no, x_const 183 (-5), x_no, x_iclt 190 186, x_no, x_no, x_const 187 (1), x_goto 191, x_no, x_no, x_const 191 (0), x_ireturn (some .boolean) Q, x_aload 193 0, x_iload 194 3, x_const 195 (2), x_callV K 198 M_Pa_guest 5 2, x_no, x_no, x_const 199 (1), x_icne 206 202, x_no, x_no, x_const 203 (1), x_goto 207, x_no, x_no, x_const 207 (0), x_istore 209 8, x_no, x_iload 211 4, x_no, x_ifeq 242 214, x_no, x_no, x_aload 215 0, x_iload 216 3, x_iload 218 8, x_no, x_ifne 225 221, x_no, x_no, x_const 222 (1), x_goto 226, x_no, x_no, x_const 226 (0), x_callV K 229 M_Pa_invite 5 2, x_no, x_no, x_const 231 (-4), x_no, x_icne 238 234, x_no, x_no, x_const 235 (1), x_goto 303, x_no, x_no, x_const 239 (0), x_goto 303, x_no, x_no, x_iload 243 2, x_const 244 (4), x_ishr 245, x_const 246 (3), x_iand 247, x_ifle 255 250, x_no, x_no, x_iload 252 8, x_no, x_ifne 298 255, x_no, x_no, x_aload 256 0, x_iload 257 3, x_iload 259 8, x_no, x_ifne 266 262, x_no, x_no, x_const 263 (1), x_goto 267, x_no, x_no, x_const 267 (0), x_callV K 270 M_Pa_invite 5 2, x_no, x_no, x_aload 271 0, x_const 272 (2), x_callV K 275 M_Pa_count 5 1, x_no, x_no, x_icne 302 278, x_no, x_no, x_aload 279 0, x_iload 280 3, x_iload 282 8, x_no, x_ifne 289 285, x_no, x_no, x_const 286 (1), x_goto 290, x_no, x_no, x_const 290 (0), x_callV K 293 M_Pa_invite 5 2, x_no, x_no, x_const 295 (-5), x_no, x_icne 302 298, x_no, x_no, x_const 299 (1), x_goto 303, x_no, x_no, x_const 303 (0), x_ireturn (some .boolean) Q, x_iload 306 4, x_no, x_ifne 315 309, x_no, x_no, x_iload 310 2, x_const 311 (1), x_iand 312, x_ifne 335 315, x_no, x_no, x_aload 316 0, x_const 317 (1), x_iload 318 2, x_const 319 (5), x_irem 320, x_iadd 321, x_callV K 324 M_Pa_pass 5 1, x_no, x_no, x_ifle 331 327, x_no, x_no, x_const 328 (1), x_goto 379, x_no, x_no, x_const 332 (0), x_goto 379, x_no, x_no, x_aload 336 0, x_const 337 (2), x_const 338 (1), x_iload 339 2, x_const 340 (2), x_ishr 341, x_const 343 (12), x_no, x_irem 344, x_iadd 345, x_callV K 348 M_Pa_set 5 2, x_no, x_no, x_const 350 (-5), x_no, x_iclt 378 353, x_no, x_no, x_aload 354 0, x_const 355 (0), x_const 358 (500), x_no, x_no, x_iload 359 2, x_const 360 (2), x_ishr 361, x_const 364 (9000), x_no, x_no, x_irem 365, x_iadd 366, x_callV K 369 M_Pa_set 5 2, x_no, x_no, x_const 371 (-5), x_no, x_iclt 378 374, x_no, x_no, x_const 375 (1), x_goto 379, x_no, x_no, x_const 379 (0), x_ireturn (some .boolean) Q, x_aload 381 0, x_const 382 (1), x_callV K 385 M_Pa_company 5 1, x_no, x_no, x_istore 387 9, x_no, x_iload 389 9, x_no, x_callS K 392 M_La_ones 1, x_no, x_no, x_ifne 399 395, x_no, x_no, x_const 396 (0), x_goto 414, x_no, x_no, x_iload 401 9, x_no, x_callS K 404 M_La_ones 1, x_no, x_no, x_aload 405 0, x_iload 407 9, x_no, x_callS K 410 M_La_ones 1, x_no, x_no, x_callV K 413 M_Pa_fee 5 1, x_no, x_no, x_imul 414, x_istore 416 10, x_no, x_const 417 (0), x_istore 419 11, x_no, x_iload 421 11, x_no, x_aload 422 0, x_const 423 (1), x_callV K 426 M_Pa_count 5 1, x_no, x_no, x_icge 455 429, x_no, x_no, x_iload 431 10, x_no, x_iload 433 9, x_no, x_iload 435 11, x_no, x_ishr 436, x_const 437 (1), x_iand 438, x_aload 439 0, x_iload 441 11, x_no, x_const 442 (3), x_callV K 445 M_Pa_guest 5 2, x_no, x_no, x_imul 446, x_iadd 447, x_istore 449 10, x_no, x_iinc 452 11 (1), x_no, x_no, x_goto 419, x_no, x_no, x_iload 457 4, x_no, x_ifeq 477 460, x_no, x_no, x_aload 461 0, x_callV K 464 M_Pa_fix 5 0, x_no, x_no, x_const 466 (-4), x_no, x_icne 473 469, x_no, x_no, x_const 470 (1), x_goto 531, x_no, x_no, x_const 474 (0), x_goto 531, x_no, x_no, x_iload 479 9, x_no, x_ifne 499 482, x_no, x_no, x_aload 483 0, x_callV K 486 M_Pa_fix 5 0, x_no, x_no, x_const 488 (-5), x_no, x_icne 495 491, x_no, x_no, x_const 492 (1), x_goto 531, x_no, x_no, x_const 496 (0), x_goto 531, x_no, x_no, x_aload 500 0, x_callV K 503 M_Pa_fix 5 0, x_no, x_no, x_iload 505 10, x_no, x_icne 530 508, x_no, x_no, x_aload 509 0, x_const 510 (3), x_callV K 513 M_Pa_company 5 1, x_no, x_no, x_iload 515 9, x_no, x_icne 530 518, x_no, x_no, x_aload 519 0, x_const 520 (0), x_callV K 523 M_Pa_seat 5 1, x_no, x_no, x_iflt 530 526, x_no, x_no, x_const 527 (1), x_goto 531, x_no, x_no, x_const 531 (0), x_ireturn (some .boolean) Q, x_iload 534 4, x_no, x_ifeq 551 537, x_no, x_no, x_iload 539 5, x_no, x_iload 540 3, x_ishr 541, x_const 542 (1), x_iand 543, x_const 544 (1), x_icne 551 547, x_no, x_no, x_const 548 (1), x_goto 552, x_no, x_no, x_const 552 (0), x_istore 554 11, x_no, x_aload 555 0, x_iload 556 3, x_callV K 559 M_Pa_cancel 5 1, x_no, x_no, x_istore 561 12, x_no, x_iload 563 11, x_no, x_ifeq 611 566, x_no, x_no, x_iload 568 12, x_no, x_const 569 (1), x_iclt 607 572, x_no, x_no, x_aload 573 0, x_const 574 (3), x_callV K 577 M_Pa_company 5 1, x_no, x_no, x_callS K 580 M_La_ones 1, x_no, x_no, x_iload 582 5, x_no, x_callS K 585 M_La_ones 1, x_no, x_no, x_iload 587 12, x_no, x_isub 588, x_icne 607 591, x_no, x_no, x_aload 592 0, x_iload 593 3, x_const 595 (7), x_no, x_callV K 598 M_Pa_guest 5 2, x_no, x_no, x_const 600 (-5), x_no, x_icne 607 603, x_no, x_no, x_const 604 (1), x_goto 623, x_no, x_no, x_const 608 (0), x_goto 623, x_no, x_no, x_iload 613 12, x_no, x_const 615 (-4), x_no, x_icne 622 618, x_no, x_no, x_const 619 (1), x_goto 623, x_no, x_no, x_const 623 (0), x_ireturn (some .boolean) Q, x_iload 625 2, x_const 626 (3), x_iand 627, x_ifle 656 630, x_no, x_no, x_aload 631 0, x_iload 632 3, x_const 633 (1), x_iload 634 2, x_const 635 (4), x_ishr 636, x_const 638 (9), x_no, x_irem 639, x_iadd 640, x_callV K 643 M_Pa_setWeight 5 2, x_no, x_no, x_const 645 (-2), x_no, x_iceq 652 648, x_no, x_no, x_const 649 (1), x_goto 705, x_no, x_no, x_const 653 (0), x_goto 705, x_no, x_no, x_iload 658 4, x_no, x_ifeq 691 661, x_no, x_no, x_aload 662 0, x_callV K 665 M_Pa_dissolve 5 0, x_no, x_no, x_iload 667 5, x_no, x_callS K 670 M_La_ones 1, x_no, x_no, x_icne 687 673, x_no, x_no, x_aload 674 0, x_const 675 (3), x_callV K 678 M_Pa_company 5 1, x_no, x_no, x_const 680 (-5), x_no, x_icne 687 683, x_no, x_no, x_const 684 (1), x_goto 705, x_no, x_no, x_const 688 (0), x_goto 705, x_no, x_no, x_aload 692 0, x_callV K 695 M_Pa_dissolve 5 0, x_no, x_no, x_const 697 (-4), x_no, x_icne 704 700, x_no, x_no, x_const 701 (1), x_goto 705, x_no, x_no, x_const 705 (0), x_ireturn (some .boolean) Q]
set_option maxRecDepth 100000 in
set_option maxHeartbeats 4000000 in
theorem okc_La_acts (K : hK) (B : Nat × Nat) (Q : hPost) : hAllOk (hJ K M_La_acts B Q) 0 (code_La_acts K B Q) := by
  refine hAllOk.c 0 (ok_iload_n (f := 1) rfl (by decide +kernel) rfl) ?_
  refine hAllOk.c 1 (ok_iconst (n := 3) (by decide +kernel) (by decide +kernel) rfl) ?_
  refine hAllOk.c 2 (ok_ishr (by decide +kernel) rfl) ?_
  refine hAllOk.c 3 (ok_istore_n (f := 2) rfl (by decide) (by decide +kernel) rfl) ?_
  refine hAllOk.c 4 (ok_iload_n (f := 2) rfl (by decide +kernel) rfl) ?_
  refine hAllOk.c 5 (ok_aload_n (f := 0) rfl (by decide +kernel) rfl) ?_
  refine hAllOk.c 6 (ok_iconst (n := 1) (by decide +kernel) (by decide +kernel) rfl) ?_
  refine hAllOk.c 7 (ok_callV (idx := 9) ⟨wd_t_413, wd_t_1, by decide +kernel, by decide +kernel⟩ rfl rfl wd_t_410 wd_t_411 wd_t_412 (by decide +kernel) rfl) ?_
  refine hAllOk.c 8 (ok_no) ?_
  refine hAllOk.c 9 (ok_no) ?_
  refine hAllOk.c 10 (ok_irem (by decide +kernel) rfl) ?_
  refine hAllOk.c 11 (ok_istore_n (f := 3) rfl (by decide) (by decide +kernel) rfl) ?_
  refine hAllOk.c 12 (ok_aload_n (f := 0) rfl (by decide +kernel) rfl) ?_
  refine hAllOk.c 13 (ok_bipush (n := 8) (by decide +kernel) (by decide +kernel) rfl) ?_
  refine hAllOk.c 14 (ok_no) ?_
  refine hAllOk.c 15 (ok_callV (idx := 9) ⟨wd_t_413, wd_t_1, by decide +kernel, by decide +kernel⟩ rfl rfl wd_t_410 wd_t_411 wd_t_412 (by decide +kernel) rfl) ?_
  refine hAllOk.c 16 (ok_no) ?_
  refine hAllOk.c 17 (ok_no) ?_
  refine hAllOk.c 18 (ok_iconst (n := 1) (by decide +kernel) (by decide +kernel) rfl) ?_
  refine hAllOk.c 19 (ok_icne (off := 7) (by decide +kernel) (by decide +kernel) rfl) ?_
  refine hAllOk.c 20 (ok_no) ?_
  refine hAllOk.c 21 (ok_no) ?_
  refine hAllOk.c 22 (ok_iconst (n := 1) (by decide +kernel) (by decide +kernel) rfl) ?_
  refine hAllOk.c 23 (ok_goto (off := 4) (by decide +kernel) (by decide +kernel)) ?_
  refine hAllOk.c 24 (ok_no) ?_
  refine hAllOk.c 25 (ok_no) ?_
  refine hAllOk.c 26 (ok_iconst (n := 0) (by decide +kernel) (by decide +kernel) rfl) ?_
  refine hAllOk.c 27 (ok_istore (by decide) (by decide +kernel) rfl) ?_
  refine hAllOk.c 28 (ok_no) ?_
  refine hAllOk.c 29 (ok_aload_n (f := 0) rfl (by decide +kernel) rfl) ?_
  refine hAllOk.c 30 (ok_iconst (n := 3) (by decide +kernel) (by decide +kernel) rfl) ?_
  refine hAllOk.c 31 (ok_callV (idx := 19) ⟨wd_t_393, wd_t_1, by decide +kernel, by decide +kernel⟩ rfl rfl wd_t_390 wd_t_391 wd_t_392 (by decide +kernel) rfl) ?_
  refine hAllOk.c 32 (ok_no) ?_
  refine hAllOk.c 33 (ok_no) ?_
  refine hAllOk.c 34 (ok_istore (by decide) (by decide +kernel) rfl) ?_
  refine hAllOk.c 35 (ok_no) ?_
  refine hAllOk.c 36 (ok_iload_n (f := 1) rfl (by decide +kernel) rfl) ?_
  refine hAllOk.c 37 (ok_bipush (n := 7) (by decide +kernel) (by decide +kernel) rfl) ?_
  refine hAllOk.c 38 (ok_no) ?_
  refine hAllOk.c 39 (ok_iand (by decide +kernel) rfl) ?_
  refine hAllOk.c 40 (ok_tab (dflt := 584) (lo := 0) (hi := 6) (offs := #[44, 44, 53, 152, 264, 340, 492]) (len := 44) (by decide +kernel) (by decide +kernel) (by decide +kernel) (by decide +kernel)) ?_
  refine hAllOk.c 41 (ok_no) ?_
  refine hAllOk.c 42 (ok_no) ?_
  refine hAllOk.c 43 (ok_no) ?_
  refine hAllOk.c 44 (ok_no) ?_
  refine hAllOk.c 45 (ok_no) ?_
  refine hAllOk.c 46 (ok_no) ?_
  refine hAllOk.c 47 (ok_no) ?_
  refine hAllOk.c 48 (ok_no) ?_
  refine hAllOk.c 49 (ok_no) ?_
  refine hAllOk.c 50 (ok_no) ?_
  refine hAllOk.c 51 (ok_no) ?_
  refine hAllOk.c 52 (ok_no) ?_
  refine hAllOk.c 53 (ok_no) ?_
  refine hAllOk.c 54 (ok_no) ?_
  refine hAllOk.c 55 (ok_no) ?_
  refine hAllOk.c 56 (ok_no) ?_
  refine hAllOk.c 57 (ok_no) ?_
  refine hAllOk.c 58 (ok_no) ?_
  refine hAllOk.c 59 (ok_no) ?_
  refine hAllOk.c 60 (ok_no) ?_
  refine hAllOk.c 61 (ok_no) ?_
  refine hAllOk.c 62 (ok_no) ?_
  refine hAllOk.c 63 (ok_no) ?_
  refine hAllOk.c 64 (ok_no) ?_
  refine hAllOk.c 65 (ok_no) ?_
  refine hAllOk.c 66 (ok_no) ?_
  refine hAllOk.c 67 (ok_no) ?_
  refine hAllOk.c 68 (ok_no) ?_
  refine hAllOk.c 69 (ok_no) ?_
  refine hAllOk.c 70 (ok_no) ?_
  refine hAllOk.c 71 (ok_no) ?_
  refine hAllOk.c 72 (ok_no) ?_
  refine hAllOk.c 73 (ok_no) ?_
  refine hAllOk.c 74 (ok_no) ?_
  refine hAllOk.c 75 (ok_no) ?_
  refine hAllOk.c 76 (ok_no) ?_
  refine hAllOk.c 77 (ok_no) ?_
  refine hAllOk.c 78 (ok_no) ?_
  refine hAllOk.c 79 (ok_no) ?_
  refine hAllOk.c 80 (ok_no) ?_
  refine hAllOk.c 81 (ok_no) ?_
  refine hAllOk.c 82 (ok_no) ?_
  refine hAllOk.c 83 (ok_no) ?_
  refine hAllOk.c 84 (ok_aload_n (f := 0) rfl (by decide +kernel) rfl) ?_
  refine hAllOk.c 85 (ok_iload_n (f := 3) rfl (by decide +kernel) rfl) ?_
  refine hAllOk.c 86 (ok_iload_n (f := 2) rfl (by decide +kernel) rfl) ?_
  refine hAllOk.c 87 (ok_iconst (n := 3) (by decide +kernel) (by decide +kernel) rfl) ?_
  refine hAllOk.c 88 (ok_ishr (by decide +kernel) rfl) ?_
  refine hAllOk.c 89 (ok_callS (idx := 69) ⟨wd_t_500, wd_t_0, by decide +kernel, by decide +kernel⟩ wd_t_498 wd_t_499 (by decide +kernel) rfl) ?_
  refine hAllOk.c 90 (ok_no) ?_
  refine hAllOk.c 91 (ok_no) ?_
  refine hAllOk.c 92 (ok_ireturn (by decide +kernel)) ?_
  refine hAllOk.c 93 (ok_aload_n (f := 0) rfl (by decide +kernel) rfl) ?_
  refine hAllOk.c 94 (ok_iload_n (f := 3) rfl (by decide +kernel) rfl) ?_
  refine hAllOk.c 95 (ok_iconst (n := 0) (by decide +kernel) (by decide +kernel) rfl) ?_
  refine hAllOk.c 96 (ok_callV (idx := 15) ⟨wd_t_451, wd_t_1, by decide +kernel, by decide +kernel⟩ rfl rfl wd_t_448 wd_t_449 wd_t_450 (by decide +kernel) rfl) ?_
  refine hAllOk.c 97 (ok_no) ?_
  refine hAllOk.c 98 (ok_no) ?_
  refine hAllOk.c 99 (ok_istore (by decide) (by decide +kernel) rfl) ?_
  refine hAllOk.c 100 (ok_no) ?_
  refine hAllOk.c 101 (ok_aload_n (f := 0) rfl (by decide +kernel) rfl) ?_
  refine hAllOk.c 102 (ok_iload_n (f := 3) rfl (by decide +kernel) rfl) ?_
  refine hAllOk.c 103 (ok_callV (idx := 73) ⟨wd_t_580, wd_t_1, by decide +kernel, by decide +kernel⟩ rfl rfl wd_t_577 wd_t_578 wd_t_579 (by decide +kernel) rfl) ?_
  refine hAllOk.c 104 (ok_no) ?_
  refine hAllOk.c 105 (ok_no) ?_
  refine hAllOk.c 106 (ok_istore (by decide) (by decide +kernel) rfl) ?_
  refine hAllOk.c 107 (ok_no) ?_
  refine hAllOk.c 108 (ok_iload (by decide +kernel) rfl) ?_
  refine hAllOk.c 109 (ok_no) ?_
  refine hAllOk.c 110 (ok_iflt (off := 76) (by decide +kernel) (by decide +kernel) rfl) ?_
  refine hAllOk.c 111 (ok_no) ?_
  refine hAllOk.c 112 (ok_no) ?_
  refine hAllOk.c 113 (ok_iload (by decide +kernel) rfl) ?_
  refine hAllOk.c 114 (ok_no) ?_
  refine hAllOk.c 115 (ok_ifne (off := 71) (by decide +kernel) (by decide +kernel) rfl) ?_
  refine hAllOk.c 116 (ok_no) ?_
  refine hAllOk.c 117 (ok_no) ?_
  refine hAllOk.c 118 (ok_aload_n (f := 0) rfl (by decide +kernel) rfl) ?_
  refine hAllOk.c 119 (ok_iload_n (f := 3) rfl (by decide +kernel) rfl) ?_
  refine hAllOk.c 120 (ok_iload (by decide +kernel) rfl) ?_
  refine hAllOk.c 121 (ok_no) ?_
  refine hAllOk.c 122 (ok_callV (idx := 76) ⟨wd_t_584, wd_t_1, by decide +kernel, by decide +kernel⟩ rfl rfl wd_t_581 wd_t_582 wd_t_583 (by decide +kernel) rfl) ?_
  refine hAllOk.c 123 (ok_no) ?_
  refine hAllOk.c 124 (ok_no) ?_
  refine hAllOk.c 125 (ok_bipush (n := -4) (by decide +kernel) (by decide +kernel) rfl) ?_
  refine hAllOk.c 126 (ok_no) ?_
  refine hAllOk.c 127 (ok_iceq (off := 63) (by decide +kernel) (by decide +kernel) rfl) ?_
  refine hAllOk.c 128 (ok_no) ?_
  refine hAllOk.c 129 (ok_no) ?_
  refine hAllOk.c 130 (ok_aload_n (f := 0) rfl (by decide +kernel) rfl) ?_
  refine hAllOk.c 131 (ok_iconst (n := 0) (by decide +kernel) (by decide +kernel) rfl) ?_
  refine hAllOk.c 132 (ok_callV (idx := 19) ⟨wd_t_393, wd_t_1, by decide +kernel, by decide +kernel⟩ rfl rfl wd_t_390 wd_t_391 wd_t_392 (by decide +kernel) rfl) ?_
  refine hAllOk.c 133 (ok_no) ?_
  refine hAllOk.c 134 (ok_no) ?_
  refine hAllOk.c 135 (ok_iload_n (f := 3) rfl (by decide +kernel) rfl) ?_
  refine hAllOk.c 136 (ok_ishr (by decide +kernel) rfl) ?_
  refine hAllOk.c 137 (ok_iconst (n := 1) (by decide +kernel) (by decide +kernel) rfl) ?_
  refine hAllOk.c 138 (ok_iand (by decide +kernel) rfl) ?_
  refine hAllOk.c 139 (ok_iconst (n := 1) (by decide +kernel) (by decide +kernel) rfl) ?_
  refine hAllOk.c 140 (ok_icne (off := 50) (by decide +kernel) (by decide +kernel) rfl) ?_
  refine hAllOk.c 141 (ok_no) ?_
  refine hAllOk.c 142 (ok_no) ?_
  refine hAllOk.c 143 (ok_iload (by decide +kernel) rfl) ?_
  refine hAllOk.c 144 (ok_no) ?_
  refine hAllOk.c 145 (ok_ifeq (off := 29) (by decide +kernel) (by decide +kernel) rfl) ?_
  refine hAllOk.c 146 (ok_no) ?_
  refine hAllOk.c 147 (ok_no) ?_
  refine hAllOk.c 148 (ok_aload_n (f := 0) rfl (by decide +kernel) rfl) ?_
  refine hAllOk.c 149 (ok_iload_n (f := 3) rfl (by decide +kernel) rfl) ?_
  refine hAllOk.c 150 (ok_iload (by decide +kernel) rfl) ?_
  refine hAllOk.c 151 (ok_no) ?_
  refine hAllOk.c 152 (ok_iconst (n := 1) (by decide +kernel) (by decide +kernel) rfl) ?_
  refine hAllOk.c 153 (ok_isub (by decide +kernel) rfl) ?_
  refine hAllOk.c 154 (ok_callV (idx := 76) ⟨wd_t_584, wd_t_1, by decide +kernel, by decide +kernel⟩ rfl rfl wd_t_581 wd_t_582 wd_t_583 (by decide +kernel) rfl) ?_
  refine hAllOk.c 155 (ok_no) ?_
  refine hAllOk.c 156 (ok_no) ?_
  refine hAllOk.c 157 (ok_iload (by decide +kernel) rfl) ?_
  refine hAllOk.c 158 (ok_no) ?_
  refine hAllOk.c 159 (ok_icne (off := 31) (by decide +kernel) (by decide +kernel) rfl) ?_
  refine hAllOk.c 160 (ok_no) ?_
  refine hAllOk.c 161 (ok_no) ?_
  refine hAllOk.c 162 (ok_aload_n (f := 0) rfl (by decide +kernel) rfl) ?_
  refine hAllOk.c 163 (ok_iconst (n := 0) (by decide +kernel) (by decide +kernel) rfl) ?_
  refine hAllOk.c 164 (ok_callV (idx := 19) ⟨wd_t_393, wd_t_1, by decide +kernel, by decide +kernel⟩ rfl rfl wd_t_390 wd_t_391 wd_t_392 (by decide +kernel) rfl) ?_
  refine hAllOk.c 165 (ok_no) ?_
  refine hAllOk.c 166 (ok_no) ?_
  refine hAllOk.c 167 (ok_iload_n (f := 3) rfl (by decide +kernel) rfl) ?_
  refine hAllOk.c 168 (ok_ishr (by decide +kernel) rfl) ?_
  refine hAllOk.c 169 (ok_iconst (n := 1) (by decide +kernel) (by decide +kernel) rfl) ?_
  refine hAllOk.c 170 (ok_iand (by decide +kernel) rfl) ?_
  refine hAllOk.c 171 (ok_ifne (off := 19) (by decide +kernel) (by decide +kernel) rfl) ?_
  refine hAllOk.c 172 (ok_no) ?_
  refine hAllOk.c 173 (ok_no) ?_
  refine hAllOk.c 174 (ok_aload_n (f := 0) rfl (by decide +kernel) rfl) ?_
  refine hAllOk.c 175 (ok_iload_n (f := 3) rfl (by decide +kernel) rfl) ?_
  refine hAllOk.c 176 (ok_iload (by decide +kernel) rfl) ?_
  refine hAllOk.c 177 (ok_no) ?_
  refine hAllOk.c 178 (ok_callV (idx := 76) ⟨wd_t_584, wd_t_1, by decide +kernel, by decide +kernel⟩ rfl rfl wd_t_581 wd_t_582 wd_t_583 (by decide +kernel) rfl) ?_
  refine hAllOk.c 179 (ok_no) ?_
  refine hAllOk.c 180 (ok_no) ?_
  refine hAllOk.c 181 (ok_bipush (n := -5) (by decide +kernel) (by decide +kernel) rfl) ?_
  refine hAllOk.c 182 (ok_no) ?_
  refine hAllOk.c 183 (ok_iclt (off := 7) (by decide +kernel) (by decide +kernel) rfl) ?_
  refine hAllOk.c 184 (ok_no) ?_
  refine hAllOk.c 185 (ok_no) ?_
  refine hAllOk.c 186 (ok_iconst (n := 1) (by decide +kernel) (by decide +kernel) rfl) ?_
  refine hAllOk.c 187 (ok_goto (off := 4) (by decide +kernel) (by decide +kernel)) ?_
  refine hAllOk.c 188 (ok_no) ?_
  refine hAllOk.c 189 (ok_no) ?_
  refine hAllOk.c 190 (ok_iconst (n := 0) (by decide +kernel) (by decide +kernel) rfl) ?_
  refine hAllOk.c 191 (ok_ireturn (by decide +kernel)) ?_
  refine hAllOk.c 192 (ok_aload_n (f := 0) rfl (by decide +kernel) rfl) ?_
  refine hAllOk.c 193 (ok_iload_n (f := 3) rfl (by decide +kernel) rfl) ?_
  refine hAllOk.c 194 (ok_iconst (n := 2) (by decide +kernel) (by decide +kernel) rfl) ?_
  refine hAllOk.c 195 (ok_callV (idx := 15) ⟨wd_t_451, wd_t_1, by decide +kernel, by decide +kernel⟩ rfl rfl wd_t_448 wd_t_449 wd_t_450 (by decide +kernel) rfl) ?_
  refine hAllOk.c 196 (ok_no) ?_
  refine hAllOk.c 197 (ok_no) ?_
  refine hAllOk.c 198 (ok_iconst (n := 1) (by decide +kernel) (by decide +kernel) rfl) ?_
  refine hAllOk.c 199 (ok_icne (off := 7) (by decide +kernel) (by decide +kernel) rfl) ?_
  refine hAllOk.c 200 (ok_no) ?_
  refine hAllOk.c 201 (ok_no) ?_
  refine hAllOk.c 202 (ok_iconst (n := 1) (by decide +kernel) (by decide +kernel) rfl) ?_
  refine hAllOk.c 203 (ok_goto (off := 4) (by decide +kernel) (by decide +kernel)) ?_
  refine hAllOk.c 204 (ok_no) ?_
  refine hAllOk.c 205 (ok_no) ?_
  refine hAllOk.c 206 (ok_iconst (n := 0) (by decide +kernel) (by decide +kernel) rfl) ?_
  refine hAllOk.c 207 (ok_istore (by decide) (by decide +kernel) rfl) ?_
  refine hAllOk.c 208 (ok_no) ?_
  refine hAllOk.c 209 (ok_iload (by decide +kernel) rfl) ?_
  refine hAllOk.c 210 (ok_no) ?_
  refine hAllOk.c 211 (ok_ifeq (off := 31) (by decide +kernel) (by decide +kernel) rfl) ?_
  refine hAllOk.c 212 (ok_no) ?_
  refine hAllOk.c 213 (ok_no) ?_
  refine hAllOk.c 214 (ok_aload_n (f := 0) rfl (by decide +kernel) rfl) ?_
  refine hAllOk.c 215 (ok_iload_n (f := 3) rfl (by decide +kernel) rfl) ?_
  refine hAllOk.c 216 (ok_iload (by decide +kernel) rfl) ?_
  refine hAllOk.c 217 (ok_no) ?_
  refine hAllOk.c 218 (ok_ifne (off := 7) (by decide +kernel) (by decide +kernel) rfl) ?_
  refine hAllOk.c 219 (ok_no) ?_
  refine hAllOk.c 220 (ok_no) ?_
  refine hAllOk.c 221 (ok_iconst (n := 1) (by decide +kernel) (by decide +kernel) rfl) ?_
  refine hAllOk.c 222 (ok_goto (off := 4) (by decide +kernel) (by decide +kernel)) ?_
  refine hAllOk.c 223 (ok_no) ?_
  refine hAllOk.c 224 (ok_no) ?_
  refine hAllOk.c 225 (ok_iconst (n := 0) (by decide +kernel) (by decide +kernel) rfl) ?_
  refine hAllOk.c 226 (ok_callV (idx := 79) ⟨wd_t_588, wd_t_1, by decide +kernel, by decide +kernel⟩ rfl rfl wd_t_585 wd_t_586 wd_t_587 (by decide +kernel) rfl) ?_
  refine hAllOk.c 227 (ok_no) ?_
  refine hAllOk.c 228 (ok_no) ?_
  refine hAllOk.c 229 (ok_bipush (n := -4) (by decide +kernel) (by decide +kernel) rfl) ?_
  refine hAllOk.c 230 (ok_no) ?_
  refine hAllOk.c 231 (ok_icne (off := 7) (by decide +kernel) (by decide +kernel) rfl) ?_
  refine hAllOk.c 232 (ok_no) ?_
  refine hAllOk.c 233 (ok_no) ?_
  refine hAllOk.c 234 (ok_iconst (n := 1) (by decide +kernel) (by decide +kernel) rfl) ?_
  refine hAllOk.c 235 (ok_goto (off := 68) (by decide +kernel) (by decide +kernel)) ?_
  refine hAllOk.c 236 (ok_no) ?_
  refine hAllOk.c 237 (ok_no) ?_
  refine hAllOk.c 238 (ok_iconst (n := 0) (by decide +kernel) (by decide +kernel) rfl) ?_
  refine hAllOk.c 239 (ok_goto (off := 64) (by decide +kernel) (by decide +kernel)) ?_
  refine hAllOk.c 240 (ok_no) ?_
  refine hAllOk.c 241 (ok_no) ?_
  refine hAllOk.c 242 (ok_iload_n (f := 2) rfl (by decide +kernel) rfl) ?_
  refine hAllOk.c 243 (ok_iconst (n := 4) (by decide +kernel) (by decide +kernel) rfl) ?_
  refine hAllOk.c 244 (ok_ishr (by decide +kernel) rfl) ?_
  refine hAllOk.c 245 (ok_iconst (n := 3) (by decide +kernel) (by decide +kernel) rfl) ?_
  refine hAllOk.c 246 (ok_iand (by decide +kernel) rfl) ?_
  refine hAllOk.c 247 (ok_ifle (off := 8) (by decide +kernel) (by decide +kernel) rfl) ?_
  refine hAllOk.c 248 (ok_no) ?_
  refine hAllOk.c 249 (ok_no) ?_
  refine hAllOk.c 250 (ok_iload (by decide +kernel) rfl) ?_
  refine hAllOk.c 251 (ok_no) ?_
  refine hAllOk.c 252 (ok_ifne (off := 46) (by decide +kernel) (by decide +kernel) rfl) ?_
  refine hAllOk.c 253 (ok_no) ?_
  refine hAllOk.c 254 (ok_no) ?_
  refine hAllOk.c 255 (ok_aload_n (f := 0) rfl (by decide +kernel) rfl) ?_
  refine hAllOk.c 256 (ok_iload_n (f := 3) rfl (by decide +kernel) rfl) ?_
  refine hAllOk.c 257 (ok_iload (by decide +kernel) rfl) ?_
  refine hAllOk.c 258 (ok_no) ?_
  refine hAllOk.c 259 (ok_ifne (off := 7) (by decide +kernel) (by decide +kernel) rfl) ?_
  refine hAllOk.c 260 (ok_no) ?_
  refine hAllOk.c 261 (ok_no) ?_
  refine hAllOk.c 262 (ok_iconst (n := 1) (by decide +kernel) (by decide +kernel) rfl) ?_
  refine hAllOk.c 263 (ok_goto (off := 4) (by decide +kernel) (by decide +kernel)) ?_
  refine hAllOk.c 264 (ok_no) ?_
  refine hAllOk.c 265 (ok_no) ?_
  refine hAllOk.c 266 (ok_iconst (n := 0) (by decide +kernel) (by decide +kernel) rfl) ?_
  refine hAllOk.c 267 (ok_callV (idx := 79) ⟨wd_t_588, wd_t_1, by decide +kernel, by decide +kernel⟩ rfl rfl wd_t_585 wd_t_586 wd_t_587 (by decide +kernel) rfl) ?_
  refine hAllOk.c 268 (ok_no) ?_
  refine hAllOk.c 269 (ok_no) ?_
  refine hAllOk.c 270 (ok_aload_n (f := 0) rfl (by decide +kernel) rfl) ?_
  refine hAllOk.c 271 (ok_iconst (n := 2) (by decide +kernel) (by decide +kernel) rfl) ?_
  refine hAllOk.c 272 (ok_callV (idx := 9) ⟨wd_t_413, wd_t_1, by decide +kernel, by decide +kernel⟩ rfl rfl wd_t_410 wd_t_411 wd_t_412 (by decide +kernel) rfl) ?_
  refine hAllOk.c 273 (ok_no) ?_
  refine hAllOk.c 274 (ok_no) ?_
  refine hAllOk.c 275 (ok_icne (off := 27) (by decide +kernel) (by decide +kernel) rfl) ?_
  refine hAllOk.c 276 (ok_no) ?_
  refine hAllOk.c 277 (ok_no) ?_
  refine hAllOk.c 278 (ok_aload_n (f := 0) rfl (by decide +kernel) rfl) ?_
  refine hAllOk.c 279 (ok_iload_n (f := 3) rfl (by decide +kernel) rfl) ?_
  refine hAllOk.c 280 (ok_iload (by decide +kernel) rfl) ?_
  refine hAllOk.c 281 (ok_no) ?_
  refine hAllOk.c 282 (ok_ifne (off := 7) (by decide +kernel) (by decide +kernel) rfl) ?_
  refine hAllOk.c 283 (ok_no) ?_
  refine hAllOk.c 284 (ok_no) ?_
  refine hAllOk.c 285 (ok_iconst (n := 1) (by decide +kernel) (by decide +kernel) rfl) ?_
  refine hAllOk.c 286 (ok_goto (off := 4) (by decide +kernel) (by decide +kernel)) ?_
  refine hAllOk.c 287 (ok_no) ?_
  refine hAllOk.c 288 (ok_no) ?_
  refine hAllOk.c 289 (ok_iconst (n := 0) (by decide +kernel) (by decide +kernel) rfl) ?_
  refine hAllOk.c 290 (ok_callV (idx := 79) ⟨wd_t_588, wd_t_1, by decide +kernel, by decide +kernel⟩ rfl rfl wd_t_585 wd_t_586 wd_t_587 (by decide +kernel) rfl) ?_
  refine hAllOk.c 291 (ok_no) ?_
  refine hAllOk.c 292 (ok_no) ?_
  refine hAllOk.c 293 (ok_bipush (n := -5) (by decide +kernel) (by decide +kernel) rfl) ?_
  refine hAllOk.c 294 (ok_no) ?_
  refine hAllOk.c 295 (ok_icne (off := 7) (by decide +kernel) (by decide +kernel) rfl) ?_
  refine hAllOk.c 296 (ok_no) ?_
  refine hAllOk.c 297 (ok_no) ?_
  refine hAllOk.c 298 (ok_iconst (n := 1) (by decide +kernel) (by decide +kernel) rfl) ?_
  refine hAllOk.c 299 (ok_goto (off := 4) (by decide +kernel) (by decide +kernel)) ?_
  refine hAllOk.c 300 (ok_no) ?_
  refine hAllOk.c 301 (ok_no) ?_
  refine hAllOk.c 302 (ok_iconst (n := 0) (by decide +kernel) (by decide +kernel) rfl) ?_
  refine hAllOk.c 303 (ok_ireturn (by decide +kernel)) ?_
  refine hAllOk.c 304 (ok_iload (by decide +kernel) rfl) ?_
  refine hAllOk.c 305 (ok_no) ?_
  refine hAllOk.c 306 (ok_ifne (off := 9) (by decide +kernel) (by decide +kernel) rfl) ?_
  refine hAllOk.c 307 (ok_no) ?_
  refine hAllOk.c 308 (ok_no) ?_
  refine hAllOk.c 309 (ok_iload_n (f := 2) rfl (by decide +kernel) rfl) ?_
  refine hAllOk.c 310 (ok_iconst (n := 1) (by decide +kernel) (by decide +kernel) rfl) ?_
  refine hAllOk.c 311 (ok_iand (by decide +kernel) rfl) ?_
  refine hAllOk.c 312 (ok_ifne (off := 23) (by decide +kernel) (by decide +kernel) rfl) ?_
  refine hAllOk.c 313 (ok_no) ?_
  refine hAllOk.c 314 (ok_no) ?_
  refine hAllOk.c 315 (ok_aload_n (f := 0) rfl (by decide +kernel) rfl) ?_
  refine hAllOk.c 316 (ok_iconst (n := 1) (by decide +kernel) (by decide +kernel) rfl) ?_
  refine hAllOk.c 317 (ok_iload_n (f := 2) rfl (by decide +kernel) rfl) ?_
  refine hAllOk.c 318 (ok_iconst (n := 5) (by decide +kernel) (by decide +kernel) rfl) ?_
  refine hAllOk.c 319 (ok_irem (by decide +kernel) rfl) ?_
  refine hAllOk.c 320 (ok_iadd (by decide +kernel) rfl) ?_
  refine hAllOk.c 321 (ok_callV (idx := 83) ⟨wd_t_277, wd_t_1, by decide +kernel, by decide +kernel⟩ rfl rfl wd_t_274 wd_t_275 wd_t_276 (by decide +kernel) rfl) ?_
  refine hAllOk.c 322 (ok_no) ?_
  refine hAllOk.c 323 (ok_no) ?_
  refine hAllOk.c 324 (ok_ifle (off := 7) (by decide +kernel) (by decide +kernel) rfl) ?_
  refine hAllOk.c 325 (ok_no) ?_
  refine hAllOk.c 326 (ok_no) ?_
  refine hAllOk.c 327 (ok_iconst (n := 1) (by decide +kernel) (by decide +kernel) rfl) ?_
  refine hAllOk.c 328 (ok_goto (off := 51) (by decide +kernel) (by decide +kernel)) ?_
  refine hAllOk.c 329 (ok_no) ?_
  refine hAllOk.c 330 (ok_no) ?_
  refine hAllOk.c 331 (ok_iconst (n := 0) (by decide +kernel) (by decide +kernel) rfl) ?_
  refine hAllOk.c 332 (ok_goto (off := 47) (by decide +kernel) (by decide +kernel)) ?_
  refine hAllOk.c 333 (ok_no) ?_
  refine hAllOk.c 334 (ok_no) ?_
  refine hAllOk.c 335 (ok_aload_n (f := 0) rfl (by decide +kernel) rfl) ?_
  refine hAllOk.c 336 (ok_iconst (n := 2) (by decide +kernel) (by decide +kernel) rfl) ?_
  refine hAllOk.c 337 (ok_iconst (n := 1) (by decide +kernel) (by decide +kernel) rfl) ?_
  refine hAllOk.c 338 (ok_iload_n (f := 2) rfl (by decide +kernel) rfl) ?_
  refine hAllOk.c 339 (ok_iconst (n := 2) (by decide +kernel) (by decide +kernel) rfl) ?_
  refine hAllOk.c 340 (ok_ishr (by decide +kernel) rfl) ?_
  refine hAllOk.c 341 (ok_bipush (n := 12) (by decide +kernel) (by decide +kernel) rfl) ?_
  refine hAllOk.c 342 (ok_no) ?_
  refine hAllOk.c 343 (ok_irem (by decide +kernel) rfl) ?_
  refine hAllOk.c 344 (ok_iadd (by decide +kernel) rfl) ?_
  refine hAllOk.c 345 (ok_callV (idx := 86) ⟨wd_t_269, wd_t_1, by decide +kernel, by decide +kernel⟩ rfl rfl wd_t_266 wd_t_267 wd_t_268 (by decide +kernel) rfl) ?_
  refine hAllOk.c 346 (ok_no) ?_
  refine hAllOk.c 347 (ok_no) ?_
  refine hAllOk.c 348 (ok_bipush (n := -5) (by decide +kernel) (by decide +kernel) rfl) ?_
  refine hAllOk.c 349 (ok_no) ?_
  refine hAllOk.c 350 (ok_iclt (off := 28) (by decide +kernel) (by decide +kernel) rfl) ?_
  refine hAllOk.c 351 (ok_no) ?_
  refine hAllOk.c 352 (ok_no) ?_
  refine hAllOk.c 353 (ok_aload_n (f := 0) rfl (by decide +kernel) rfl) ?_
  refine hAllOk.c 354 (ok_iconst (n := 0) (by decide +kernel) (by decide +kernel) rfl) ?_
  refine hAllOk.c 355 (ok_sipush (n := 500) (by decide +kernel) (by decide +kernel) rfl) ?_
  refine hAllOk.c 356 (ok_no) ?_
  refine hAllOk.c 357 (ok_no) ?_
  refine hAllOk.c 358 (ok_iload_n (f := 2) rfl (by decide +kernel) rfl) ?_
  refine hAllOk.c 359 (ok_iconst (n := 2) (by decide +kernel) (by decide +kernel) rfl) ?_
  refine hAllOk.c 360 (ok_ishr (by decide +kernel) rfl) ?_
  refine hAllOk.c 361 (ok_sipush (n := 9000) (by decide +kernel) (by decide +kernel) rfl) ?_
  refine hAllOk.c 362 (ok_no) ?_
  refine hAllOk.c 363 (ok_no) ?_
  refine hAllOk.c 364 (ok_irem (by decide +kernel) rfl) ?_
  refine hAllOk.c 365 (ok_iadd (by decide +kernel) rfl) ?_
  refine hAllOk.c 366 (ok_callV (idx := 86) ⟨wd_t_269, wd_t_1, by decide +kernel, by decide +kernel⟩ rfl rfl wd_t_266 wd_t_267 wd_t_268 (by decide +kernel) rfl) ?_
  refine hAllOk.c 367 (ok_no) ?_
  refine hAllOk.c 368 (ok_no) ?_
  refine hAllOk.c 369 (ok_bipush (n := -5) (by decide +kernel) (by decide +kernel) rfl) ?_
  refine hAllOk.c 370 (ok_no) ?_
  refine hAllOk.c 371 (ok_iclt (off := 7) (by decide +kernel) (by decide +kernel) rfl) ?_
  refine hAllOk.c 372 (ok_no) ?_
  refine hAllOk.c 373 (ok_no) ?_
  refine hAllOk.c 374 (ok_iconst (n := 1) (by decide +kernel) (by decide +kernel) rfl) ?_
  refine hAllOk.c 375 (ok_goto (off := 4) (by decide +kernel) (by decide +kernel)) ?_
  refine hAllOk.c 376 (ok_no) ?_
  refine hAllOk.c 377 (ok_no) ?_
  refine hAllOk.c 378 (ok_iconst (n := 0) (by decide +kernel) (by decide +kernel) rfl) ?_
  refine hAllOk.c 379 (ok_ireturn (by decide +kernel)) ?_
  refine hAllOk.c 380 (ok_aload_n (f := 0) rfl (by decide +kernel) rfl) ?_
  refine hAllOk.c 381 (ok_iconst (n := 1) (by decide +kernel) (by decide +kernel) rfl) ?_
  refine hAllOk.c 382 (ok_callV (idx := 19) ⟨wd_t_393, wd_t_1, by decide +kernel, by decide +kernel⟩ rfl rfl wd_t_390 wd_t_391 wd_t_392 (by decide +kernel) rfl) ?_
  refine hAllOk.c 383 (ok_no) ?_
  refine hAllOk.c 384 (ok_no) ?_
  refine hAllOk.c 385 (ok_istore (by decide) (by decide +kernel) rfl) ?_
  refine hAllOk.c 386 (ok_no) ?_
  refine hAllOk.c 387 (ok_iload (by decide +kernel) rfl) ?_
  refine hAllOk.c 388 (ok_no) ?_
  refine hAllOk.c 389 (ok_callS (idx := 25) ⟨wd_t_447, wd_t_0, by decide +kernel, by decide +kernel⟩ wd_t_445 wd_t_446 (by decide +kernel) rfl) ?_
  refine hAllOk.c 390 (ok_no) ?_
  refine hAllOk.c 391 (ok_no) ?_
  refine hAllOk.c 392 (ok_ifne (off := 7) (by decide +kernel) (by decide +kernel) rfl) ?_
  refine hAllOk.c 393 (ok_no) ?_
  refine hAllOk.c 394 (ok_no) ?_
  refine hAllOk.c 395 (ok_iconst (n := 0) (by decide +kernel) (by decide +kernel) rfl) ?_
  refine hAllOk.c 396 (ok_goto (off := 18) (by decide +kernel) (by decide +kernel)) ?_
  refine hAllOk.c 397 (ok_no) ?_
  refine hAllOk.c 398 (ok_no) ?_
  refine hAllOk.c 399 (ok_iload (by decide +kernel) rfl) ?_
  refine hAllOk.c 400 (ok_no) ?_
  refine hAllOk.c 401 (ok_callS (idx := 25) ⟨wd_t_447, wd_t_0, by decide +kernel, by decide +kernel⟩ wd_t_445 wd_t_446 (by decide +kernel) rfl) ?_
  refine hAllOk.c 402 (ok_no) ?_
  refine hAllOk.c 403 (ok_no) ?_
  refine hAllOk.c 404 (ok_aload_n (f := 0) rfl (by decide +kernel) rfl) ?_
  refine hAllOk.c 405 (ok_iload (by decide +kernel) rfl) ?_
  refine hAllOk.c 406 (ok_no) ?_
  refine hAllOk.c 407 (ok_callS (idx := 25) ⟨wd_t_447, wd_t_0, by decide +kernel, by decide +kernel⟩ wd_t_445 wd_t_446 (by decide +kernel) rfl) ?_
  refine hAllOk.c 408 (ok_no) ?_
  refine hAllOk.c 409 (ok_no) ?_
  refine hAllOk.c 410 (ok_callV (idx := 33) ⟨wd_t_462, wd_t_1, by decide +kernel, by decide +kernel⟩ rfl rfl wd_t_459 wd_t_460 wd_t_461 (by decide +kernel) rfl) ?_
  refine hAllOk.c 411 (ok_no) ?_
  refine hAllOk.c 412 (ok_no) ?_
  refine hAllOk.c 413 (ok_imul (by decide +kernel) rfl) ?_
  refine hAllOk.c 414 (ok_istore (by decide) (by decide +kernel) rfl) ?_
  refine hAllOk.c 415 (ok_no) ?_
  refine hAllOk.c 416 (ok_iconst (n := 0) (by decide +kernel) (by decide +kernel) rfl) ?_
  refine hAllOk.c 417 (ok_istore (by decide) (by decide +kernel) rfl) ?_
  refine hAllOk.c 418 (ok_no) ?_
  refine hAllOk.c 419 (ok_iload (by decide +kernel) rfl) ?_
  refine hAllOk.c 420 (ok_no) ?_
  refine hAllOk.c 421 (ok_aload_n (f := 0) rfl (by decide +kernel) rfl) ?_
  refine hAllOk.c 422 (ok_iconst (n := 1) (by decide +kernel) (by decide +kernel) rfl) ?_
  refine hAllOk.c 423 (ok_callV (idx := 9) ⟨wd_t_413, wd_t_1, by decide +kernel, by decide +kernel⟩ rfl rfl wd_t_410 wd_t_411 wd_t_412 (by decide +kernel) rfl) ?_
  refine hAllOk.c 424 (ok_no) ?_
  refine hAllOk.c 425 (ok_no) ?_
  refine hAllOk.c 426 (ok_icge (off := 29) (by decide +kernel) (by decide +kernel) rfl) ?_
  refine hAllOk.c 427 (ok_no) ?_
  refine hAllOk.c 428 (ok_no) ?_
  refine hAllOk.c 429 (ok_iload (by decide +kernel) rfl) ?_
  refine hAllOk.c 430 (ok_no) ?_
  refine hAllOk.c 431 (ok_iload (by decide +kernel) rfl) ?_
  refine hAllOk.c 432 (ok_no) ?_
  refine hAllOk.c 433 (ok_iload (by decide +kernel) rfl) ?_
  refine hAllOk.c 434 (ok_no) ?_
  refine hAllOk.c 435 (ok_ishr (by decide +kernel) rfl) ?_
  refine hAllOk.c 436 (ok_iconst (n := 1) (by decide +kernel) (by decide +kernel) rfl) ?_
  refine hAllOk.c 437 (ok_iand (by decide +kernel) rfl) ?_
  refine hAllOk.c 438 (ok_aload_n (f := 0) rfl (by decide +kernel) rfl) ?_
  refine hAllOk.c 439 (ok_iload (by decide +kernel) rfl) ?_
  refine hAllOk.c 440 (ok_no) ?_
  refine hAllOk.c 441 (ok_iconst (n := 3) (by decide +kernel) (by decide +kernel) rfl) ?_
  refine hAllOk.c 442 (ok_callV (idx := 15) ⟨wd_t_451, wd_t_1, by decide +kernel, by decide +kernel⟩ rfl rfl wd_t_448 wd_t_449 wd_t_450 (by decide +kernel) rfl) ?_
  refine hAllOk.c 443 (ok_no) ?_
  refine hAllOk.c 444 (ok_no) ?_
  refine hAllOk.c 445 (ok_imul (by decide +kernel) rfl) ?_
  refine hAllOk.c 446 (ok_iadd (by decide +kernel) rfl) ?_
  refine hAllOk.c 447 (ok_istore (by decide) (by decide +kernel) rfl) ?_
  refine hAllOk.c 448 (ok_no) ?_
  refine hAllOk.c 449 (ok_iinc (n := 1) (by decide +kernel) (by decide) (by decide +kernel) rfl) ?_
  refine hAllOk.c 450 (ok_no) ?_
  refine hAllOk.c 451 (ok_no) ?_
  refine hAllOk.c 452 (ok_goto (off := (-33)) (by decide +kernel) (by decide +kernel)) ?_
  refine hAllOk.c 453 (ok_no) ?_
  refine hAllOk.c 454 (ok_no) ?_
  refine hAllOk.c 455 (ok_iload (by decide +kernel) rfl) ?_
  refine hAllOk.c 456 (ok_no) ?_
  refine hAllOk.c 457 (ok_ifeq (off := 20) (by decide +kernel) (by decide +kernel) rfl) ?_
  refine hAllOk.c 458 (ok_no) ?_
  refine hAllOk.c 459 (ok_no) ?_
  refine hAllOk.c 460 (ok_aload_n (f := 0) rfl (by decide +kernel) rfl) ?_
  refine hAllOk.c 461 (ok_callV (idx := 89) ⟨wd_t_281, wd_t_1, by decide +kernel, by decide +kernel⟩ rfl rfl wd_t_278 wd_t_279 wd_t_280 (by decide +kernel) rfl) ?_
  refine hAllOk.c 462 (ok_no) ?_
  refine hAllOk.c 463 (ok_no) ?_
  refine hAllOk.c 464 (ok_bipush (n := -4) (by decide +kernel) (by decide +kernel) rfl) ?_
  refine hAllOk.c 465 (ok_no) ?_
  refine hAllOk.c 466 (ok_icne (off := 7) (by decide +kernel) (by decide +kernel) rfl) ?_
  refine hAllOk.c 467 (ok_no) ?_
  refine hAllOk.c 468 (ok_no) ?_
  refine hAllOk.c 469 (ok_iconst (n := 1) (by decide +kernel) (by decide +kernel) rfl) ?_
  refine hAllOk.c 470 (ok_goto (off := 61) (by decide +kernel) (by decide +kernel)) ?_
  refine hAllOk.c 471 (ok_no) ?_
  refine hAllOk.c 472 (ok_no) ?_
  refine hAllOk.c 473 (ok_iconst (n := 0) (by decide +kernel) (by decide +kernel) rfl) ?_
  refine hAllOk.c 474 (ok_goto (off := 57) (by decide +kernel) (by decide +kernel)) ?_
  refine hAllOk.c 475 (ok_no) ?_
  refine hAllOk.c 476 (ok_no) ?_
  refine hAllOk.c 477 (ok_iload (by decide +kernel) rfl) ?_
  refine hAllOk.c 478 (ok_no) ?_
  refine hAllOk.c 479 (ok_ifne (off := 20) (by decide +kernel) (by decide +kernel) rfl) ?_
  refine hAllOk.c 480 (ok_no) ?_
  refine hAllOk.c 481 (ok_no) ?_
  refine hAllOk.c 482 (ok_aload_n (f := 0) rfl (by decide +kernel) rfl) ?_
  refine hAllOk.c 483 (ok_callV (idx := 89) ⟨wd_t_281, wd_t_1, by decide +kernel, by decide +kernel⟩ rfl rfl wd_t_278 wd_t_279 wd_t_280 (by decide +kernel) rfl) ?_
  refine hAllOk.c 484 (ok_no) ?_
  refine hAllOk.c 485 (ok_no) ?_
  refine hAllOk.c 486 (ok_bipush (n := -5) (by decide +kernel) (by decide +kernel) rfl) ?_
  refine hAllOk.c 487 (ok_no) ?_
  refine hAllOk.c 488 (ok_icne (off := 7) (by decide +kernel) (by decide +kernel) rfl) ?_
  refine hAllOk.c 489 (ok_no) ?_
  refine hAllOk.c 490 (ok_no) ?_
  refine hAllOk.c 491 (ok_iconst (n := 1) (by decide +kernel) (by decide +kernel) rfl) ?_
  refine hAllOk.c 492 (ok_goto (off := 39) (by decide +kernel) (by decide +kernel)) ?_
  refine hAllOk.c 493 (ok_no) ?_
  refine hAllOk.c 494 (ok_no) ?_
  refine hAllOk.c 495 (ok_iconst (n := 0) (by decide +kernel) (by decide +kernel) rfl) ?_
  refine hAllOk.c 496 (ok_goto (off := 35) (by decide +kernel) (by decide +kernel)) ?_
  refine hAllOk.c 497 (ok_no) ?_
  refine hAllOk.c 498 (ok_no) ?_
  refine hAllOk.c 499 (ok_aload_n (f := 0) rfl (by decide +kernel) rfl) ?_
  refine hAllOk.c 500 (ok_callV (idx := 89) ⟨wd_t_281, wd_t_1, by decide +kernel, by decide +kernel⟩ rfl rfl wd_t_278 wd_t_279 wd_t_280 (by decide +kernel) rfl) ?_
  refine hAllOk.c 501 (ok_no) ?_
  refine hAllOk.c 502 (ok_no) ?_
  refine hAllOk.c 503 (ok_iload (by decide +kernel) rfl) ?_
  refine hAllOk.c 504 (ok_no) ?_
  refine hAllOk.c 505 (ok_icne (off := 25) (by decide +kernel) (by decide +kernel) rfl) ?_
  refine hAllOk.c 506 (ok_no) ?_
  refine hAllOk.c 507 (ok_no) ?_
  refine hAllOk.c 508 (ok_aload_n (f := 0) rfl (by decide +kernel) rfl) ?_
  refine hAllOk.c 509 (ok_iconst (n := 3) (by decide +kernel) (by decide +kernel) rfl) ?_
  refine hAllOk.c 510 (ok_callV (idx := 19) ⟨wd_t_393, wd_t_1, by decide +kernel, by decide +kernel⟩ rfl rfl wd_t_390 wd_t_391 wd_t_392 (by decide +kernel) rfl) ?_
  refine hAllOk.c 511 (ok_no) ?_
  refine hAllOk.c 512 (ok_no) ?_
  refine hAllOk.c 513 (ok_iload (by decide +kernel) rfl) ?_
  refine hAllOk.c 514 (ok_no) ?_
  refine hAllOk.c 515 (ok_icne (off := 15) (by decide +kernel) (by decide +kernel) rfl) ?_
  refine hAllOk.c 516 (ok_no) ?_
  refine hAllOk.c 517 (ok_no) ?_
  refine hAllOk.c 518 (ok_aload_n (f := 0) rfl (by decide +kernel) rfl) ?_
  refine hAllOk.c 519 (ok_iconst (n := 0) (by decide +kernel) (by decide +kernel) rfl) ?_
  refine hAllOk.c 520 (ok_callV (idx := 47) ⟨wd_t_481, wd_t_1, by decide +kernel, by decide +kernel⟩ rfl rfl wd_t_478 wd_t_479 wd_t_480 (by decide +kernel) rfl) ?_
  refine hAllOk.c 521 (ok_no) ?_
  refine hAllOk.c 522 (ok_no) ?_
  refine hAllOk.c 523 (ok_iflt (off := 7) (by decide +kernel) (by decide +kernel) rfl) ?_
  refine hAllOk.c 524 (ok_no) ?_
  refine hAllOk.c 525 (ok_no) ?_
  refine hAllOk.c 526 (ok_iconst (n := 1) (by decide +kernel) (by decide +kernel) rfl) ?_
  refine hAllOk.c 527 (ok_goto (off := 4) (by decide +kernel) (by decide +kernel)) ?_
  refine hAllOk.c 528 (ok_no) ?_
  refine hAllOk.c 529 (ok_no) ?_
  refine hAllOk.c 530 (ok_iconst (n := 0) (by decide +kernel) (by decide +kernel) rfl) ?_
  refine hAllOk.c 531 (ok_ireturn (by decide +kernel)) ?_
  refine hAllOk.c 532 (ok_iload (by decide +kernel) rfl) ?_
  refine hAllOk.c 533 (ok_no) ?_
  refine hAllOk.c 534 (ok_ifeq (off := 17) (by decide +kernel) (by decide +kernel) rfl) ?_
  refine hAllOk.c 535 (ok_no) ?_
  refine hAllOk.c 536 (ok_no) ?_
  refine hAllOk.c 537 (ok_iload (by decide +kernel) rfl) ?_
  refine hAllOk.c 538 (ok_no) ?_
  refine hAllOk.c 539 (ok_iload_n (f := 3) rfl (by decide +kernel) rfl) ?_
  refine hAllOk.c 540 (ok_ishr (by decide +kernel) rfl) ?_
  refine hAllOk.c 541 (ok_iconst (n := 1) (by decide +kernel) (by decide +kernel) rfl) ?_
  refine hAllOk.c 542 (ok_iand (by decide +kernel) rfl) ?_
  refine hAllOk.c 543 (ok_iconst (n := 1) (by decide +kernel) (by decide +kernel) rfl) ?_
  refine hAllOk.c 544 (ok_icne (off := 7) (by decide +kernel) (by decide +kernel) rfl) ?_
  refine hAllOk.c 545 (ok_no) ?_
  refine hAllOk.c 546 (ok_no) ?_
  refine hAllOk.c 547 (ok_iconst (n := 1) (by decide +kernel) (by decide +kernel) rfl) ?_
  refine hAllOk.c 548 (ok_goto (off := 4) (by decide +kernel) (by decide +kernel)) ?_
  refine hAllOk.c 549 (ok_no) ?_
  refine hAllOk.c 550 (ok_no) ?_
  refine hAllOk.c 551 (ok_iconst (n := 0) (by decide +kernel) (by decide +kernel) rfl) ?_
  refine hAllOk.c 552 (ok_istore (by decide) (by decide +kernel) rfl) ?_
  refine hAllOk.c 553 (ok_no) ?_
  refine hAllOk.c 554 (ok_aload_n (f := 0) rfl (by decide +kernel) rfl) ?_
  refine hAllOk.c 555 (ok_iload_n (f := 3) rfl (by decide +kernel) rfl) ?_
  refine hAllOk.c 556 (ok_callV (idx := 92) ⟨wd_t_592, wd_t_1, by decide +kernel, by decide +kernel⟩ rfl rfl wd_t_589 wd_t_590 wd_t_591 (by decide +kernel) rfl) ?_
  refine hAllOk.c 557 (ok_no) ?_
  refine hAllOk.c 558 (ok_no) ?_
  refine hAllOk.c 559 (ok_istore (by decide) (by decide +kernel) rfl) ?_
  refine hAllOk.c 560 (ok_no) ?_
  refine hAllOk.c 561 (ok_iload (by decide +kernel) rfl) ?_
  refine hAllOk.c 562 (ok_no) ?_
  refine hAllOk.c 563 (ok_ifeq (off := 48) (by decide +kernel) (by decide +kernel) rfl) ?_
  refine hAllOk.c 564 (ok_no) ?_
  refine hAllOk.c 565 (ok_no) ?_
  refine hAllOk.c 566 (ok_iload (by decide +kernel) rfl) ?_
  refine hAllOk.c 567 (ok_no) ?_
  refine hAllOk.c 568 (ok_iconst (n := 1) (by decide +kernel) (by decide +kernel) rfl) ?_
  refine hAllOk.c 569 (ok_iclt (off := 38) (by decide +kernel) (by decide +kernel) rfl) ?_
  refine hAllOk.c 570 (ok_no) ?_
  refine hAllOk.c 571 (ok_no) ?_
  refine hAllOk.c 572 (ok_aload_n (f := 0) rfl (by decide +kernel) rfl) ?_
  refine hAllOk.c 573 (ok_iconst (n := 3) (by decide +kernel) (by decide +kernel) rfl) ?_
  refine hAllOk.c 574 (ok_callV (idx := 19) ⟨wd_t_393, wd_t_1, by decide +kernel, by decide +kernel⟩ rfl rfl wd_t_390 wd_t_391 wd_t_392 (by decide +kernel) rfl) ?_
  refine hAllOk.c 575 (ok_no) ?_
  refine hAllOk.c 576 (ok_no) ?_
  refine hAllOk.c 577 (ok_callS (idx := 25) ⟨wd_t_447, wd_t_0, by decide +kernel, by decide +kernel⟩ wd_t_445 wd_t_446 (by decide +kernel) rfl) ?_
  refine hAllOk.c 578 (ok_no) ?_
  refine hAllOk.c 579 (ok_no) ?_
  refine hAllOk.c 580 (ok_iload (by decide +kernel) rfl) ?_
  refine hAllOk.c 581 (ok_no) ?_
  refine hAllOk.c 582 (ok_callS (idx := 25) ⟨wd_t_447, wd_t_0, by decide +kernel, by decide +kernel⟩ wd_t_445 wd_t_446 (by decide +kernel) rfl) ?_
  refine hAllOk.c 583 (ok_no) ?_
  refine hAllOk.c 584 (ok_no) ?_
  refine hAllOk.c 585 (ok_iload (by decide +kernel) rfl) ?_
  refine hAllOk.c 586 (ok_no) ?_
  refine hAllOk.c 587 (ok_isub (by decide +kernel) rfl) ?_
  refine hAllOk.c 588 (ok_icne (off := 19) (by decide +kernel) (by decide +kernel) rfl) ?_
  refine hAllOk.c 589 (ok_no) ?_
  refine hAllOk.c 590 (ok_no) ?_
  refine hAllOk.c 591 (ok_aload_n (f := 0) rfl (by decide +kernel) rfl) ?_
  refine hAllOk.c 592 (ok_iload_n (f := 3) rfl (by decide +kernel) rfl) ?_
  refine hAllOk.c 593 (ok_bipush (n := 7) (by decide +kernel) (by decide +kernel) rfl) ?_
  refine hAllOk.c 594 (ok_no) ?_
  refine hAllOk.c 595 (ok_callV (idx := 15) ⟨wd_t_451, wd_t_1, by decide +kernel, by decide +kernel⟩ rfl rfl wd_t_448 wd_t_449 wd_t_450 (by decide +kernel) rfl) ?_
  refine hAllOk.c 596 (ok_no) ?_
  refine hAllOk.c 597 (ok_no) ?_
  refine hAllOk.c 598 (ok_bipush (n := -5) (by decide +kernel) (by decide +kernel) rfl) ?_
  refine hAllOk.c 599 (ok_no) ?_
  refine hAllOk.c 600 (ok_icne (off := 7) (by decide +kernel) (by decide +kernel) rfl) ?_
  refine hAllOk.c 601 (ok_no) ?_
  refine hAllOk.c 602 (ok_no) ?_
  refine hAllOk.c 603 (ok_iconst (n := 1) (by decide +kernel) (by decide +kernel) rfl) ?_
  refine hAllOk.c 604 (ok_goto (off := 19) (by decide +kernel) (by decide +kernel)) ?_
  refine hAllOk.c 605 (ok_no) ?_
  refine hAllOk.c 606 (ok_no) ?_
  refine hAllOk.c 607 (ok_iconst (n := 0) (by decide +kernel) (by decide +kernel) rfl) ?_
  refine hAllOk.c 608 (ok_goto (off := 15) (by decide +kernel) (by decide +kernel)) ?_
  refine hAllOk.c 609 (ok_no) ?_
  refine hAllOk.c 610 (ok_no) ?_
  refine hAllOk.c 611 (ok_iload (by decide +kernel) rfl) ?_
  refine hAllOk.c 612 (ok_no) ?_
  refine hAllOk.c 613 (ok_bipush (n := -4) (by decide +kernel) (by decide +kernel) rfl) ?_
  refine hAllOk.c 614 (ok_no) ?_
  refine hAllOk.c 615 (ok_icne (off := 7) (by decide +kernel) (by decide +kernel) rfl) ?_
  refine hAllOk.c 616 (ok_no) ?_
  refine hAllOk.c 617 (ok_no) ?_
  refine hAllOk.c 618 (ok_iconst (n := 1) (by decide +kernel) (by decide +kernel) rfl) ?_
  refine hAllOk.c 619 (ok_goto (off := 4) (by decide +kernel) (by decide +kernel)) ?_
  refine hAllOk.c 620 (ok_no) ?_
  refine hAllOk.c 621 (ok_no) ?_
  refine hAllOk.c 622 (ok_iconst (n := 0) (by decide +kernel) (by decide +kernel) rfl) ?_
  refine hAllOk.c 623 (ok_ireturn (by decide +kernel)) ?_
  refine hAllOk.c 624 (ok_iload_n (f := 2) rfl (by decide +kernel) rfl) ?_
  refine hAllOk.c 625 (ok_iconst (n := 3) (by decide +kernel) (by decide +kernel) rfl) ?_
  refine hAllOk.c 626 (ok_iand (by decide +kernel) rfl) ?_
  refine hAllOk.c 627 (ok_ifle (off := 29) (by decide +kernel) (by decide +kernel) rfl) ?_
  refine hAllOk.c 628 (ok_no) ?_
  refine hAllOk.c 629 (ok_no) ?_
  refine hAllOk.c 630 (ok_aload_n (f := 0) rfl (by decide +kernel) rfl) ?_
  refine hAllOk.c 631 (ok_iload_n (f := 3) rfl (by decide +kernel) rfl) ?_
  refine hAllOk.c 632 (ok_iconst (n := 1) (by decide +kernel) (by decide +kernel) rfl) ?_
  refine hAllOk.c 633 (ok_iload_n (f := 2) rfl (by decide +kernel) rfl) ?_
  refine hAllOk.c 634 (ok_iconst (n := 4) (by decide +kernel) (by decide +kernel) rfl) ?_
  refine hAllOk.c 635 (ok_ishr (by decide +kernel) rfl) ?_
  refine hAllOk.c 636 (ok_bipush (n := 9) (by decide +kernel) (by decide +kernel) rfl) ?_
  refine hAllOk.c 637 (ok_no) ?_
  refine hAllOk.c 638 (ok_irem (by decide +kernel) rfl) ?_
  refine hAllOk.c 639 (ok_iadd (by decide +kernel) rfl) ?_
  refine hAllOk.c 640 (ok_callV (idx := 95) ⟨wd_t_608, wd_t_1, by decide +kernel, by decide +kernel⟩ rfl rfl wd_t_605 wd_t_606 wd_t_607 (by decide +kernel) rfl) ?_
  refine hAllOk.c 641 (ok_no) ?_
  refine hAllOk.c 642 (ok_no) ?_
  refine hAllOk.c 643 (ok_bipush (n := -2) (by decide +kernel) (by decide +kernel) rfl) ?_
  refine hAllOk.c 644 (ok_no) ?_
  refine hAllOk.c 645 (ok_iceq (off := 7) (by decide +kernel) (by decide +kernel) rfl) ?_
  refine hAllOk.c 646 (ok_no) ?_
  refine hAllOk.c 647 (ok_no) ?_
  refine hAllOk.c 648 (ok_iconst (n := 1) (by decide +kernel) (by decide +kernel) rfl) ?_
  refine hAllOk.c 649 (ok_goto (off := 56) (by decide +kernel) (by decide +kernel)) ?_
  refine hAllOk.c 650 (ok_no) ?_
  refine hAllOk.c 651 (ok_no) ?_
  refine hAllOk.c 652 (ok_iconst (n := 0) (by decide +kernel) (by decide +kernel) rfl) ?_
  refine hAllOk.c 653 (ok_goto (off := 52) (by decide +kernel) (by decide +kernel)) ?_
  refine hAllOk.c 654 (ok_no) ?_
  refine hAllOk.c 655 (ok_no) ?_
  refine hAllOk.c 656 (ok_iload (by decide +kernel) rfl) ?_
  refine hAllOk.c 657 (ok_no) ?_
  refine hAllOk.c 658 (ok_ifeq (off := 33) (by decide +kernel) (by decide +kernel) rfl) ?_
  refine hAllOk.c 659 (ok_no) ?_
  refine hAllOk.c 660 (ok_no) ?_
  refine hAllOk.c 661 (ok_aload_n (f := 0) rfl (by decide +kernel) rfl) ?_
  refine hAllOk.c 662 (ok_callV (idx := 98) ⟨wd_t_612, wd_t_1, by decide +kernel, by decide +kernel⟩ rfl rfl wd_t_609 wd_t_610 wd_t_611 (by decide +kernel) rfl) ?_
  refine hAllOk.c 663 (ok_no) ?_
  refine hAllOk.c 664 (ok_no) ?_
  refine hAllOk.c 665 (ok_iload (by decide +kernel) rfl) ?_
  refine hAllOk.c 666 (ok_no) ?_
  refine hAllOk.c 667 (ok_callS (idx := 25) ⟨wd_t_447, wd_t_0, by decide +kernel, by decide +kernel⟩ wd_t_445 wd_t_446 (by decide +kernel) rfl) ?_
  refine hAllOk.c 668 (ok_no) ?_
  refine hAllOk.c 669 (ok_no) ?_
  refine hAllOk.c 670 (ok_icne (off := 17) (by decide +kernel) (by decide +kernel) rfl) ?_
  refine hAllOk.c 671 (ok_no) ?_
  refine hAllOk.c 672 (ok_no) ?_
  refine hAllOk.c 673 (ok_aload_n (f := 0) rfl (by decide +kernel) rfl) ?_
  refine hAllOk.c 674 (ok_iconst (n := 3) (by decide +kernel) (by decide +kernel) rfl) ?_
  refine hAllOk.c 675 (ok_callV (idx := 19) ⟨wd_t_393, wd_t_1, by decide +kernel, by decide +kernel⟩ rfl rfl wd_t_390 wd_t_391 wd_t_392 (by decide +kernel) rfl) ?_
  refine hAllOk.c 676 (ok_no) ?_
  refine hAllOk.c 677 (ok_no) ?_
  refine hAllOk.c 678 (ok_bipush (n := -5) (by decide +kernel) (by decide +kernel) rfl) ?_
  refine hAllOk.c 679 (ok_no) ?_
  refine hAllOk.c 680 (ok_icne (off := 7) (by decide +kernel) (by decide +kernel) rfl) ?_
  refine hAllOk.c 681 (ok_no) ?_
  refine hAllOk.c 682 (ok_no) ?_
  refine hAllOk.c 683 (ok_iconst (n := 1) (by decide +kernel) (by decide +kernel) rfl) ?_
  refine hAllOk.c 684 (ok_goto (off := 21) (by decide +kernel) (by decide +kernel)) ?_
  refine hAllOk.c 685 (ok_no) ?_
  refine hAllOk.c 686 (ok_no) ?_
  refine hAllOk.c 687 (ok_iconst (n := 0) (by decide +kernel) (by decide +kernel) rfl) ?_
  refine hAllOk.c 688 (ok_goto (off := 17) (by decide +kernel) (by decide +kernel)) ?_
  refine hAllOk.c 689 (ok_no) ?_
  refine hAllOk.c 690 (ok_no) ?_
  refine hAllOk.c 691 (ok_aload_n (f := 0) rfl (by decide +kernel) rfl) ?_
  refine hAllOk.c 692 (ok_callV (idx := 98) ⟨wd_t_612, wd_t_1, by decide +kernel, by decide +kernel⟩ rfl rfl wd_t_609 wd_t_610 wd_t_611 (by decide +kernel) rfl) ?_
  refine hAllOk.c 693 (ok_no) ?_
  refine hAllOk.c 694 (ok_no) ?_
  refine hAllOk.c 695 (ok_bipush (n := -4) (by decide +kernel) (by decide +kernel) rfl) ?_
  refine hAllOk.c 696 (ok_no) ?_
  refine hAllOk.c 697 (ok_icne (off := 7) (by decide +kernel) (by decide +kernel) rfl) ?_
  refine hAllOk.c 698 (ok_no) ?_
  refine hAllOk.c 699 (ok_no) ?_
  refine hAllOk.c 700 (ok_iconst (n := 1) (by decide +kernel) (by decide +kernel) rfl) ?_
  refine hAllOk.c 701 (ok_goto (off := 4) (by decide +kernel) (by decide +kernel)) ?_
  refine hAllOk.c 702 (ok_no) ?_
  refine hAllOk.c 703 (ok_no) ?_
  refine hAllOk.c 704 (ok_iconst (n := 0) (by decide +kernel) (by decide +kernel) rfl) ?_
  refine hAllOk.c 705 (ok_ireturn (by decide +kernel)) ?_
  trivial
