theorem wd_t_9 : Cond.classLink RL 7 RX5 ∈ hTb := hTb_t (List.mem_of_getElem? (i := 9) (by decide +kernel)) (by decide +kernel)
theorem wd_t_10 : Cond.instantiable RX5 8 ∈ hTb := hTb_t (List.mem_of_getElem? (i := 10) (by decide +kernel)) (by decide +kernel)
theorem wd_t_11 : Cond.methodLink RL 9 yX5_init ∈ hTb := hTb_t (List.mem_of_getElem? (i := 11) (by decide +kernel)) (by decide +kernel)
theorem wd_t_13 : Cond.code yX5_init prog_1_method_1_code 1 none ∈ hTb := hTb_t (List.mem_of_getElem? (i := 13) (by decide +kernel)) (by decide +kernel)
theorem wd_t_12 : Cond.instanceMethod yX5_init ∈ hTb := hTb_t (List.mem_of_getElem? (i := 12) (by decide +kernel)) (by decide +kernel)
theorem wd_t_595 : Cond.classLink RL 10 RX6 ∈ hTb := hTb_t (List.mem_of_getElem? (i := 595) (by decide +kernel)) (by decide +kernel)
theorem wd_t_596 : Cond.instantiable RX6 16 ∈ hTb := hTb_t (List.mem_of_getElem? (i := 596) (by decide +kernel)) (by decide +kernel)
theorem wd_t_597 : Cond.methodLink RL 12 yX6_init ∈ hTb := hTb_t (List.mem_of_getElem? (i := 597) (by decide +kernel)) (by decide +kernel)
theorem wd_t_599 : Cond.code yX6_init prog_8_method_1_code 1 none ∈ hTb := hTb_t (List.mem_of_getElem? (i := 599) (by decide +kernel)) (by decide +kernel)
theorem wd_t_598 : Cond.instanceMethod yX6_init ∈ hTb := hTb_t (List.mem_of_getElem? (i := 598) (by decide +kernel)) (by decide +kernel)
theorem wd_t_220 : Cond.methodLink RL 13 yX5_addGuest ∈ hTb := hTb_t (List.mem_of_getElem? (i := 220) (by decide +kernel)) (by decide +kernel)
theorem wd_t_223 : Cond.code yX5_addGuest prog_1_method_2_code 3 (some .int) ∈ hTb := hTb_t (List.mem_of_getElem? (i := 223) (by decide +kernel)) (by decide +kernel)
theorem wd_t_221 : Cond.instanceMethod yX5_addGuest ∈ hTb := hTb_t (List.mem_of_getElem? (i := 221) (by decide +kernel)) (by decide +kernel)
theorem wd_t_222 : Cond.selects RX5 yX5_addGuest yX5_addGuest ∈ hTb := hTb_t (List.mem_of_getElem? (i := 222) (by decide +kernel)) (by decide +kernel)
theorem wd_t_652 : Cond.methodLink RL 17 yX6_addGuest ∈ hTb := hTb_t (List.mem_of_getElem? (i := 652) (by decide +kernel)) (by decide +kernel)
theorem wd_t_655 : Cond.code yX6_addGuest prog_8_method_27_code 4 (some .int) ∈ hTb := hTb_t (List.mem_of_getElem? (i := 655) (by decide +kernel)) (by decide +kernel)
theorem wd_t_653 : Cond.instanceMethod yX6_addGuest ∈ hTb := hTb_t (List.mem_of_getElem? (i := 653) (by decide +kernel)) (by decide +kernel)
theorem wd_t_654 : Cond.selects RX6 yX6_addGuest yX6_addGuest ∈ hTb := hTb_t (List.mem_of_getElem? (i := 654) (by decide +kernel)) (by decide +kernel)
theorem wd_t_267 : Cond.methodLink RL 18 yX5_setCondition ∈ hTb := hTb_t (List.mem_of_getElem? (i := 267) (by decide +kernel)) (by decide +kernel)
theorem wd_t_270 : Cond.code yX5_setCondition prog_1_method_3_code 4 (some .int) ∈ hTb := hTb_t (List.mem_of_getElem? (i := 270) (by decide +kernel)) (by decide +kernel)
theorem wd_t_268 : Cond.instanceMethod yX5_setCondition ∈ hTb := hTb_t (List.mem_of_getElem? (i := 268) (by decide +kernel)) (by decide +kernel)
theorem wd_t_269 : Cond.selects RX5 yX5_setCondition yX5_setCondition ∈ hTb := hTb_t (List.mem_of_getElem? (i := 269) (by decide +kernel)) (by decide +kernel)
theorem wd_t_674 : Cond.methodLink RL 22 yX6_setCondition ∈ hTb := hTb_t (List.mem_of_getElem? (i := 674) (by decide +kernel)) (by decide +kernel)
theorem wd_t_677 : Cond.code yX6_setCondition prog_8_method_29_code 5 (some .int) ∈ hTb := hTb_t (List.mem_of_getElem? (i := 677) (by decide +kernel)) (by decide +kernel)
theorem wd_t_675 : Cond.instanceMethod yX6_setCondition ∈ hTb := hTb_t (List.mem_of_getElem? (i := 675) (by decide +kernel)) (by decide +kernel)
theorem wd_t_676 : Cond.selects RX6 yX6_setCondition yX6_setCondition ∈ hTb := hTb_t (List.mem_of_getElem? (i := 676) (by decide +kernel)) (by decide +kernel)
theorem wd_t_354 : Cond.methodLink RL 23 yX5_setLimit ∈ hTb := hTb_t (List.mem_of_getElem? (i := 354) (by decide +kernel)) (by decide +kernel)
theorem wd_t_357 : Cond.code yX5_setLimit prog_1_method_4_code 5 (some .int) ∈ hTb := hTb_t (List.mem_of_getElem? (i := 357) (by decide +kernel)) (by decide +kernel)
theorem wd_t_355 : Cond.instanceMethod yX5_setLimit ∈ hTb := hTb_t (List.mem_of_getElem? (i := 355) (by decide +kernel)) (by decide +kernel)
theorem wd_t_356 : Cond.selects RX5 yX5_setLimit yX5_setLimit ∈ hTb := hTb_t (List.mem_of_getElem? (i := 356) (by decide +kernel)) (by decide +kernel)
theorem wd_t_720 : Cond.methodLink RL 26 yX6_setLimit ∈ hTb := hTb_t (List.mem_of_getElem? (i := 720) (by decide +kernel)) (by decide +kernel)
theorem wd_t_723 : Cond.code yX6_setLimit prog_8_method_31_code 4 (some .int) ∈ hTb := hTb_t (List.mem_of_getElem? (i := 723) (by decide +kernel)) (by decide +kernel)
theorem wd_t_721 : Cond.instanceMethod yX6_setLimit ∈ hTb := hTb_t (List.mem_of_getElem? (i := 721) (by decide +kernel)) (by decide +kernel)
theorem wd_t_722 : Cond.selects RX6 yX6_setLimit yX6_setLimit ∈ hTb := hTb_t (List.mem_of_getElem? (i := 722) (by decide +kernel)) (by decide +kernel)
theorem wd_t_358 : Cond.methodLink RL 27 yX5_setWeight ∈ hTb := hTb_t (List.mem_of_getElem? (i := 358) (by decide +kernel)) (by decide +kernel)
theorem wd_t_361 : Cond.code yX5_setWeight prog_1_method_5_code 5 (some .int) ∈ hTb := hTb_t (List.mem_of_getElem? (i := 361) (by decide +kernel)) (by decide +kernel)
theorem wd_t_359 : Cond.instanceMethod yX5_setWeight ∈ hTb := hTb_t (List.mem_of_getElem? (i := 359) (by decide +kernel)) (by decide +kernel)
theorem wd_t_360 : Cond.selects RX5 yX5_setWeight yX5_setWeight ∈ hTb := hTb_t (List.mem_of_getElem? (i := 360) (by decide +kernel)) (by decide +kernel)
theorem wd_t_728 : Cond.methodLink RL 30 yX6_setWeight ∈ hTb := hTb_t (List.mem_of_getElem? (i := 728) (by decide +kernel)) (by decide +kernel)
theorem wd_t_731 : Cond.code yX6_setWeight prog_8_method_32_code 3 (some .int) ∈ hTb := hTb_t (List.mem_of_getElem? (i := 731) (by decide +kernel)) (by decide +kernel)
theorem wd_t_729 : Cond.instanceMethod yX6_setWeight ∈ hTb := hTb_t (List.mem_of_getElem? (i := 729) (by decide +kernel)) (by decide +kernel)
theorem wd_t_730 : Cond.selects RX6 yX6_setWeight yX6_setWeight ∈ hTb := hTb_t (List.mem_of_getElem? (i := 730) (by decide +kernel)) (by decide +kernel)
theorem wd_t_362 : Cond.methodLink RL 31 yX5_invite ∈ hTb := hTb_t (List.mem_of_getElem? (i := 362) (by decide +kernel)) (by decide +kernel)
theorem wd_t_365 : Cond.code yX5_invite prog_1_method_6_code 4 (some .int) ∈ hTb := hTb_t (List.mem_of_getElem? (i := 365) (by decide +kernel)) (by decide +kernel)
theorem wd_t_363 : Cond.instanceMethod yX5_invite ∈ hTb := hTb_t (List.mem_of_getElem? (i := 363) (by decide +kernel)) (by decide +kernel)
theorem wd_t_364 : Cond.selects RX5 yX5_invite yX5_invite ∈ hTb := hTb_t (List.mem_of_getElem? (i := 364) (by decide +kernel)) (by decide +kernel)
theorem wd_t_732 : Cond.methodLink RL 35 yX6_invite ∈ hTb := hTb_t (List.mem_of_getElem? (i := 732) (by decide +kernel)) (by decide +kernel)
theorem wd_t_735 : Cond.code yX6_invite prog_8_method_33_code 4 (some .int) ∈ hTb := hTb_t (List.mem_of_getElem? (i := 735) (by decide +kernel)) (by decide +kernel)
theorem wd_t_733 : Cond.instanceMethod yX6_invite ∈ hTb := hTb_t (List.mem_of_getElem? (i := 733) (by decide +kernel)) (by decide +kernel)
theorem wd_t_734 : Cond.selects RX6 yX6_invite yX6_invite ∈ hTb := hTb_t (List.mem_of_getElem? (i := 734) (by decide +kernel)) (by decide +kernel)
theorem wd_t_370 : Cond.methodLink RL 36 yX5_set ∈ hTb := hTb_t (List.mem_of_getElem? (i := 370) (by decide +kernel)) (by decide +kernel)
theorem wd_t_373 : Cond.code yX5_set prog_1_method_7_code 4 (some .int) ∈ hTb := hTb_t (List.mem_of_getElem? (i := 373) (by decide +kernel)) (by decide +kernel)
theorem wd_t_371 : Cond.instanceMethod yX5_set ∈ hTb := hTb_t (List.mem_of_getElem? (i := 371) (by decide +kernel)) (by decide +kernel)
theorem wd_t_372 : Cond.selects RX5 yX5_set yX5_set ∈ hTb := hTb_t (List.mem_of_getElem? (i := 372) (by decide +kernel)) (by decide +kernel)
theorem wd_t_744 : Cond.methodLink RL 39 yX6_set ∈ hTb := hTb_t (List.mem_of_getElem? (i := 744) (by decide +kernel)) (by decide +kernel)
theorem wd_t_747 : Cond.code yX6_set prog_8_method_34_code 3 (some .int) ∈ hTb := hTb_t (List.mem_of_getElem? (i := 747) (by decide +kernel)) (by decide +kernel)
theorem wd_t_745 : Cond.instanceMethod yX6_set ∈ hTb := hTb_t (List.mem_of_getElem? (i := 745) (by decide +kernel)) (by decide +kernel)
theorem wd_t_746 : Cond.selects RX6 yX6_set yX6_set ∈ hTb := hTb_t (List.mem_of_getElem? (i := 746) (by decide +kernel)) (by decide +kernel)
theorem wd_t_378 : Cond.methodLink RL 40 yX5_pass ∈ hTb := hTb_t (List.mem_of_getElem? (i := 378) (by decide +kernel)) (by decide +kernel)
theorem wd_t_381 : Cond.code yX5_pass prog_1_method_8_code 2 (some .int) ∈ hTb := hTb_t (List.mem_of_getElem? (i := 381) (by decide +kernel)) (by decide +kernel)
theorem wd_t_379 : Cond.instanceMethod yX5_pass ∈ hTb := hTb_t (List.mem_of_getElem? (i := 379) (by decide +kernel)) (by decide +kernel)
theorem wd_t_380 : Cond.selects RX5 yX5_pass yX5_pass ∈ hTb := hTb_t (List.mem_of_getElem? (i := 380) (by decide +kernel)) (by decide +kernel)
theorem wd_t_748 : Cond.methodLink RL 43 yX6_pass ∈ hTb := hTb_t (List.mem_of_getElem? (i := 748) (by decide +kernel)) (by decide +kernel)
theorem wd_t_751 : Cond.code yX6_pass prog_8_method_35_code 2 (some .int) ∈ hTb := hTb_t (List.mem_of_getElem? (i := 751) (by decide +kernel)) (by decide +kernel)
theorem wd_t_749 : Cond.instanceMethod yX6_pass ∈ hTb := hTb_t (List.mem_of_getElem? (i := 749) (by decide +kernel)) (by decide +kernel)
theorem wd_t_750 : Cond.selects RX6 yX6_pass yX6_pass ∈ hTb := hTb_t (List.mem_of_getElem? (i := 750) (by decide +kernel)) (by decide +kernel)
theorem wd_t_382 : Cond.methodLink RL 44 yX5_fix ∈ hTb := hTb_t (List.mem_of_getElem? (i := 382) (by decide +kernel)) (by decide +kernel)
theorem wd_t_385 : Cond.code yX5_fix prog_1_method_9_code 2 (some .int) ∈ hTb := hTb_t (List.mem_of_getElem? (i := 385) (by decide +kernel)) (by decide +kernel)
theorem wd_t_383 : Cond.instanceMethod yX5_fix ∈ hTb := hTb_t (List.mem_of_getElem? (i := 383) (by decide +kernel)) (by decide +kernel)
theorem wd_t_384 : Cond.selects RX5 yX5_fix yX5_fix ∈ hTb := hTb_t (List.mem_of_getElem? (i := 384) (by decide +kernel)) (by decide +kernel)
theorem wd_t_752 : Cond.methodLink RL 48 yX6_fix ∈ hTb := hTb_t (List.mem_of_getElem? (i := 752) (by decide +kernel)) (by decide +kernel)
theorem wd_t_755 : Cond.code yX6_fix prog_8_method_36_code 7 (some .int) ∈ hTb := hTb_t (List.mem_of_getElem? (i := 755) (by decide +kernel)) (by decide +kernel)
theorem wd_t_753 : Cond.instanceMethod yX6_fix ∈ hTb := hTb_t (List.mem_of_getElem? (i := 753) (by decide +kernel)) (by decide +kernel)
theorem wd_t_754 : Cond.selects RX6 yX6_fix yX6_fix ∈ hTb := hTb_t (List.mem_of_getElem? (i := 754) (by decide +kernel)) (by decide +kernel)
theorem wd_t_461 : Cond.methodLink RL 49 yX5_cancel ∈ hTb := hTb_t (List.mem_of_getElem? (i := 461) (by decide +kernel)) (by decide +kernel)
theorem wd_t_464 : Cond.code yX5_cancel prog_1_method_10_code 2 (some .int) ∈ hTb := hTb_t (List.mem_of_getElem? (i := 464) (by decide +kernel)) (by decide +kernel)
theorem wd_t_462 : Cond.instanceMethod yX5_cancel ∈ hTb := hTb_t (List.mem_of_getElem? (i := 462) (by decide +kernel)) (by decide +kernel)
theorem wd_t_463 : Cond.selects RX5 yX5_cancel yX5_cancel ∈ hTb := hTb_t (List.mem_of_getElem? (i := 463) (by decide +kernel)) (by decide +kernel)
theorem wd_t_780 : Cond.methodLink RL 52 yX6_cancel ∈ hTb := hTb_t (List.mem_of_getElem? (i := 780) (by decide +kernel)) (by decide +kernel)
theorem wd_t_783 : Cond.code yX6_cancel prog_8_method_37_code 6 (some .int) ∈ hTb := hTb_t (List.mem_of_getElem? (i := 783) (by decide +kernel)) (by decide +kernel)
theorem wd_t_781 : Cond.instanceMethod yX6_cancel ∈ hTb := hTb_t (List.mem_of_getElem? (i := 781) (by decide +kernel)) (by decide +kernel)
theorem wd_t_782 : Cond.selects RX6 yX6_cancel yX6_cancel ∈ hTb := hTb_t (List.mem_of_getElem? (i := 782) (by decide +kernel)) (by decide +kernel)
theorem wd_t_477 : Cond.methodLink RL 53 yX5_dissolve ∈ hTb := hTb_t (List.mem_of_getElem? (i := 477) (by decide +kernel)) (by decide +kernel)
theorem wd_t_480 : Cond.code yX5_dissolve prog_1_method_11_code 1 (some .int) ∈ hTb := hTb_t (List.mem_of_getElem? (i := 480) (by decide +kernel)) (by decide +kernel)
theorem wd_t_478 : Cond.instanceMethod yX5_dissolve ∈ hTb := hTb_t (List.mem_of_getElem? (i := 478) (by decide +kernel)) (by decide +kernel)
theorem wd_t_479 : Cond.selects RX5 yX5_dissolve yX5_dissolve ∈ hTb := hTb_t (List.mem_of_getElem? (i := 479) (by decide +kernel)) (by decide +kernel)
theorem wd_t_784 : Cond.methodLink RL 56 yX6_dissolve ∈ hTb := hTb_t (List.mem_of_getElem? (i := 784) (by decide +kernel)) (by decide +kernel)
theorem wd_t_787 : Cond.code yX6_dissolve prog_8_method_38_code 3 (some .int) ∈ hTb := hTb_t (List.mem_of_getElem? (i := 787) (by decide +kernel)) (by decide +kernel)
theorem wd_t_785 : Cond.instanceMethod yX6_dissolve ∈ hTb := hTb_t (List.mem_of_getElem? (i := 785) (by decide +kernel)) (by decide +kernel)
theorem wd_t_786 : Cond.selects RX6 yX6_dissolve yX6_dissolve ∈ hTb := hTb_t (List.mem_of_getElem? (i := 786) (by decide +kernel)) (by decide +kernel)
theorem wd_t_485 : Cond.methodLink RL 57 yX5_type ∈ hTb := hTb_t (List.mem_of_getElem? (i := 485) (by decide +kernel)) (by decide +kernel)
theorem wd_t_488 : Cond.code yX5_type prog_1_method_12_code 2 (some .int) ∈ hTb := hTb_t (List.mem_of_getElem? (i := 488) (by decide +kernel)) (by decide +kernel)
theorem wd_t_486 : Cond.instanceMethod yX5_type ∈ hTb := hTb_t (List.mem_of_getElem? (i := 486) (by decide +kernel)) (by decide +kernel)
theorem wd_t_487 : Cond.selects RX5 yX5_type yX5_type ∈ hTb := hTb_t (List.mem_of_getElem? (i := 487) (by decide +kernel)) (by decide +kernel)
theorem wd_t_788 : Cond.methodLink RL 61 yX6_type ∈ hTb := hTb_t (List.mem_of_getElem? (i := 788) (by decide +kernel)) (by decide +kernel)
theorem wd_t_791 : Cond.code yX6_type prog_8_method_39_code 2 (some .int) ∈ hTb := hTb_t (List.mem_of_getElem? (i := 791) (by decide +kernel)) (by decide +kernel)
theorem wd_t_789 : Cond.instanceMethod yX6_type ∈ hTb := hTb_t (List.mem_of_getElem? (i := 789) (by decide +kernel)) (by decide +kernel)
theorem wd_t_790 : Cond.selects RX6 yX6_type yX6_type ∈ hTb := hTb_t (List.mem_of_getElem? (i := 790) (by decide +kernel)) (by decide +kernel)
theorem wd_t_489 : Cond.methodLink RL 62 yX5_clearText ∈ hTb := hTb_t (List.mem_of_getElem? (i := 489) (by decide +kernel)) (by decide +kernel)
theorem wd_t_492 : Cond.code yX5_clearText prog_1_method_13_code 2 (some .int) ∈ hTb := hTb_t (List.mem_of_getElem? (i := 492) (by decide +kernel)) (by decide +kernel)
theorem wd_t_490 : Cond.instanceMethod yX5_clearText ∈ hTb := hTb_t (List.mem_of_getElem? (i := 490) (by decide +kernel)) (by decide +kernel)
theorem wd_t_491 : Cond.selects RX5 yX5_clearText yX5_clearText ∈ hTb := hTb_t (List.mem_of_getElem? (i := 491) (by decide +kernel)) (by decide +kernel)
theorem wd_t_792 : Cond.methodLink RL 65 yX6_clearText ∈ hTb := hTb_t (List.mem_of_getElem? (i := 792) (by decide +kernel)) (by decide +kernel)
theorem wd_t_795 : Cond.code yX6_clearText prog_8_method_40_code 2 (some .int) ∈ hTb := hTb_t (List.mem_of_getElem? (i := 795) (by decide +kernel)) (by decide +kernel)
theorem wd_t_793 : Cond.instanceMethod yX6_clearText ∈ hTb := hTb_t (List.mem_of_getElem? (i := 793) (by decide +kernel)) (by decide +kernel)
theorem wd_t_794 : Cond.selects RX6 yX6_clearText yX6_clearText ∈ hTb := hTb_t (List.mem_of_getElem? (i := 794) (by decide +kernel)) (by decide +kernel)
theorem wd_t_493 : Cond.methodLink RL 66 yX5_undo ∈ hTb := hTb_t (List.mem_of_getElem? (i := 493) (by decide +kernel)) (by decide +kernel)
theorem wd_t_496 : Cond.code yX5_undo prog_1_method_14_code 1 (some .int) ∈ hTb := hTb_t (List.mem_of_getElem? (i := 496) (by decide +kernel)) (by decide +kernel)
theorem wd_t_494 : Cond.instanceMethod yX5_undo ∈ hTb := hTb_t (List.mem_of_getElem? (i := 494) (by decide +kernel)) (by decide +kernel)
theorem wd_t_495 : Cond.selects RX5 yX5_undo yX5_undo ∈ hTb := hTb_t (List.mem_of_getElem? (i := 495) (by decide +kernel)) (by decide +kernel)
theorem wd_t_796 : Cond.methodLink RL 69 yX6_undo ∈ hTb := hTb_t (List.mem_of_getElem? (i := 796) (by decide +kernel)) (by decide +kernel)
theorem wd_t_799 : Cond.code yX6_undo prog_8_method_41_code 2 (some .int) ∈ hTb := hTb_t (List.mem_of_getElem? (i := 799) (by decide +kernel)) (by decide +kernel)
theorem wd_t_797 : Cond.instanceMethod yX6_undo ∈ hTb := hTb_t (List.mem_of_getElem? (i := 797) (by decide +kernel)) (by decide +kernel)
theorem wd_t_798 : Cond.selects RX6 yX6_undo yX6_undo ∈ hTb := hTb_t (List.mem_of_getElem? (i := 798) (by decide +kernel)) (by decide +kernel)
theorem wd_t_501 : Cond.methodLink RL 70 yX5_keep ∈ hTb := hTb_t (List.mem_of_getElem? (i := 501) (by decide +kernel)) (by decide +kernel)
theorem wd_t_504 : Cond.code yX5_keep prog_1_method_15_code 1 (some .int) ∈ hTb := hTb_t (List.mem_of_getElem? (i := 504) (by decide +kernel)) (by decide +kernel)
theorem wd_t_502 : Cond.instanceMethod yX5_keep ∈ hTb := hTb_t (List.mem_of_getElem? (i := 502) (by decide +kernel)) (by decide +kernel)
theorem wd_t_503 : Cond.selects RX5 yX5_keep yX5_keep ∈ hTb := hTb_t (List.mem_of_getElem? (i := 503) (by decide +kernel)) (by decide +kernel)
theorem wd_t_800 : Cond.methodLink RL 73 yX6_keep ∈ hTb := hTb_t (List.mem_of_getElem? (i := 800) (by decide +kernel)) (by decide +kernel)
theorem wd_t_803 : Cond.code yX6_keep prog_8_method_42_code 2 (some .int) ∈ hTb := hTb_t (List.mem_of_getElem? (i := 803) (by decide +kernel)) (by decide +kernel)
theorem wd_t_801 : Cond.instanceMethod yX6_keep ∈ hTb := hTb_t (List.mem_of_getElem? (i := 801) (by decide +kernel)) (by decide +kernel)
theorem wd_t_802 : Cond.selects RX6 yX6_keep yX6_keep ∈ hTb := hTb_t (List.mem_of_getElem? (i := 802) (by decide +kernel)) (by decide +kernel)
theorem wd_t_506 : Cond.methodLink RL 74 yX5_restore ∈ hTb := hTb_t (List.mem_of_getElem? (i := 506) (by decide +kernel)) (by decide +kernel)
theorem wd_t_509 : Cond.code yX5_restore prog_1_method_16_code 1 (some .int) ∈ hTb := hTb_t (List.mem_of_getElem? (i := 509) (by decide +kernel)) (by decide +kernel)
theorem wd_t_507 : Cond.instanceMethod yX5_restore ∈ hTb := hTb_t (List.mem_of_getElem? (i := 507) (by decide +kernel)) (by decide +kernel)
theorem wd_t_508 : Cond.selects RX5 yX5_restore yX5_restore ∈ hTb := hTb_t (List.mem_of_getElem? (i := 508) (by decide +kernel)) (by decide +kernel)
theorem wd_t_804 : Cond.methodLink RL 77 yX6_restore ∈ hTb := hTb_t (List.mem_of_getElem? (i := 804) (by decide +kernel)) (by decide +kernel)
theorem wd_t_807 : Cond.code yX6_restore prog_8_method_43_code 2 (some .int) ∈ hTb := hTb_t (List.mem_of_getElem? (i := 807) (by decide +kernel)) (by decide +kernel)
theorem wd_t_805 : Cond.instanceMethod yX6_restore ∈ hTb := hTb_t (List.mem_of_getElem? (i := 805) (by decide +kernel)) (by decide +kernel)
theorem wd_t_806 : Cond.selects RX6 yX6_restore yX6_restore ∈ hTb := hTb_t (List.mem_of_getElem? (i := 806) (by decide +kernel)) (by decide +kernel)
theorem wd_t_510 : Cond.methodLink RL 78 yX5_guest ∈ hTb := hTb_t (List.mem_of_getElem? (i := 510) (by decide +kernel)) (by decide +kernel)
theorem wd_t_513 : Cond.code yX5_guest prog_1_method_17_code 4 (some .int) ∈ hTb := hTb_t (List.mem_of_getElem? (i := 513) (by decide +kernel)) (by decide +kernel)
theorem wd_t_511 : Cond.instanceMethod yX5_guest ∈ hTb := hTb_t (List.mem_of_getElem? (i := 511) (by decide +kernel)) (by decide +kernel)
theorem wd_t_512 : Cond.selects RX5 yX5_guest yX5_guest ∈ hTb := hTb_t (List.mem_of_getElem? (i := 512) (by decide +kernel)) (by decide +kernel)
theorem wd_t_808 : Cond.methodLink RL 81 yX6_guest ∈ hTb := hTb_t (List.mem_of_getElem? (i := 808) (by decide +kernel)) (by decide +kernel)
theorem wd_t_811 : Cond.code yX6_guest prog_8_method_44_code 3 (some .int) ∈ hTb := hTb_t (List.mem_of_getElem? (i := 811) (by decide +kernel)) (by decide +kernel)
theorem wd_t_809 : Cond.instanceMethod yX6_guest ∈ hTb := hTb_t (List.mem_of_getElem? (i := 809) (by decide +kernel)) (by decide +kernel)
theorem wd_t_810 : Cond.selects RX6 yX6_guest yX6_guest ∈ hTb := hTb_t (List.mem_of_getElem? (i := 810) (by decide +kernel)) (by decide +kernel)
theorem wd_t_521 : Cond.methodLink RL 82 yX5_met ∈ hTb := hTb_t (List.mem_of_getElem? (i := 521) (by decide +kernel)) (by decide +kernel)
theorem wd_t_524 : Cond.code yX5_met prog_1_method_18_code 4 (some .int) ∈ hTb := hTb_t (List.mem_of_getElem? (i := 524) (by decide +kernel)) (by decide +kernel)
theorem wd_t_522 : Cond.instanceMethod yX5_met ∈ hTb := hTb_t (List.mem_of_getElem? (i := 522) (by decide +kernel)) (by decide +kernel)
theorem wd_t_523 : Cond.selects RX5 yX5_met yX5_met ∈ hTb := hTb_t (List.mem_of_getElem? (i := 523) (by decide +kernel)) (by decide +kernel)
theorem wd_t_812 : Cond.methodLink RL 85 yX6_met ∈ hTb := hTb_t (List.mem_of_getElem? (i := 812) (by decide +kernel)) (by decide +kernel)
theorem wd_t_815 : Cond.code yX6_met prog_8_method_46_code 3 (some .int) ∈ hTb := hTb_t (List.mem_of_getElem? (i := 815) (by decide +kernel)) (by decide +kernel)
theorem wd_t_813 : Cond.instanceMethod yX6_met ∈ hTb := hTb_t (List.mem_of_getElem? (i := 813) (by decide +kernel)) (by decide +kernel)
theorem wd_t_814 : Cond.selects RX6 yX6_met yX6_met ∈ hTb := hTb_t (List.mem_of_getElem? (i := 814) (by decide +kernel)) (by decide +kernel)
theorem wd_t_527 : Cond.methodLink RL 86 yX5_stable ∈ hTb := hTb_t (List.mem_of_getElem? (i := 527) (by decide +kernel)) (by decide +kernel)
theorem wd_t_530 : Cond.code yX5_stable prog_1_method_19_code 2 (some .int) ∈ hTb := hTb_t (List.mem_of_getElem? (i := 530) (by decide +kernel)) (by decide +kernel)
theorem wd_t_528 : Cond.instanceMethod yX5_stable ∈ hTb := hTb_t (List.mem_of_getElem? (i := 528) (by decide +kernel)) (by decide +kernel)
theorem wd_t_529 : Cond.selects RX5 yX5_stable yX5_stable ∈ hTb := hTb_t (List.mem_of_getElem? (i := 529) (by decide +kernel)) (by decide +kernel)
theorem wd_t_820 : Cond.methodLink RL 89 yX6_stable ∈ hTb := hTb_t (List.mem_of_getElem? (i := 820) (by decide +kernel)) (by decide +kernel)
theorem wd_t_823 : Cond.code yX6_stable prog_8_method_47_code 2 (some .int) ∈ hTb := hTb_t (List.mem_of_getElem? (i := 823) (by decide +kernel)) (by decide +kernel)
theorem wd_t_821 : Cond.instanceMethod yX6_stable ∈ hTb := hTb_t (List.mem_of_getElem? (i := 821) (by decide +kernel)) (by decide +kernel)
theorem wd_t_822 : Cond.selects RX6 yX6_stable yX6_stable ∈ hTb := hTb_t (List.mem_of_getElem? (i := 822) (by decide +kernel)) (by decide +kernel)
theorem wd_t_532 : Cond.methodLink RL 90 yX5_fee ∈ hTb := hTb_t (List.mem_of_getElem? (i := 532) (by decide +kernel)) (by decide +kernel)
theorem wd_t_535 : Cond.code yX5_fee prog_1_method_20_code 2 (some .int) ∈ hTb := hTb_t (List.mem_of_getElem? (i := 535) (by decide +kernel)) (by decide +kernel)
theorem wd_t_533 : Cond.instanceMethod yX5_fee ∈ hTb := hTb_t (List.mem_of_getElem? (i := 533) (by decide +kernel)) (by decide +kernel)
theorem wd_t_534 : Cond.selects RX5 yX5_fee yX5_fee ∈ hTb := hTb_t (List.mem_of_getElem? (i := 534) (by decide +kernel)) (by decide +kernel)
theorem wd_t_824 : Cond.methodLink RL 93 yX6_fee ∈ hTb := hTb_t (List.mem_of_getElem? (i := 824) (by decide +kernel)) (by decide +kernel)
theorem wd_t_827 : Cond.code yX6_fee prog_8_method_48_code 2 (some .int) ∈ hTb := hTb_t (List.mem_of_getElem? (i := 827) (by decide +kernel)) (by decide +kernel)
theorem wd_t_825 : Cond.instanceMethod yX6_fee ∈ hTb := hTb_t (List.mem_of_getElem? (i := 825) (by decide +kernel)) (by decide +kernel)
theorem wd_t_826 : Cond.selects RX6 yX6_fee yX6_fee ∈ hTb := hTb_t (List.mem_of_getElem? (i := 826) (by decide +kernel)) (by decide +kernel)
theorem wd_t_537 : Cond.methodLink RL 94 yX5_company ∈ hTb := hTb_t (List.mem_of_getElem? (i := 537) (by decide +kernel)) (by decide +kernel)
theorem wd_t_540 : Cond.code yX5_company prog_1_method_21_code 2 (some .int) ∈ hTb := hTb_t (List.mem_of_getElem? (i := 540) (by decide +kernel)) (by decide +kernel)
theorem wd_t_538 : Cond.instanceMethod yX5_company ∈ hTb := hTb_t (List.mem_of_getElem? (i := 538) (by decide +kernel)) (by decide +kernel)
theorem wd_t_539 : Cond.selects RX5 yX5_company yX5_company ∈ hTb := hTb_t (List.mem_of_getElem? (i := 539) (by decide +kernel)) (by decide +kernel)
theorem wd_t_828 : Cond.methodLink RL 97 yX6_company ∈ hTb := hTb_t (List.mem_of_getElem? (i := 828) (by decide +kernel)) (by decide +kernel)
theorem wd_t_831 : Cond.code yX6_company prog_8_method_49_code 2 (some .int) ∈ hTb := hTb_t (List.mem_of_getElem? (i := 831) (by decide +kernel)) (by decide +kernel)
theorem wd_t_829 : Cond.instanceMethod yX6_company ∈ hTb := hTb_t (List.mem_of_getElem? (i := 829) (by decide +kernel)) (by decide +kernel)
theorem wd_t_830 : Cond.selects RX6 yX6_company yX6_company ∈ hTb := hTb_t (List.mem_of_getElem? (i := 830) (by decide +kernel)) (by decide +kernel)
theorem wd_t_545 : Cond.methodLink RL 98 yX5_companies ∈ hTb := hTb_t (List.mem_of_getElem? (i := 545) (by decide +kernel)) (by decide +kernel)
theorem wd_t_548 : Cond.code yX5_companies prog_1_method_22_code 1 (some .int) ∈ hTb := hTb_t (List.mem_of_getElem? (i := 548) (by decide +kernel)) (by decide +kernel)
theorem wd_t_546 : Cond.instanceMethod yX5_companies ∈ hTb := hTb_t (List.mem_of_getElem? (i := 546) (by decide +kernel)) (by decide +kernel)
theorem wd_t_547 : Cond.selects RX5 yX5_companies yX5_companies ∈ hTb := hTb_t (List.mem_of_getElem? (i := 547) (by decide +kernel)) (by decide +kernel)
theorem wd_t_836 : Cond.methodLink RL 101 yX6_companies ∈ hTb := hTb_t (List.mem_of_getElem? (i := 836) (by decide +kernel)) (by decide +kernel)
theorem wd_t_839 : Cond.code yX6_companies prog_8_method_50_code 3 (some .int) ∈ hTb := hTb_t (List.mem_of_getElem? (i := 839) (by decide +kernel)) (by decide +kernel)
theorem wd_t_837 : Cond.instanceMethod yX6_companies ∈ hTb := hTb_t (List.mem_of_getElem? (i := 837) (by decide +kernel)) (by decide +kernel)
theorem wd_t_838 : Cond.selects RX6 yX6_companies yX6_companies ∈ hTb := hTb_t (List.mem_of_getElem? (i := 838) (by decide +kernel)) (by decide +kernel)
theorem wd_t_553 : Cond.methodLink RL 102 yX5_why ∈ hTb := hTb_t (List.mem_of_getElem? (i := 553) (by decide +kernel)) (by decide +kernel)
theorem wd_t_556 : Cond.code yX5_why prog_1_method_23_code 3 (some .int) ∈ hTb := hTb_t (List.mem_of_getElem? (i := 556) (by decide +kernel)) (by decide +kernel)
theorem wd_t_554 : Cond.instanceMethod yX5_why ∈ hTb := hTb_t (List.mem_of_getElem? (i := 554) (by decide +kernel)) (by decide +kernel)
theorem wd_t_555 : Cond.selects RX5 yX5_why yX5_why ∈ hTb := hTb_t (List.mem_of_getElem? (i := 555) (by decide +kernel)) (by decide +kernel)
theorem wd_t_840 : Cond.methodLink RL 105 yX6_why ∈ hTb := hTb_t (List.mem_of_getElem? (i := 840) (by decide +kernel)) (by decide +kernel)
theorem wd_t_843 : Cond.code yX6_why prog_8_method_52_code 5 (some .int) ∈ hTb := hTb_t (List.mem_of_getElem? (i := 843) (by decide +kernel)) (by decide +kernel)
theorem wd_t_841 : Cond.instanceMethod yX6_why ∈ hTb := hTb_t (List.mem_of_getElem? (i := 841) (by decide +kernel)) (by decide +kernel)
theorem wd_t_842 : Cond.selects RX6 yX6_why yX6_why ∈ hTb := hTb_t (List.mem_of_getElem? (i := 842) (by decide +kernel)) (by decide +kernel)
theorem wd_t_561 : Cond.methodLink RL 106 yX5_rounds ∈ hTb := hTb_t (List.mem_of_getElem? (i := 561) (by decide +kernel)) (by decide +kernel)
theorem wd_t_564 : Cond.code yX5_rounds prog_1_method_24_code 1 (some .int) ∈ hTb := hTb_t (List.mem_of_getElem? (i := 564) (by decide +kernel)) (by decide +kernel)
theorem wd_t_562 : Cond.instanceMethod yX5_rounds ∈ hTb := hTb_t (List.mem_of_getElem? (i := 562) (by decide +kernel)) (by decide +kernel)
theorem wd_t_563 : Cond.selects RX5 yX5_rounds yX5_rounds ∈ hTb := hTb_t (List.mem_of_getElem? (i := 563) (by decide +kernel)) (by decide +kernel)
theorem wd_t_848 : Cond.methodLink RL 109 yX6_rounds ∈ hTb := hTb_t (List.mem_of_getElem? (i := 848) (by decide +kernel)) (by decide +kernel)
theorem wd_t_851 : Cond.code yX6_rounds prog_8_method_53_code 1 (some .int) ∈ hTb := hTb_t (List.mem_of_getElem? (i := 851) (by decide +kernel)) (by decide +kernel)
theorem wd_t_849 : Cond.instanceMethod yX6_rounds ∈ hTb := hTb_t (List.mem_of_getElem? (i := 849) (by decide +kernel)) (by decide +kernel)
theorem wd_t_850 : Cond.selects RX6 yX6_rounds yX6_rounds ∈ hTb := hTb_t (List.mem_of_getElem? (i := 850) (by decide +kernel)) (by decide +kernel)
theorem wd_t_565 : Cond.methodLink RL 110 yX5_needs ∈ hTb := hTb_t (List.mem_of_getElem? (i := 565) (by decide +kernel)) (by decide +kernel)
theorem wd_t_568 : Cond.code yX5_needs prog_1_method_25_code 7 (some .int) ∈ hTb := hTb_t (List.mem_of_getElem? (i := 568) (by decide +kernel)) (by decide +kernel)
theorem wd_t_566 : Cond.instanceMethod yX5_needs ∈ hTb := hTb_t (List.mem_of_getElem? (i := 566) (by decide +kernel)) (by decide +kernel)
theorem wd_t_567 : Cond.selects RX5 yX5_needs yX5_needs ∈ hTb := hTb_t (List.mem_of_getElem? (i := 567) (by decide +kernel)) (by decide +kernel)
theorem wd_t_852 : Cond.methodLink RL 113 yX6_needs ∈ hTb := hTb_t (List.mem_of_getElem? (i := 852) (by decide +kernel)) (by decide +kernel)
theorem wd_t_855 : Cond.code yX6_needs prog_8_method_54_code 4 (some .int) ∈ hTb := hTb_t (List.mem_of_getElem? (i := 855) (by decide +kernel)) (by decide +kernel)
theorem wd_t_853 : Cond.instanceMethod yX6_needs ∈ hTb := hTb_t (List.mem_of_getElem? (i := 853) (by decide +kernel)) (by decide +kernel)
theorem wd_t_854 : Cond.selects RX6 yX6_needs yX6_needs ∈ hTb := hTb_t (List.mem_of_getElem? (i := 854) (by decide +kernel)) (by decide +kernel)
theorem wd_t_570 : Cond.methodLink RL 114 yX5_weightOf ∈ hTb := hTb_t (List.mem_of_getElem? (i := 570) (by decide +kernel)) (by decide +kernel)
theorem wd_t_573 : Cond.code yX5_weightOf prog_1_method_26_code 6 (some .int) ∈ hTb := hTb_t (List.mem_of_getElem? (i := 573) (by decide +kernel)) (by decide +kernel)
theorem wd_t_571 : Cond.instanceMethod yX5_weightOf ∈ hTb := hTb_t (List.mem_of_getElem? (i := 571) (by decide +kernel)) (by decide +kernel)
theorem wd_t_572 : Cond.selects RX5 yX5_weightOf yX5_weightOf ∈ hTb := hTb_t (List.mem_of_getElem? (i := 572) (by decide +kernel)) (by decide +kernel)
theorem wd_t_856 : Cond.methodLink RL 117 yX6_weightOf ∈ hTb := hTb_t (List.mem_of_getElem? (i := 856) (by decide +kernel)) (by decide +kernel)
theorem wd_t_859 : Cond.code yX6_weightOf prog_8_method_55_code 4 (some .int) ∈ hTb := hTb_t (List.mem_of_getElem? (i := 859) (by decide +kernel)) (by decide +kernel)
theorem wd_t_857 : Cond.instanceMethod yX6_weightOf ∈ hTb := hTb_t (List.mem_of_getElem? (i := 857) (by decide +kernel)) (by decide +kernel)
theorem wd_t_858 : Cond.selects RX6 yX6_weightOf yX6_weightOf ∈ hTb := hTb_t (List.mem_of_getElem? (i := 858) (by decide +kernel)) (by decide +kernel)
theorem wd_t_574 : Cond.methodLink RL 118 yX5_leastLimit ∈ hTb := hTb_t (List.mem_of_getElem? (i := 574) (by decide +kernel)) (by decide +kernel)
theorem wd_t_577 : Cond.code yX5_leastLimit prog_1_method_27_code 4 (some .int) ∈ hTb := hTb_t (List.mem_of_getElem? (i := 577) (by decide +kernel)) (by decide +kernel)
theorem wd_t_575 : Cond.instanceMethod yX5_leastLimit ∈ hTb := hTb_t (List.mem_of_getElem? (i := 575) (by decide +kernel)) (by decide +kernel)
theorem wd_t_576 : Cond.selects RX5 yX5_leastLimit yX5_leastLimit ∈ hTb := hTb_t (List.mem_of_getElem? (i := 576) (by decide +kernel)) (by decide +kernel)
theorem wd_t_860 : Cond.methodLink RL 121 yX6_leastLimit ∈ hTb := hTb_t (List.mem_of_getElem? (i := 860) (by decide +kernel)) (by decide +kernel)
theorem wd_t_863 : Cond.code yX6_leastLimit prog_8_method_56_code 4 (some .int) ∈ hTb := hTb_t (List.mem_of_getElem? (i := 863) (by decide +kernel)) (by decide +kernel)
theorem wd_t_861 : Cond.instanceMethod yX6_leastLimit ∈ hTb := hTb_t (List.mem_of_getElem? (i := 861) (by decide +kernel)) (by decide +kernel)
theorem wd_t_862 : Cond.selects RX6 yX6_leastLimit yX6_leastLimit ∈ hTb := hTb_t (List.mem_of_getElem? (i := 862) (by decide +kernel)) (by decide +kernel)
theorem wd_t_578 : Cond.methodLink RL 122 yX5_seat ∈ hTb := hTb_t (List.mem_of_getElem? (i := 578) (by decide +kernel)) (by decide +kernel)
theorem wd_t_581 : Cond.code yX5_seat prog_1_method_28_code 2 (some .int) ∈ hTb := hTb_t (List.mem_of_getElem? (i := 581) (by decide +kernel)) (by decide +kernel)
theorem wd_t_579 : Cond.instanceMethod yX5_seat ∈ hTb := hTb_t (List.mem_of_getElem? (i := 579) (by decide +kernel)) (by decide +kernel)
theorem wd_t_580 : Cond.selects RX5 yX5_seat yX5_seat ∈ hTb := hTb_t (List.mem_of_getElem? (i := 580) (by decide +kernel)) (by decide +kernel)
theorem wd_t_864 : Cond.methodLink RL 125 yX6_seat ∈ hTb := hTb_t (List.mem_of_getElem? (i := 864) (by decide +kernel)) (by decide +kernel)
theorem wd_t_867 : Cond.code yX6_seat prog_8_method_57_code 4 (some .int) ∈ hTb := hTb_t (List.mem_of_getElem? (i := 867) (by decide +kernel)) (by decide +kernel)
theorem wd_t_865 : Cond.instanceMethod yX6_seat ∈ hTb := hTb_t (List.mem_of_getElem? (i := 865) (by decide +kernel)) (by decide +kernel)
theorem wd_t_866 : Cond.selects RX6 yX6_seat yX6_seat ∈ hTb := hTb_t (List.mem_of_getElem? (i := 866) (by decide +kernel)) (by decide +kernel)
theorem wd_t_586 : Cond.methodLink RL 126 yX5_count ∈ hTb := hTb_t (List.mem_of_getElem? (i := 586) (by decide +kernel)) (by decide +kernel)
theorem wd_t_589 : Cond.code yX5_count prog_1_method_29_code 2 (some .int) ∈ hTb := hTb_t (List.mem_of_getElem? (i := 589) (by decide +kernel)) (by decide +kernel)
theorem wd_t_587 : Cond.instanceMethod yX5_count ∈ hTb := hTb_t (List.mem_of_getElem? (i := 587) (by decide +kernel)) (by decide +kernel)
theorem wd_t_588 : Cond.selects RX5 yX5_count yX5_count ∈ hTb := hTb_t (List.mem_of_getElem? (i := 588) (by decide +kernel)) (by decide +kernel)
theorem wd_t_868 : Cond.methodLink RL 129 yX6_count ∈ hTb := hTb_t (List.mem_of_getElem? (i := 868) (by decide +kernel)) (by decide +kernel)
theorem wd_t_871 : Cond.code yX6_count prog_8_method_58_code 4 (some .int) ∈ hTb := hTb_t (List.mem_of_getElem? (i := 871) (by decide +kernel)) (by decide +kernel)
theorem wd_t_869 : Cond.instanceMethod yX6_count ∈ hTb := hTb_t (List.mem_of_getElem? (i := 869) (by decide +kernel)) (by decide +kernel)
theorem wd_t_870 : Cond.selects RX6 yX6_count yX6_count ∈ hTb := hTb_t (List.mem_of_getElem? (i := 870) (by decide +kernel)) (by decide +kernel)
def M_La_law : hM := (yL_law, code, 4, (some .boolean), 11, 408)
def code_La_law (K : hK) (B : Nat × Nat) (Q : hPost) : List hSem := [x_new B 3 5 8 [.null, .null, .null, .int 0, .null, .int 0, .null, .null], x_no, x_no, x_dup 4, x_callI K B 7 M_Pa_init 0, x_no, x_no, x_astore 8 1, x_new B 11 6 16 [.null, .null, .int 0, .null, .int 0, .null, .int 0, .null, .null, .int 0, .int 0, .null, .null, .null, .null, .int 0], x_no, x_no, x_dup 12, x_callI K B 15 M_Mo_init 0, x_no, x_no, x_astore 16 2, x_const 17 (0), x_istore 18 3, x_iload 19 3, x_aload 20 0, x_alen K 21, x_const 22 (3), x_isub 23, x_icgt 828 26, x_no, x_no, x_aload 27 0, x_iload 28 3, x_iaload K 29, x_const 31 (31), x_no, x_iand 32, x_tab 822 [(0, 160), (1, 193), (2, 216), (3, 249), (4, 282), (5, 331), (6, 364), (7, 387), (8, 400), (9, 423), (10, 436), (11, 461), (12, 474), (13, 487), (14, 500), (15, 513), (16, 546), (17, 579), (18, 602), (19, 625), (20, 648), (21, 661), (22, 694), (23, 707), (24, 730), (25, 753), (26, 776), (27, 799)], x_no, x_no, x_no, x_no, x_no, x_no, x_no, x_no, x_no, x_no, x_no, x_no, x_no, x_no, x_no, x_no, x_no, x_no, x_no, x_no, x_no, x_no, x_no, x_no, x_no, x_no, x_no, x_no, x_no, x_no, x_no, x_no, x_no, x_no, x_no, x_no, x_no, x_no, x_no, x_no, x_no, x_no, x_no, x_no, x_no, x_no, x_no, x_no, x_no, x_no, x_no, x_no, x_no, x_no, x_no, x_no, x_no, x_no, x_no, x_no, x_no, x_no, x_no, x_no, x_no, x_no, x_no, x_no, x_no, x_no, x_no, x_no, x_no, x_no, x_no, x_no, x_no, x_no, x_no, x_no, x_no, x_no, x_no, x_no, x_no, x_no, x_no, x_no, x_no, x_no, x_no, x_no, x_no, x_no, x_no, x_no, x_no, x_no, x_no, x_no, x_no, x_no, x_no, x_no, x_no, x_no, x_no, x_no, x_no, x_no, x_no, x_no, x_no, x_no, x_no, x_no, x_no, x_no, x_no, x_no, x_no, x_no, x_no, x_no, x_no, x_no, x_no, x_aload 161 1, x_aload 162 0, x_iload 163 3, x_const 164 (1), x_iadd 165, x_iaload K 166, x_aload 167 0, x_iload 168 3, x_const 169 (2), x_iadd 170, x_iaload K 171, x_callV K 174 M_Pa_addGuest 5 2, x_no, x_no, x_aload 175 2, x_aload 176 0, x_iload 177 3, x_const 178 (1), x_iadd 179, x_iaload K 180, x_aload 181 0, x_iload 182 3, x_const 183 (2), x_iadd 184, x_iaload K 185, x_callV K 188 M_Mo_addGuest 6 2, x_no, x_no, x_iceq 822 191, x_no, x_no, x_const 192 (0), x_ireturn (some .boolean) Q, x_aload 194 1, x_aload 195 0, x_iload 196 3, x_const 197 (1), x_iadd 198, x_iaload K 199, x_callV K 202 M_Pa_setCondition 5 1, x_no, x_no, x_aload 203 2, x_aload 204 0, x_iload 205 3, x_const 206 (1), x_iadd 207, x_iaload K 208, x_callV K 211 M_Mo_setCondition 6 1, x_no, x_no, x_iceq 822 214, x_no, x_no, x_const 215 (0), x_ireturn (some .boolean) Q, x_aload 217 1, x_aload 218 0, x_iload 219 3, x_const 220 (1), x_iadd 221, x_iaload K 222, x_aload 223 0, x_iload 224 3, x_const 225 (2), x_iadd 226, x_iaload K 227, x_callV K 230 M_Pa_setLimit 5 2, x_no, x_no, x_aload 231 2, x_aload 232 0, x_iload 233 3, x_const 234 (1), x_iadd 235, x_iaload K 236, x_aload 237 0, x_iload 238 3, x_const 239 (2), x_iadd 240, x_iaload K 241, x_callV K 244 M_Mo_setLimit 6 2, x_no, x_no, x_iceq 822 247, x_no, x_no, x_const 248 (0), x_ireturn (some .boolean) Q, x_aload 250 1, x_aload 251 0, x_iload 252 3, x_const 253 (1), x_iadd 254, x_iaload K 255, x_aload 256 0, x_iload 257 3, x_const 258 (2), x_iadd 259, x_iaload K 260, x_callV K 263 M_Pa_setWeight 5 2, x_no, x_no, x_aload 264 2, x_aload 265 0, x_iload 266 3, x_const 267 (1), x_iadd 268, x_iaload K 269, x_aload 270 0, x_iload 271 3, x_const 272 (2), x_iadd 273, x_iaload K 274, x_callV K 277 M_Mo_setWeight 6 2, x_no, x_no, x_iceq 822 280, x_no, x_no, x_const 281 (0), x_ireturn (some .boolean) Q, x_aload 283 1, x_aload 284 0, x_iload 285 3, x_const 286 (1), x_iadd 287, x_iaload K 288, x_aload 289 0, x_iload 290 3, x_const 291 (2), x_iadd 292, x_iaload K 293, x_ifeq 300 296, x_no, x_no, x_const 297 (1), x_goto 301, x_no, x_no, x_const 301 (0), x_callV K 304 M_Pa_invite 5 2, x_no, x_no, x_aload 305 2, x_aload 306 0, x_iload 307 3, x_const 308 (1), x_iadd 309, x_iaload K 310, x_aload 311 0, x_iload 312 3, x_const 313 (2), x_iadd 314, x_iaload K 315, x_ifeq 322 318, x_no, x_no, x_const 319 (1), x_goto 323, x_no, x_no, x_const 323 (0), x_callV K 326 M_Mo_invite 6 2, x_no, x_no, x_iceq 822 329, x_no, x_no, x_const 330 (0), x_ireturn (some .boolean) Q, x_aload 332 1, x_aload 333 0, x_iload 334 3, x_const 335 (1), x_iadd 336, x_iaload K 337, x_aload 338 0, x_iload 339 3, x_const 340 (2), x_iadd 341, x_iaload K 342, x_callV K 345 M_Pa_set 5 2, x_no, x_no, x_aload 346 2, x_aload 347 0, x_iload 348 3, x_const 349 (1), x_iadd 350, x_iaload K 351, x_aload 352 0, x_iload 353 3, x_const 354 (2), x_iadd 355, x_iaload K 356, x_callV K 359 M_Mo_set 6 2, x_no, x_no, x_iceq 822 362, x_no, x_no, x_const 363 (0), x_ireturn (some .boolean) Q, x_aload 365 1, x_aload 366 0, x_iload 367 3, x_const 368 (1), x_iadd 369, x_iaload K 370, x_callV K 373 M_Pa_pass 5 1, x_no, x_no, x_aload 374 2, x_aload 375 0, x_iload 376 3, x_const 377 (1), x_iadd 378, x_iaload K 379, x_callV K 382 M_Mo_pass 6 1, x_no, x_no, x_iceq 822 385, x_no, x_no, x_const 386 (0), x_ireturn (some .boolean) Q, x_aload 388 1, x_callV K 391 M_Pa_fix 5 0, x_no, x_no, x_aload 392 2, x_callV K 395 M_Mo_fix 6 0, x_no, x_no, x_iceq 822 398, x_no, x_no, x_const 399 (0), x_ireturn (some .boolean) Q, x_aload 401 1, x_aload 402 0, x_iload 403 3, x_const 404 (1), x_iadd 405, x_iaload K 406, x_callV K 409 M_Pa_cancel 5 1, x_no, x_no, x_aload 410 2, x_aload 411 0, x_iload 412 3, x_const 413 (1), x_iadd 414, x_iaload K 415, x_callV K 418 M_Mo_cancel 6 1, x_no, x_no, x_iceq 822 421, x_no, x_no, x_const 422 (0), x_ireturn (some .boolean) Q, x_aload 424 1, x_callV K 427 M_Pa_dissolve 5 0, x_no, x_no, x_aload 428 2, x_callV K 431 M_Mo_dissolve 6 0, x_no, x_no, x_iceq 822 434, x_no, x_no, x_const 435 (0), x_ireturn (some .boolean) Q, x_aload 437 1, x_aload 438 0, x_iload 439 3, x_const 440 (1), x_iadd 441, x_iaload K 442, x_i2c 443, x_callV K 446 M_Pa_type 5 1, x_no, x_no, x_aload 447 2, x_aload 448 0, x_iload 449 3, x_const 450 (1), x_iadd 451, x_iaload K 452, x_i2c 453, x_callV K 456 M_Mo_type 6 1, x_no, x_no, x_iceq 822 459, x_no, x_no, x_const 460 (0), x_ireturn (some .boolean) Q, x_aload 462 1, x_callV K 465 M_Pa_clearText 5 0, x_no, x_no, x_aload 466 2, x_callV K 469 M_Mo_clearText 6 0, x_no, x_no, x_iceq 822 472, x_no, x_no, x_const 473 (0), x_ireturn (some .boolean) Q, x_aload 475 1, x_callV K 478 M_Pa_undo 5 0, x_no, x_no, x_aload 479 2, x_callV K 482 M_Mo_undo 6 0, x_no, x_no, x_iceq 822 485, x_no, x_no, x_const 486 (0), x_ireturn (some .boolean) Q, x_aload 488 1, x_callV K 491 M_Pa_keep 5 0, x_no, x_no, x_aload 492 2, x_callV K 495 M_Mo_keep 6 0, x_no, x_no, x_iceq 822 498, x_no, x_no, x_const 499 (0), x_ireturn (some .boolean) Q, x_aload 501 1, x_callV K 504 M_Pa_restore 5 0, x_no, x_no, x_aload 505 2, x_callV K 508 M_Mo_restore 6 0, x_no, x_no, x_iceq 822 511, x_no, x_no, x_const 512 (0), x_ireturn (some .boolean) Q, x_aload 514 1, x_aload 515 0, x_iload 516 3, x_const 517 (1), x_iadd 518, x_iaload K 519, x_aload 520 0, x_iload 521 3, x_const 522 (2), x_iadd 523, x_iaload K 524, x_callV K 527 M_Pa_guest 5 2, x_no, x_no, x_aload 528 2, x_aload 529 0, x_iload 530 3, x_const 531 (1), x_iadd 532, x_iaload K 533, x_aload 534 0, x_iload 535 3, x_const 536 (2), x_iadd 537, x_iaload K 538, x_callV K 541 M_Mo_guest 6 2, x_no, x_no, x_iceq 822 544, x_no, x_no, x_const 545 (0), x_ireturn (some .boolean) Q, x_aload 547 1, x_aload 548 0, x_iload 549 3, x_const 550 (1), x_iadd 551, x_iaload K 552, x_aload 553 0, x_iload 554 3, x_const 555 (2), x_iadd 556, x_iaload K 557, x_callV K 560 M_Pa_met 5 2, x_no, x_no, x_aload 561 2, x_aload 562 0, x_iload 563 3, x_const 564 (1), x_iadd 565, x_iaload K 566, x_aload 567 0, x_iload 568 3, x_const 569 (2), x_iadd 570, x_iaload K 571, x_callV K 574 M_Mo_met 6 2, x_no, x_no, x_iceq 822 577, x_no, x_no, x_const 578 (0), x_ireturn (some .boolean) Q, x_aload 580 1, x_aload 581 0, x_iload 582 3, x_const 583 (1), x_iadd 584, x_iaload K 585, x_callV K 588 M_Pa_stable 5 1, x_no, x_no, x_aload 589 2, x_aload 590 0, x_iload 591 3, x_const 592 (1), x_iadd 593, x_iaload K 594, x_callV K 597 M_Mo_stable 6 1, x_no, x_no, x_iceq 822 600, x_no, x_no, x_const 601 (0), x_ireturn (some .boolean) Q, x_aload 603 1, x_aload 604 0, x_iload 605 3, x_const 606 (1), x_iadd 607, x_iaload K 608, x_callV K 611 M_Pa_fee 5 1, x_no, x_no, x_aload 612 2, x_aload 613 0, x_iload 614 3, x_const 615 (1), x_iadd 616, x_iaload K 617, x_callV K 620 M_Mo_fee 6 1, x_no, x_no, x_iceq 822 623, x_no, x_no, x_const 624 (0), x_ireturn (some .boolean) Q, x_aload 626 1, x_aload 627 0, x_iload 628 3, x_const 629 (1), x_iadd 630, x_iaload K 631, x_callV K 634 M_Pa_company 5 1, x_no, x_no, x_aload 635 2, x_aload 636 0, x_iload 637 3, x_const 638 (1), x_iadd 639, x_iaload K 640, x_callV K 643 M_Mo_company 6 1, x_no, x_no, x_iceq 822 646, x_no, x_no, x_const 647 (0), x_ireturn (some .boolean) Q, x_aload 649 1, x_callV K 652 M_Pa_companies 5 0, x_no, x_no, x_aload 653 2, x_callV K 656 M_Mo_companies 6 0, x_no, x_no, x_iceq 822 659, x_no, x_no, x_const 660 (0), x_ireturn (some .boolean) Q, x_aload 662 1, x_aload 663 0, x_iload 664 3, x_const 665 (1), x_iadd 666, x_iaload K 667, x_aload 668 0, x_iload 669 3, x_const 670 (2), x_iadd 671, x_iaload K 672, x_callV K 675 M_Pa_why 5 2, x_no, x_no, x_aload 676 2, x_aload 677 0, x_iload 678 3, x_const 679 (1), x_iadd 680, x_iaload K 681, x_aload 682 0, x_iload 683 3, x_const 684 (2), x_iadd 685, x_iaload K 686, x_callV K 689 M_Mo_why 6 2, x_no, x_no, x_iceq 822 692, x_no, x_no, x_const 693 (0), x_ireturn (some .boolean) Q, x_aload 695 1, x_callV K 698 M_Pa_rounds 5 0, x_no, x_no, x_aload 699 2, x_callV K 702 M_Mo_rounds 6 0, x_no, x_no, x_iceq 822 705, x_no, x_no, x_const 706 (0), x_ireturn (some .boolean) Q, x_aload 708 1, x_aload 709 0, x_iload 710 3, x_const 711 (1), x_iadd 712, x_iaload K 713, x_callV K 716 M_Pa_needs 5 1, x_no, x_no, x_aload 717 2, x_aload 718 0, x_iload 719 3, x_const 720 (1), x_iadd 721, x_iaload K 722, x_callV K 725 M_Mo_needs 6 1, x_no, x_no, x_iceq 822 728, x_no, x_no, x_const 729 (0), x_ireturn (some .boolean) Q, x_aload 731 1, x_aload 732 0, x_iload 733 3, x_const 734 (1), x_iadd 735, x_iaload K 736, x_callV K 739 M_Pa_weightOf 5 1, x_no, x_no, x_aload 740 2, x_aload 741 0, x_iload 742 3, x_const 743 (1), x_iadd 744, x_iaload K 745, x_callV K 748 M_Mo_weightOf 6 1, x_no, x_no, x_iceq 822 751, x_no, x_no, x_const 752 (0), x_ireturn (some .boolean) Q, x_aload 754 1, x_aload 755 0, x_iload 756 3, x_const 757 (1), x_iadd 758, x_iaload K 759, x_callV K 762 M_Pa_leastLimit 5 1, x_no, x_no, x_aload 763 2, x_aload 764 0, x_iload 765 3, x_const 766 (1), x_iadd 767, x_iaload K 768, x_callV K 771 M_Mo_leastLimit 6 1, x_no, x_no, x_iceq 822 774, x_no, x_no, x_const 775 (0), x_ireturn (some .boolean) Q, x_aload 777 1, x_aload 778 0, x_iload 779 3, x_const 780 (1), x_iadd 781, x_iaload K 782, x_callV K 785 M_Pa_seat 5 1, x_no, x_no, x_aload 786 2, x_aload 787 0, x_iload 788 3, x_const 789 (1), x_iadd 790, x_iaload K 791, x_callV K 794 M_Mo_seat 6 1, x_no, x_no, x_iceq 822 797, x_no, x_no, x_const 798 (0), x_ireturn (some .boolean) Q, x_aload 800 1, x_aload 801 0, x_iload 802 3, x_const 803 (1), x_iadd 804, x_iaload K 805, x_callV K 808 M_Pa_count 5 1, x_no, x_no, x_aload 809 2, x_aload 810 0, x_iload 811 3, x_const 812 (1), x_iadd 813, x_iaload K 814, x_callV K 817 M_Mo_count 6 1, x_no, x_no, x_iceq 822 820, x_no, x_no, x_const 821 (0), x_ireturn (some .boolean) Q, x_iinc 825 3 (3), x_no, x_no, x_goto 18, x_no, x_no, x_const 829 (1), x_ireturn (some .boolean) Q]
set_option maxRecDepth 100000 in
set_option maxHeartbeats 4000000 in
theorem okc_La_law (K : hK) (B : Nat × Nat) (Q : hPost) : hAllOk (hJ K M_La_law B Q) 0 (code_La_law K B Q) := by
  refine hAllOk.c 0 (ok_new (idx := 7) (N := 8) (T := TX5) tyX5_ok rfl inTb5 (by decide +kernel) wd_t_9 wd_t_10 wd_t_1 (by decide +kernel) rfl) ?_
  refine hAllOk.c 1 (ok_no) ?_
  refine hAllOk.c 2 (ok_no) ?_
  refine hAllOk.c 3 (ok_dup (by decide +kernel) rfl) ?_
  refine hAllOk.c 4 (ok_callI (idx := 9) ⟨wd_t_13, wd_t_1, by decide +kernel, by decide +kernel⟩ rfl rfl wd_t_11 wd_t_12 (by decide +kernel) rfl) ?_
  refine hAllOk.c 5 (ok_no) ?_
  refine hAllOk.c 6 (ok_no) ?_
  refine hAllOk.c 7 (ok_astore_n (f := 1) rfl (by decide) (by decide +kernel) rfl) ?_
  refine hAllOk.c 8 (ok_new (idx := 10) (N := 16) (T := TX6) tyX6_ok rfl inTb6 (by decide +kernel) wd_t_595 wd_t_596 wd_t_7 (by decide +kernel) rfl) ?_
  refine hAllOk.c 9 (ok_no) ?_
  refine hAllOk.c 10 (ok_no) ?_
  refine hAllOk.c 11 (ok_dup (by decide +kernel) rfl) ?_
  refine hAllOk.c 12 (ok_callI (idx := 12) ⟨wd_t_599, wd_t_7, by decide +kernel, by decide +kernel⟩ rfl rfl wd_t_597 wd_t_598 (by decide +kernel) rfl) ?_
  refine hAllOk.c 13 (ok_no) ?_
  refine hAllOk.c 14 (ok_no) ?_
  refine hAllOk.c 15 (ok_astore_n (f := 2) rfl (by decide) (by decide +kernel) rfl) ?_
  refine hAllOk.c 16 (ok_iconst (n := 0) (by decide +kernel) (by decide +kernel) rfl) ?_
  refine hAllOk.c 17 (ok_istore_n (f := 3) rfl (by decide) (by decide +kernel) rfl) ?_
  refine hAllOk.c 18 (ok_iload_n (f := 3) rfl (by decide +kernel) rfl) ?_
  refine hAllOk.c 19 (ok_aload_n (f := 0) rfl (by decide +kernel) rfl) ?_
  refine hAllOk.c 20 (ok_alen (by decide +kernel) rfl) ?_
  refine hAllOk.c 21 (ok_iconst (n := 3) (by decide +kernel) (by decide +kernel) rfl) ?_
  refine hAllOk.c 22 (ok_isub (by decide +kernel) rfl) ?_
  refine hAllOk.c 23 (ok_icgt (off := 805) (by decide +kernel) (by decide +kernel) rfl) ?_
  refine hAllOk.c 24 (ok_no) ?_
  refine hAllOk.c 25 (ok_no) ?_
  refine hAllOk.c 26 (ok_aload_n (f := 0) rfl (by decide +kernel) rfl) ?_
  refine hAllOk.c 27 (ok_iload_n (f := 3) rfl (by decide +kernel) rfl) ?_
  refine hAllOk.c 28 (ok_iaload (by decide +kernel) rfl) ?_
  refine hAllOk.c 29 (ok_bipush (n := 31) (by decide +kernel) (by decide +kernel) rfl) ?_
  refine hAllOk.c 30 (ok_no) ?_
  refine hAllOk.c 31 (ok_iand (by decide +kernel) rfl) ?_
  refine hAllOk.c 32 (ok_tab (dflt := 790) (lo := 0) (hi := 27) (offs := #[128, 161, 184, 217, 250, 299, 332, 355, 368, 391, 404, 429, 442, 455, 468, 481, 514, 547, 570, 593, 616, 629, 662, 675, 698, 721, 744, 767]) (len := 128) (by decide +kernel) (by decide +kernel) (by decide +kernel) (by decide +kernel)) ?_
  refine hAllOk.c 33 (ok_no) ?_
  refine hAllOk.c 34 (ok_no) ?_
  refine hAllOk.c 35 (ok_no) ?_
  refine hAllOk.c 36 (ok_no) ?_
  refine hAllOk.c 37 (ok_no) ?_
  refine hAllOk.c 38 (ok_no) ?_
  refine hAllOk.c 39 (ok_no) ?_
  refine hAllOk.c 40 (ok_no) ?_
  refine hAllOk.c 41 (ok_no) ?_
  refine hAllOk.c 42 (ok_no) ?_
  refine hAllOk.c 43 (ok_no) ?_
  refine hAllOk.c 44 (ok_no) ?_
  refine hAllOk.c 45 (ok_no) ?_
  refine hAllOk.c 46 (ok_no) ?_
  refine hAllOk.c 47 (ok_no) ?_
  refine hAllOk.c 48 (ok_no) ?_
  refine hAllOk.c 49 (ok_no) ?_
  refine hAllOk.c 50 (ok_no) ?_
  refine hAllOk.c 51 (ok_no) ?_
  refine hAllOk.c 52 (ok_no) ?_
  refine hAllOk.c 53 (ok_no) ?_
  refine hAllOk.c 54 (ok_no) ?_
  refine hAllOk.c 55 (ok_no) ?_
  refine hAllOk.c 56 (ok_no) ?_
  refine hAllOk.c 57 (ok_no) ?_
  refine hAllOk.c 58 (ok_no) ?_
  refine hAllOk.c 59 (ok_no) ?_
  refine hAllOk.c 60 (ok_no) ?_
  refine hAllOk.c 61 (ok_no) ?_
  refine hAllOk.c 62 (ok_no) ?_
  refine hAllOk.c 63 (ok_no) ?_
  refine hAllOk.c 64 (ok_no) ?_
  refine hAllOk.c 65 (ok_no) ?_
  refine hAllOk.c 66 (ok_no) ?_
  refine hAllOk.c 67 (ok_no) ?_
  refine hAllOk.c 68 (ok_no) ?_
  refine hAllOk.c 69 (ok_no) ?_
  refine hAllOk.c 70 (ok_no) ?_
  refine hAllOk.c 71 (ok_no) ?_
  refine hAllOk.c 72 (ok_no) ?_
  refine hAllOk.c 73 (ok_no) ?_
  refine hAllOk.c 74 (ok_no) ?_
  refine hAllOk.c 75 (ok_no) ?_
  refine hAllOk.c 76 (ok_no) ?_
  refine hAllOk.c 77 (ok_no) ?_
  refine hAllOk.c 78 (ok_no) ?_
  refine hAllOk.c 79 (ok_no) ?_
  refine hAllOk.c 80 (ok_no) ?_
  refine hAllOk.c 81 (ok_no) ?_
  refine hAllOk.c 82 (ok_no) ?_
  refine hAllOk.c 83 (ok_no) ?_
  refine hAllOk.c 84 (ok_no) ?_
  refine hAllOk.c 85 (ok_no) ?_
  refine hAllOk.c 86 (ok_no) ?_
  refine hAllOk.c 87 (ok_no) ?_
  refine hAllOk.c 88 (ok_no) ?_
  refine hAllOk.c 89 (ok_no) ?_
  refine hAllOk.c 90 (ok_no) ?_
  refine hAllOk.c 91 (ok_no) ?_
  refine hAllOk.c 92 (ok_no) ?_
  refine hAllOk.c 93 (ok_no) ?_
  refine hAllOk.c 94 (ok_no) ?_
  refine hAllOk.c 95 (ok_no) ?_
  refine hAllOk.c 96 (ok_no) ?_
  refine hAllOk.c 97 (ok_no) ?_
  refine hAllOk.c 98 (ok_no) ?_
  refine hAllOk.c 99 (ok_no) ?_
  refine hAllOk.c 100 (ok_no) ?_
  refine hAllOk.c 101 (ok_no) ?_
  refine hAllOk.c 102 (ok_no) ?_
  refine hAllOk.c 103 (ok_no) ?_
  refine hAllOk.c 104 (ok_no) ?_
  refine hAllOk.c 105 (ok_no) ?_
  refine hAllOk.c 106 (ok_no) ?_
  refine hAllOk.c 107 (ok_no) ?_
  refine hAllOk.c 108 (ok_no) ?_
  refine hAllOk.c 109 (ok_no) ?_
  refine hAllOk.c 110 (ok_no) ?_
  refine hAllOk.c 111 (ok_no) ?_
  refine hAllOk.c 112 (ok_no) ?_
  refine hAllOk.c 113 (ok_no) ?_
  refine hAllOk.c 114 (ok_no) ?_
  refine hAllOk.c 115 (ok_no) ?_
  refine hAllOk.c 116 (ok_no) ?_
  refine hAllOk.c 117 (ok_no) ?_
  refine hAllOk.c 118 (ok_no) ?_
  refine hAllOk.c 119 (ok_no) ?_
  refine hAllOk.c 120 (ok_no) ?_
  refine hAllOk.c 121 (ok_no) ?_
  refine hAllOk.c 122 (ok_no) ?_
  refine hAllOk.c 123 (ok_no) ?_
  refine hAllOk.c 124 (ok_no) ?_
  refine hAllOk.c 125 (ok_no) ?_
  refine hAllOk.c 126 (ok_no) ?_
  refine hAllOk.c 127 (ok_no) ?_
  refine hAllOk.c 128 (ok_no) ?_
  refine hAllOk.c 129 (ok_no) ?_
  refine hAllOk.c 130 (ok_no) ?_
  refine hAllOk.c 131 (ok_no) ?_
  refine hAllOk.c 132 (ok_no) ?_
  refine hAllOk.c 133 (ok_no) ?_
  refine hAllOk.c 134 (ok_no) ?_
  refine hAllOk.c 135 (ok_no) ?_
  refine hAllOk.c 136 (ok_no) ?_
  refine hAllOk.c 137 (ok_no) ?_
  refine hAllOk.c 138 (ok_no) ?_
  refine hAllOk.c 139 (ok_no) ?_
  refine hAllOk.c 140 (ok_no) ?_
  refine hAllOk.c 141 (ok_no) ?_
  refine hAllOk.c 142 (ok_no) ?_
  refine hAllOk.c 143 (ok_no) ?_
  refine hAllOk.c 144 (ok_no) ?_
  refine hAllOk.c 145 (ok_no) ?_
  refine hAllOk.c 146 (ok_no) ?_
  refine hAllOk.c 147 (ok_no) ?_
  refine hAllOk.c 148 (ok_no) ?_
  refine hAllOk.c 149 (ok_no) ?_
  refine hAllOk.c 150 (ok_no) ?_
  refine hAllOk.c 151 (ok_no) ?_
  refine hAllOk.c 152 (ok_no) ?_
  refine hAllOk.c 153 (ok_no) ?_
  refine hAllOk.c 154 (ok_no) ?_
  refine hAllOk.c 155 (ok_no) ?_
  refine hAllOk.c 156 (ok_no) ?_
  refine hAllOk.c 157 (ok_no) ?_
  refine hAllOk.c 158 (ok_no) ?_
  refine hAllOk.c 159 (ok_no) ?_
  refine hAllOk.c 160 (ok_aload_n (f := 1) rfl (by decide +kernel) rfl) ?_
  refine hAllOk.c 161 (ok_aload_n (f := 0) rfl (by decide +kernel) rfl) ?_
  refine hAllOk.c 162 (ok_iload_n (f := 3) rfl (by decide +kernel) rfl) ?_
  refine hAllOk.c 163 (ok_iconst (n := 1) (by decide +kernel) (by decide +kernel) rfl) ?_
  refine hAllOk.c 164 (ok_iadd (by decide +kernel) rfl) ?_
  refine hAllOk.c 165 (ok_iaload (by decide +kernel) rfl) ?_
  refine hAllOk.c 166 (ok_aload_n (f := 0) rfl (by decide +kernel) rfl) ?_
  refine hAllOk.c 167 (ok_iload_n (f := 3) rfl (by decide +kernel) rfl) ?_
  refine hAllOk.c 168 (ok_iconst (n := 2) (by decide +kernel) (by decide +kernel) rfl) ?_
  refine hAllOk.c 169 (ok_iadd (by decide +kernel) rfl) ?_
  refine hAllOk.c 170 (ok_iaload (by decide +kernel) rfl) ?_
  refine hAllOk.c 171 (ok_callV (idx := 13) ⟨wd_t_223, wd_t_1, by decide +kernel, by decide +kernel⟩ rfl rfl wd_t_220 wd_t_221 wd_t_222 (by decide +kernel) rfl) ?_
  refine hAllOk.c 172 (ok_no) ?_
  refine hAllOk.c 173 (ok_no) ?_
  refine hAllOk.c 174 (ok_aload_n (f := 2) rfl (by decide +kernel) rfl) ?_
  refine hAllOk.c 175 (ok_aload_n (f := 0) rfl (by decide +kernel) rfl) ?_
  refine hAllOk.c 176 (ok_iload_n (f := 3) rfl (by decide +kernel) rfl) ?_
  refine hAllOk.c 177 (ok_iconst (n := 1) (by decide +kernel) (by decide +kernel) rfl) ?_
  refine hAllOk.c 178 (ok_iadd (by decide +kernel) rfl) ?_
  refine hAllOk.c 179 (ok_iaload (by decide +kernel) rfl) ?_
  refine hAllOk.c 180 (ok_aload_n (f := 0) rfl (by decide +kernel) rfl) ?_
  refine hAllOk.c 181 (ok_iload_n (f := 3) rfl (by decide +kernel) rfl) ?_
  refine hAllOk.c 182 (ok_iconst (n := 2) (by decide +kernel) (by decide +kernel) rfl) ?_
  refine hAllOk.c 183 (ok_iadd (by decide +kernel) rfl) ?_
  refine hAllOk.c 184 (ok_iaload (by decide +kernel) rfl) ?_
  refine hAllOk.c 185 (ok_callV (idx := 17) ⟨wd_t_655, wd_t_7, by decide +kernel, by decide +kernel⟩ rfl rfl wd_t_652 wd_t_653 wd_t_654 (by decide +kernel) rfl) ?_
  refine hAllOk.c 186 (ok_no) ?_
  refine hAllOk.c 187 (ok_no) ?_
  refine hAllOk.c 188 (ok_iceq (off := 634) (by decide +kernel) (by decide +kernel) rfl) ?_
  refine hAllOk.c 189 (ok_no) ?_
  refine hAllOk.c 190 (ok_no) ?_
  refine hAllOk.c 191 (ok_iconst (n := 0) (by decide +kernel) (by decide +kernel) rfl) ?_
  refine hAllOk.c 192 (ok_ireturn (by decide +kernel)) ?_
  refine hAllOk.c 193 (ok_aload_n (f := 1) rfl (by decide +kernel) rfl) ?_
  refine hAllOk.c 194 (ok_aload_n (f := 0) rfl (by decide +kernel) rfl) ?_
  refine hAllOk.c 195 (ok_iload_n (f := 3) rfl (by decide +kernel) rfl) ?_
  refine hAllOk.c 196 (ok_iconst (n := 1) (by decide +kernel) (by decide +kernel) rfl) ?_
  refine hAllOk.c 197 (ok_iadd (by decide +kernel) rfl) ?_
  refine hAllOk.c 198 (ok_iaload (by decide +kernel) rfl) ?_
  refine hAllOk.c 199 (ok_callV (idx := 18) ⟨wd_t_270, wd_t_1, by decide +kernel, by decide +kernel⟩ rfl rfl wd_t_267 wd_t_268 wd_t_269 (by decide +kernel) rfl) ?_
  refine hAllOk.c 200 (ok_no) ?_
  refine hAllOk.c 201 (ok_no) ?_
  refine hAllOk.c 202 (ok_aload_n (f := 2) rfl (by decide +kernel) rfl) ?_
  refine hAllOk.c 203 (ok_aload_n (f := 0) rfl (by decide +kernel) rfl) ?_
  refine hAllOk.c 204 (ok_iload_n (f := 3) rfl (by decide +kernel) rfl) ?_
  refine hAllOk.c 205 (ok_iconst (n := 1) (by decide +kernel) (by decide +kernel) rfl) ?_
  refine hAllOk.c 206 (ok_iadd (by decide +kernel) rfl) ?_
  refine hAllOk.c 207 (ok_iaload (by decide +kernel) rfl) ?_
  refine hAllOk.c 208 (ok_callV (idx := 22) ⟨wd_t_677, wd_t_7, by decide +kernel, by decide +kernel⟩ rfl rfl wd_t_674 wd_t_675 wd_t_676 (by decide +kernel) rfl) ?_
  refine hAllOk.c 209 (ok_no) ?_
  refine hAllOk.c 210 (ok_no) ?_
  refine hAllOk.c 211 (ok_iceq (off := 611) (by decide +kernel) (by decide +kernel) rfl) ?_
  refine hAllOk.c 212 (ok_no) ?_
  refine hAllOk.c 213 (ok_no) ?_
  refine hAllOk.c 214 (ok_iconst (n := 0) (by decide +kernel) (by decide +kernel) rfl) ?_
  refine hAllOk.c 215 (ok_ireturn (by decide +kernel)) ?_
  refine hAllOk.c 216 (ok_aload_n (f := 1) rfl (by decide +kernel) rfl) ?_
  refine hAllOk.c 217 (ok_aload_n (f := 0) rfl (by decide +kernel) rfl) ?_
  refine hAllOk.c 218 (ok_iload_n (f := 3) rfl (by decide +kernel) rfl) ?_
  refine hAllOk.c 219 (ok_iconst (n := 1) (by decide +kernel) (by decide +kernel) rfl) ?_
  refine hAllOk.c 220 (ok_iadd (by decide +kernel) rfl) ?_
  refine hAllOk.c 221 (ok_iaload (by decide +kernel) rfl) ?_
  refine hAllOk.c 222 (ok_aload_n (f := 0) rfl (by decide +kernel) rfl) ?_
  refine hAllOk.c 223 (ok_iload_n (f := 3) rfl (by decide +kernel) rfl) ?_
  refine hAllOk.c 224 (ok_iconst (n := 2) (by decide +kernel) (by decide +kernel) rfl) ?_
  refine hAllOk.c 225 (ok_iadd (by decide +kernel) rfl) ?_
  refine hAllOk.c 226 (ok_iaload (by decide +kernel) rfl) ?_
  refine hAllOk.c 227 (ok_callV (idx := 23) ⟨wd_t_357, wd_t_1, by decide +kernel, by decide +kernel⟩ rfl rfl wd_t_354 wd_t_355 wd_t_356 (by decide +kernel) rfl) ?_
  refine hAllOk.c 228 (ok_no) ?_
  refine hAllOk.c 229 (ok_no) ?_
  refine hAllOk.c 230 (ok_aload_n (f := 2) rfl (by decide +kernel) rfl) ?_
  refine hAllOk.c 231 (ok_aload_n (f := 0) rfl (by decide +kernel) rfl) ?_
  refine hAllOk.c 232 (ok_iload_n (f := 3) rfl (by decide +kernel) rfl) ?_
  refine hAllOk.c 233 (ok_iconst (n := 1) (by decide +kernel) (by decide +kernel) rfl) ?_
  refine hAllOk.c 234 (ok_iadd (by decide +kernel) rfl) ?_
  refine hAllOk.c 235 (ok_iaload (by decide +kernel) rfl) ?_
  refine hAllOk.c 236 (ok_aload_n (f := 0) rfl (by decide +kernel) rfl) ?_
  refine hAllOk.c 237 (ok_iload_n (f := 3) rfl (by decide +kernel) rfl) ?_
  refine hAllOk.c 238 (ok_iconst (n := 2) (by decide +kernel) (by decide +kernel) rfl) ?_
  refine hAllOk.c 239 (ok_iadd (by decide +kernel) rfl) ?_
  refine hAllOk.c 240 (ok_iaload (by decide +kernel) rfl) ?_
  refine hAllOk.c 241 (ok_callV (idx := 26) ⟨wd_t_723, wd_t_7, by decide +kernel, by decide +kernel⟩ rfl rfl wd_t_720 wd_t_721 wd_t_722 (by decide +kernel) rfl) ?_
  refine hAllOk.c 242 (ok_no) ?_
  refine hAllOk.c 243 (ok_no) ?_
  refine hAllOk.c 244 (ok_iceq (off := 578) (by decide +kernel) (by decide +kernel) rfl) ?_
  refine hAllOk.c 245 (ok_no) ?_
  refine hAllOk.c 246 (ok_no) ?_
  refine hAllOk.c 247 (ok_iconst (n := 0) (by decide +kernel) (by decide +kernel) rfl) ?_
  refine hAllOk.c 248 (ok_ireturn (by decide +kernel)) ?_
  refine hAllOk.c 249 (ok_aload_n (f := 1) rfl (by decide +kernel) rfl) ?_
  refine hAllOk.c 250 (ok_aload_n (f := 0) rfl (by decide +kernel) rfl) ?_
  refine hAllOk.c 251 (ok_iload_n (f := 3) rfl (by decide +kernel) rfl) ?_
  refine hAllOk.c 252 (ok_iconst (n := 1) (by decide +kernel) (by decide +kernel) rfl) ?_
  refine hAllOk.c 253 (ok_iadd (by decide +kernel) rfl) ?_
  refine hAllOk.c 254 (ok_iaload (by decide +kernel) rfl) ?_
  refine hAllOk.c 255 (ok_aload_n (f := 0) rfl (by decide +kernel) rfl) ?_
  refine hAllOk.c 256 (ok_iload_n (f := 3) rfl (by decide +kernel) rfl) ?_
  refine hAllOk.c 257 (ok_iconst (n := 2) (by decide +kernel) (by decide +kernel) rfl) ?_
  refine hAllOk.c 258 (ok_iadd (by decide +kernel) rfl) ?_
  refine hAllOk.c 259 (ok_iaload (by decide +kernel) rfl) ?_
  refine hAllOk.c 260 (ok_callV (idx := 27) ⟨wd_t_361, wd_t_1, by decide +kernel, by decide +kernel⟩ rfl rfl wd_t_358 wd_t_359 wd_t_360 (by decide +kernel) rfl) ?_
  refine hAllOk.c 261 (ok_no) ?_
  refine hAllOk.c 262 (ok_no) ?_
  refine hAllOk.c 263 (ok_aload_n (f := 2) rfl (by decide +kernel) rfl) ?_
  refine hAllOk.c 264 (ok_aload_n (f := 0) rfl (by decide +kernel) rfl) ?_
  refine hAllOk.c 265 (ok_iload_n (f := 3) rfl (by decide +kernel) rfl) ?_
  refine hAllOk.c 266 (ok_iconst (n := 1) (by decide +kernel) (by decide +kernel) rfl) ?_
  refine hAllOk.c 267 (ok_iadd (by decide +kernel) rfl) ?_
  refine hAllOk.c 268 (ok_iaload (by decide +kernel) rfl) ?_
  refine hAllOk.c 269 (ok_aload_n (f := 0) rfl (by decide +kernel) rfl) ?_
  refine hAllOk.c 270 (ok_iload_n (f := 3) rfl (by decide +kernel) rfl) ?_
  refine hAllOk.c 271 (ok_iconst (n := 2) (by decide +kernel) (by decide +kernel) rfl) ?_
  refine hAllOk.c 272 (ok_iadd (by decide +kernel) rfl) ?_
  refine hAllOk.c 273 (ok_iaload (by decide +kernel) rfl) ?_
  refine hAllOk.c 274 (ok_callV (idx := 30) ⟨wd_t_731, wd_t_7, by decide +kernel, by decide +kernel⟩ rfl rfl wd_t_728 wd_t_729 wd_t_730 (by decide +kernel) rfl) ?_
  refine hAllOk.c 275 (ok_no) ?_
  refine hAllOk.c 276 (ok_no) ?_
  refine hAllOk.c 277 (ok_iceq (off := 545) (by decide +kernel) (by decide +kernel) rfl) ?_
  refine hAllOk.c 278 (ok_no) ?_
  refine hAllOk.c 279 (ok_no) ?_
  refine hAllOk.c 280 (ok_iconst (n := 0) (by decide +kernel) (by decide +kernel) rfl) ?_
  refine hAllOk.c 281 (ok_ireturn (by decide +kernel)) ?_
  refine hAllOk.c 282 (ok_aload_n (f := 1) rfl (by decide +kernel) rfl) ?_
  refine hAllOk.c 283 (ok_aload_n (f := 0) rfl (by decide +kernel) rfl) ?_
  refine hAllOk.c 284 (ok_iload_n (f := 3) rfl (by decide +kernel) rfl) ?_
  refine hAllOk.c 285 (ok_iconst (n := 1) (by decide +kernel) (by decide +kernel) rfl) ?_
  refine hAllOk.c 286 (ok_iadd (by decide +kernel) rfl) ?_
  refine hAllOk.c 287 (ok_iaload (by decide +kernel) rfl) ?_
  refine hAllOk.c 288 (ok_aload_n (f := 0) rfl (by decide +kernel) rfl) ?_
  refine hAllOk.c 289 (ok_iload_n (f := 3) rfl (by decide +kernel) rfl) ?_
  refine hAllOk.c 290 (ok_iconst (n := 2) (by decide +kernel) (by decide +kernel) rfl) ?_
  refine hAllOk.c 291 (ok_iadd (by decide +kernel) rfl) ?_
  refine hAllOk.c 292 (ok_iaload (by decide +kernel) rfl) ?_
  refine hAllOk.c 293 (ok_ifeq (off := 7) (by decide +kernel) (by decide +kernel) rfl) ?_
  refine hAllOk.c 294 (ok_no) ?_
  refine hAllOk.c 295 (ok_no) ?_
  refine hAllOk.c 296 (ok_iconst (n := 1) (by decide +kernel) (by decide +kernel) rfl) ?_
  refine hAllOk.c 297 (ok_goto (off := 4) (by decide +kernel) (by decide +kernel)) ?_
  refine hAllOk.c 298 (ok_no) ?_
  refine hAllOk.c 299 (ok_no) ?_
  refine hAllOk.c 300 (ok_iconst (n := 0) (by decide +kernel) (by decide +kernel) rfl) ?_
  refine hAllOk.c 301 (ok_callV (idx := 31) ⟨wd_t_365, wd_t_1, by decide +kernel, by decide +kernel⟩ rfl rfl wd_t_362 wd_t_363 wd_t_364 (by decide +kernel) rfl) ?_
  refine hAllOk.c 302 (ok_no) ?_
  refine hAllOk.c 303 (ok_no) ?_
  refine hAllOk.c 304 (ok_aload_n (f := 2) rfl (by decide +kernel) rfl) ?_
  refine hAllOk.c 305 (ok_aload_n (f := 0) rfl (by decide +kernel) rfl) ?_
  refine hAllOk.c 306 (ok_iload_n (f := 3) rfl (by decide +kernel) rfl) ?_
  refine hAllOk.c 307 (ok_iconst (n := 1) (by decide +kernel) (by decide +kernel) rfl) ?_
  refine hAllOk.c 308 (ok_iadd (by decide +kernel) rfl) ?_
  refine hAllOk.c 309 (ok_iaload (by decide +kernel) rfl) ?_
  refine hAllOk.c 310 (ok_aload_n (f := 0) rfl (by decide +kernel) rfl) ?_
  refine hAllOk.c 311 (ok_iload_n (f := 3) rfl (by decide +kernel) rfl) ?_
  refine hAllOk.c 312 (ok_iconst (n := 2) (by decide +kernel) (by decide +kernel) rfl) ?_
  refine hAllOk.c 313 (ok_iadd (by decide +kernel) rfl) ?_
  refine hAllOk.c 314 (ok_iaload (by decide +kernel) rfl) ?_
  refine hAllOk.c 315 (ok_ifeq (off := 7) (by decide +kernel) (by decide +kernel) rfl) ?_
  refine hAllOk.c 316 (ok_no) ?_
  refine hAllOk.c 317 (ok_no) ?_
  refine hAllOk.c 318 (ok_iconst (n := 1) (by decide +kernel) (by decide +kernel) rfl) ?_
  refine hAllOk.c 319 (ok_goto (off := 4) (by decide +kernel) (by decide +kernel)) ?_
  refine hAllOk.c 320 (ok_no) ?_
  refine hAllOk.c 321 (ok_no) ?_
  refine hAllOk.c 322 (ok_iconst (n := 0) (by decide +kernel) (by decide +kernel) rfl) ?_
  refine hAllOk.c 323 (ok_callV (idx := 35) ⟨wd_t_735, wd_t_7, by decide +kernel, by decide +kernel⟩ rfl rfl wd_t_732 wd_t_733 wd_t_734 (by decide +kernel) rfl) ?_
  refine hAllOk.c 324 (ok_no) ?_
  refine hAllOk.c 325 (ok_no) ?_
  refine hAllOk.c 326 (ok_iceq (off := 496) (by decide +kernel) (by decide +kernel) rfl) ?_
  refine hAllOk.c 327 (ok_no) ?_
  refine hAllOk.c 328 (ok_no) ?_
  refine hAllOk.c 329 (ok_iconst (n := 0) (by decide +kernel) (by decide +kernel) rfl) ?_
  refine hAllOk.c 330 (ok_ireturn (by decide +kernel)) ?_
  refine hAllOk.c 331 (ok_aload_n (f := 1) rfl (by decide +kernel) rfl) ?_
  refine hAllOk.c 332 (ok_aload_n (f := 0) rfl (by decide +kernel) rfl) ?_
  refine hAllOk.c 333 (ok_iload_n (f := 3) rfl (by decide +kernel) rfl) ?_
  refine hAllOk.c 334 (ok_iconst (n := 1) (by decide +kernel) (by decide +kernel) rfl) ?_
  refine hAllOk.c 335 (ok_iadd (by decide +kernel) rfl) ?_
  refine hAllOk.c 336 (ok_iaload (by decide +kernel) rfl) ?_
  refine hAllOk.c 337 (ok_aload_n (f := 0) rfl (by decide +kernel) rfl) ?_
  refine hAllOk.c 338 (ok_iload_n (f := 3) rfl (by decide +kernel) rfl) ?_
  refine hAllOk.c 339 (ok_iconst (n := 2) (by decide +kernel) (by decide +kernel) rfl) ?_
  refine hAllOk.c 340 (ok_iadd (by decide +kernel) rfl) ?_
  refine hAllOk.c 341 (ok_iaload (by decide +kernel) rfl) ?_
  refine hAllOk.c 342 (ok_callV (idx := 36) ⟨wd_t_373, wd_t_1, by decide +kernel, by decide +kernel⟩ rfl rfl wd_t_370 wd_t_371 wd_t_372 (by decide +kernel) rfl) ?_
  refine hAllOk.c 343 (ok_no) ?_
  refine hAllOk.c 344 (ok_no) ?_
  refine hAllOk.c 345 (ok_aload_n (f := 2) rfl (by decide +kernel) rfl) ?_
  refine hAllOk.c 346 (ok_aload_n (f := 0) rfl (by decide +kernel) rfl) ?_
  refine hAllOk.c 347 (ok_iload_n (f := 3) rfl (by decide +kernel) rfl) ?_
  refine hAllOk.c 348 (ok_iconst (n := 1) (by decide +kernel) (by decide +kernel) rfl) ?_
  refine hAllOk.c 349 (ok_iadd (by decide +kernel) rfl) ?_
  refine hAllOk.c 350 (ok_iaload (by decide +kernel) rfl) ?_
  refine hAllOk.c 351 (ok_aload_n (f := 0) rfl (by decide +kernel) rfl) ?_
  refine hAllOk.c 352 (ok_iload_n (f := 3) rfl (by decide +kernel) rfl) ?_
  refine hAllOk.c 353 (ok_iconst (n := 2) (by decide +kernel) (by decide +kernel) rfl) ?_
  refine hAllOk.c 354 (ok_iadd (by decide +kernel) rfl) ?_
  refine hAllOk.c 355 (ok_iaload (by decide +kernel) rfl) ?_
  refine hAllOk.c 356 (ok_callV (idx := 39) ⟨wd_t_747, wd_t_7, by decide +kernel, by decide +kernel⟩ rfl rfl wd_t_744 wd_t_745 wd_t_746 (by decide +kernel) rfl) ?_
  refine hAllOk.c 357 (ok_no) ?_
  refine hAllOk.c 358 (ok_no) ?_
  refine hAllOk.c 359 (ok_iceq (off := 463) (by decide +kernel) (by decide +kernel) rfl) ?_
  refine hAllOk.c 360 (ok_no) ?_
  refine hAllOk.c 361 (ok_no) ?_
  refine hAllOk.c 362 (ok_iconst (n := 0) (by decide +kernel) (by decide +kernel) rfl) ?_
  refine hAllOk.c 363 (ok_ireturn (by decide +kernel)) ?_
  refine hAllOk.c 364 (ok_aload_n (f := 1) rfl (by decide +kernel) rfl) ?_
  refine hAllOk.c 365 (ok_aload_n (f := 0) rfl (by decide +kernel) rfl) ?_
  refine hAllOk.c 366 (ok_iload_n (f := 3) rfl (by decide +kernel) rfl) ?_
  refine hAllOk.c 367 (ok_iconst (n := 1) (by decide +kernel) (by decide +kernel) rfl) ?_
  refine hAllOk.c 368 (ok_iadd (by decide +kernel) rfl) ?_
  refine hAllOk.c 369 (ok_iaload (by decide +kernel) rfl) ?_
  refine hAllOk.c 370 (ok_callV (idx := 40) ⟨wd_t_381, wd_t_1, by decide +kernel, by decide +kernel⟩ rfl rfl wd_t_378 wd_t_379 wd_t_380 (by decide +kernel) rfl) ?_
  refine hAllOk.c 371 (ok_no) ?_
  refine hAllOk.c 372 (ok_no) ?_
  refine hAllOk.c 373 (ok_aload_n (f := 2) rfl (by decide +kernel) rfl) ?_
  refine hAllOk.c 374 (ok_aload_n (f := 0) rfl (by decide +kernel) rfl) ?_
  refine hAllOk.c 375 (ok_iload_n (f := 3) rfl (by decide +kernel) rfl) ?_
  refine hAllOk.c 376 (ok_iconst (n := 1) (by decide +kernel) (by decide +kernel) rfl) ?_
  refine hAllOk.c 377 (ok_iadd (by decide +kernel) rfl) ?_
  refine hAllOk.c 378 (ok_iaload (by decide +kernel) rfl) ?_
  refine hAllOk.c 379 (ok_callV (idx := 43) ⟨wd_t_751, wd_t_7, by decide +kernel, by decide +kernel⟩ rfl rfl wd_t_748 wd_t_749 wd_t_750 (by decide +kernel) rfl) ?_
  refine hAllOk.c 380 (ok_no) ?_
  refine hAllOk.c 381 (ok_no) ?_
  refine hAllOk.c 382 (ok_iceq (off := 440) (by decide +kernel) (by decide +kernel) rfl) ?_
  refine hAllOk.c 383 (ok_no) ?_
  refine hAllOk.c 384 (ok_no) ?_
  refine hAllOk.c 385 (ok_iconst (n := 0) (by decide +kernel) (by decide +kernel) rfl) ?_
  refine hAllOk.c 386 (ok_ireturn (by decide +kernel)) ?_
  refine hAllOk.c 387 (ok_aload_n (f := 1) rfl (by decide +kernel) rfl) ?_
  refine hAllOk.c 388 (ok_callV (idx := 44) ⟨wd_t_385, wd_t_1, by decide +kernel, by decide +kernel⟩ rfl rfl wd_t_382 wd_t_383 wd_t_384 (by decide +kernel) rfl) ?_
  refine hAllOk.c 389 (ok_no) ?_
  refine hAllOk.c 390 (ok_no) ?_
  refine hAllOk.c 391 (ok_aload_n (f := 2) rfl (by decide +kernel) rfl) ?_
  refine hAllOk.c 392 (ok_callV (idx := 48) ⟨wd_t_755, wd_t_7, by decide +kernel, by decide +kernel⟩ rfl rfl wd_t_752 wd_t_753 wd_t_754 (by decide +kernel) rfl) ?_
  refine hAllOk.c 393 (ok_no) ?_
  refine hAllOk.c 394 (ok_no) ?_
  refine hAllOk.c 395 (ok_iceq (off := 427) (by decide +kernel) (by decide +kernel) rfl) ?_
  refine hAllOk.c 396 (ok_no) ?_
  refine hAllOk.c 397 (ok_no) ?_
  refine hAllOk.c 398 (ok_iconst (n := 0) (by decide +kernel) (by decide +kernel) rfl) ?_
  refine hAllOk.c 399 (ok_ireturn (by decide +kernel)) ?_
  refine hAllOk.c 400 (ok_aload_n (f := 1) rfl (by decide +kernel) rfl) ?_
  refine hAllOk.c 401 (ok_aload_n (f := 0) rfl (by decide +kernel) rfl) ?_
  refine hAllOk.c 402 (ok_iload_n (f := 3) rfl (by decide +kernel) rfl) ?_
  refine hAllOk.c 403 (ok_iconst (n := 1) (by decide +kernel) (by decide +kernel) rfl) ?_
  refine hAllOk.c 404 (ok_iadd (by decide +kernel) rfl) ?_
  refine hAllOk.c 405 (ok_iaload (by decide +kernel) rfl) ?_
  refine hAllOk.c 406 (ok_callV (idx := 49) ⟨wd_t_464, wd_t_1, by decide +kernel, by decide +kernel⟩ rfl rfl wd_t_461 wd_t_462 wd_t_463 (by decide +kernel) rfl) ?_
  refine hAllOk.c 407 (ok_no) ?_
  refine hAllOk.c 408 (ok_no) ?_
  refine hAllOk.c 409 (ok_aload_n (f := 2) rfl (by decide +kernel) rfl) ?_
  refine hAllOk.c 410 (ok_aload_n (f := 0) rfl (by decide +kernel) rfl) ?_
  refine hAllOk.c 411 (ok_iload_n (f := 3) rfl (by decide +kernel) rfl) ?_
  refine hAllOk.c 412 (ok_iconst (n := 1) (by decide +kernel) (by decide +kernel) rfl) ?_
  refine hAllOk.c 413 (ok_iadd (by decide +kernel) rfl) ?_
  refine hAllOk.c 414 (ok_iaload (by decide +kernel) rfl) ?_
  refine hAllOk.c 415 (ok_callV (idx := 52) ⟨wd_t_783, wd_t_7, by decide +kernel, by decide +kernel⟩ rfl rfl wd_t_780 wd_t_781 wd_t_782 (by decide +kernel) rfl) ?_
  refine hAllOk.c 416 (ok_no) ?_
  refine hAllOk.c 417 (ok_no) ?_
  refine hAllOk.c 418 (ok_iceq (off := 404) (by decide +kernel) (by decide +kernel) rfl) ?_
  refine hAllOk.c 419 (ok_no) ?_
  refine hAllOk.c 420 (ok_no) ?_
  refine hAllOk.c 421 (ok_iconst (n := 0) (by decide +kernel) (by decide +kernel) rfl) ?_
  refine hAllOk.c 422 (ok_ireturn (by decide +kernel)) ?_
  refine hAllOk.c 423 (ok_aload_n (f := 1) rfl (by decide +kernel) rfl) ?_
  refine hAllOk.c 424 (ok_callV (idx := 53) ⟨wd_t_480, wd_t_1, by decide +kernel, by decide +kernel⟩ rfl rfl wd_t_477 wd_t_478 wd_t_479 (by decide +kernel) rfl) ?_
  refine hAllOk.c 425 (ok_no) ?_
  refine hAllOk.c 426 (ok_no) ?_
  refine hAllOk.c 427 (ok_aload_n (f := 2) rfl (by decide +kernel) rfl) ?_
  refine hAllOk.c 428 (ok_callV (idx := 56) ⟨wd_t_787, wd_t_7, by decide +kernel, by decide +kernel⟩ rfl rfl wd_t_784 wd_t_785 wd_t_786 (by decide +kernel) rfl) ?_
  refine hAllOk.c 429 (ok_no) ?_
  refine hAllOk.c 430 (ok_no) ?_
  refine hAllOk.c 431 (ok_iceq (off := 391) (by decide +kernel) (by decide +kernel) rfl) ?_
  refine hAllOk.c 432 (ok_no) ?_
  refine hAllOk.c 433 (ok_no) ?_
  refine hAllOk.c 434 (ok_iconst (n := 0) (by decide +kernel) (by decide +kernel) rfl) ?_
  refine hAllOk.c 435 (ok_ireturn (by decide +kernel)) ?_
  refine hAllOk.c 436 (ok_aload_n (f := 1) rfl (by decide +kernel) rfl) ?_
  refine hAllOk.c 437 (ok_aload_n (f := 0) rfl (by decide +kernel) rfl) ?_
  refine hAllOk.c 438 (ok_iload_n (f := 3) rfl (by decide +kernel) rfl) ?_
  refine hAllOk.c 439 (ok_iconst (n := 1) (by decide +kernel) (by decide +kernel) rfl) ?_
  refine hAllOk.c 440 (ok_iadd (by decide +kernel) rfl) ?_
  refine hAllOk.c 441 (ok_iaload (by decide +kernel) rfl) ?_
  refine hAllOk.c 442 (ok_i2c (by decide +kernel) rfl) ?_
  refine hAllOk.c 443 (ok_callV (idx := 57) ⟨wd_t_488, wd_t_1, by decide +kernel, by decide +kernel⟩ rfl rfl wd_t_485 wd_t_486 wd_t_487 (by decide +kernel) rfl) ?_
  refine hAllOk.c 444 (ok_no) ?_
  refine hAllOk.c 445 (ok_no) ?_
  refine hAllOk.c 446 (ok_aload_n (f := 2) rfl (by decide +kernel) rfl) ?_
  refine hAllOk.c 447 (ok_aload_n (f := 0) rfl (by decide +kernel) rfl) ?_
  refine hAllOk.c 448 (ok_iload_n (f := 3) rfl (by decide +kernel) rfl) ?_
  refine hAllOk.c 449 (ok_iconst (n := 1) (by decide +kernel) (by decide +kernel) rfl) ?_
  refine hAllOk.c 450 (ok_iadd (by decide +kernel) rfl) ?_
  refine hAllOk.c 451 (ok_iaload (by decide +kernel) rfl) ?_
  refine hAllOk.c 452 (ok_i2c (by decide +kernel) rfl) ?_
  refine hAllOk.c 453 (ok_callV (idx := 61) ⟨wd_t_791, wd_t_7, by decide +kernel, by decide +kernel⟩ rfl rfl wd_t_788 wd_t_789 wd_t_790 (by decide +kernel) rfl) ?_
  refine hAllOk.c 454 (ok_no) ?_
  refine hAllOk.c 455 (ok_no) ?_
  refine hAllOk.c 456 (ok_iceq (off := 366) (by decide +kernel) (by decide +kernel) rfl) ?_
  refine hAllOk.c 457 (ok_no) ?_
  refine hAllOk.c 458 (ok_no) ?_
  refine hAllOk.c 459 (ok_iconst (n := 0) (by decide +kernel) (by decide +kernel) rfl) ?_
  refine hAllOk.c 460 (ok_ireturn (by decide +kernel)) ?_
  refine hAllOk.c 461 (ok_aload_n (f := 1) rfl (by decide +kernel) rfl) ?_
  refine hAllOk.c 462 (ok_callV (idx := 62) ⟨wd_t_492, wd_t_1, by decide +kernel, by decide +kernel⟩ rfl rfl wd_t_489 wd_t_490 wd_t_491 (by decide +kernel) rfl) ?_
  refine hAllOk.c 463 (ok_no) ?_
  refine hAllOk.c 464 (ok_no) ?_
  refine hAllOk.c 465 (ok_aload_n (f := 2) rfl (by decide +kernel) rfl) ?_
  refine hAllOk.c 466 (ok_callV (idx := 65) ⟨wd_t_795, wd_t_7, by decide +kernel, by decide +kernel⟩ rfl rfl wd_t_792 wd_t_793 wd_t_794 (by decide +kernel) rfl) ?_
  refine hAllOk.c 467 (ok_no) ?_
  refine hAllOk.c 468 (ok_no) ?_
  refine hAllOk.c 469 (ok_iceq (off := 353) (by decide +kernel) (by decide +kernel) rfl) ?_
  refine hAllOk.c 470 (ok_no) ?_
  refine hAllOk.c 471 (ok_no) ?_
  refine hAllOk.c 472 (ok_iconst (n := 0) (by decide +kernel) (by decide +kernel) rfl) ?_
  refine hAllOk.c 473 (ok_ireturn (by decide +kernel)) ?_
  refine hAllOk.c 474 (ok_aload_n (f := 1) rfl (by decide +kernel) rfl) ?_
  refine hAllOk.c 475 (ok_callV (idx := 66) ⟨wd_t_496, wd_t_1, by decide +kernel, by decide +kernel⟩ rfl rfl wd_t_493 wd_t_494 wd_t_495 (by decide +kernel) rfl) ?_
  refine hAllOk.c 476 (ok_no) ?_
  refine hAllOk.c 477 (ok_no) ?_
  refine hAllOk.c 478 (ok_aload_n (f := 2) rfl (by decide +kernel) rfl) ?_
  refine hAllOk.c 479 (ok_callV (idx := 69) ⟨wd_t_799, wd_t_7, by decide +kernel, by decide +kernel⟩ rfl rfl wd_t_796 wd_t_797 wd_t_798 (by decide +kernel) rfl) ?_
  refine hAllOk.c 480 (ok_no) ?_
  refine hAllOk.c 481 (ok_no) ?_
  refine hAllOk.c 482 (ok_iceq (off := 340) (by decide +kernel) (by decide +kernel) rfl) ?_
  refine hAllOk.c 483 (ok_no) ?_
  refine hAllOk.c 484 (ok_no) ?_
  refine hAllOk.c 485 (ok_iconst (n := 0) (by decide +kernel) (by decide +kernel) rfl) ?_
  refine hAllOk.c 486 (ok_ireturn (by decide +kernel)) ?_
  refine hAllOk.c 487 (ok_aload_n (f := 1) rfl (by decide +kernel) rfl) ?_
  refine hAllOk.c 488 (ok_callV (idx := 70) ⟨wd_t_504, wd_t_1, by decide +kernel, by decide +kernel⟩ rfl rfl wd_t_501 wd_t_502 wd_t_503 (by decide +kernel) rfl) ?_
  refine hAllOk.c 489 (ok_no) ?_
  refine hAllOk.c 490 (ok_no) ?_
  refine hAllOk.c 491 (ok_aload_n (f := 2) rfl (by decide +kernel) rfl) ?_
  refine hAllOk.c 492 (ok_callV (idx := 73) ⟨wd_t_803, wd_t_7, by decide +kernel, by decide +kernel⟩ rfl rfl wd_t_800 wd_t_801 wd_t_802 (by decide +kernel) rfl) ?_
  refine hAllOk.c 493 (ok_no) ?_
  refine hAllOk.c 494 (ok_no) ?_
  refine hAllOk.c 495 (ok_iceq (off := 327) (by decide +kernel) (by decide +kernel) rfl) ?_
  refine hAllOk.c 496 (ok_no) ?_
  refine hAllOk.c 497 (ok_no) ?_
  refine hAllOk.c 498 (ok_iconst (n := 0) (by decide +kernel) (by decide +kernel) rfl) ?_
  refine hAllOk.c 499 (ok_ireturn (by decide +kernel)) ?_
  refine hAllOk.c 500 (ok_aload_n (f := 1) rfl (by decide +kernel) rfl) ?_
  refine hAllOk.c 501 (ok_callV (idx := 74) ⟨wd_t_509, wd_t_1, by decide +kernel, by decide +kernel⟩ rfl rfl wd_t_506 wd_t_507 wd_t_508 (by decide +kernel) rfl) ?_
  refine hAllOk.c 502 (ok_no) ?_
  refine hAllOk.c 503 (ok_no) ?_
  refine hAllOk.c 504 (ok_aload_n (f := 2) rfl (by decide +kernel) rfl) ?_
  refine hAllOk.c 505 (ok_callV (idx := 77) ⟨wd_t_807, wd_t_7, by decide +kernel, by decide +kernel⟩ rfl rfl wd_t_804 wd_t_805 wd_t_806 (by decide +kernel) rfl) ?_
  refine hAllOk.c 506 (ok_no) ?_
  refine hAllOk.c 507 (ok_no) ?_
  refine hAllOk.c 508 (ok_iceq (off := 314) (by decide +kernel) (by decide +kernel) rfl) ?_
  refine hAllOk.c 509 (ok_no) ?_
  refine hAllOk.c 510 (ok_no) ?_
  refine hAllOk.c 511 (ok_iconst (n := 0) (by decide +kernel) (by decide +kernel) rfl) ?_
  refine hAllOk.c 512 (ok_ireturn (by decide +kernel)) ?_
  refine hAllOk.c 513 (ok_aload_n (f := 1) rfl (by decide +kernel) rfl) ?_
  refine hAllOk.c 514 (ok_aload_n (f := 0) rfl (by decide +kernel) rfl) ?_
  refine hAllOk.c 515 (ok_iload_n (f := 3) rfl (by decide +kernel) rfl) ?_
  refine hAllOk.c 516 (ok_iconst (n := 1) (by decide +kernel) (by decide +kernel) rfl) ?_
  refine hAllOk.c 517 (ok_iadd (by decide +kernel) rfl) ?_
  refine hAllOk.c 518 (ok_iaload (by decide +kernel) rfl) ?_
  refine hAllOk.c 519 (ok_aload_n (f := 0) rfl (by decide +kernel) rfl) ?_
  refine hAllOk.c 520 (ok_iload_n (f := 3) rfl (by decide +kernel) rfl) ?_
  refine hAllOk.c 521 (ok_iconst (n := 2) (by decide +kernel) (by decide +kernel) rfl) ?_
  refine hAllOk.c 522 (ok_iadd (by decide +kernel) rfl) ?_
  refine hAllOk.c 523 (ok_iaload (by decide +kernel) rfl) ?_
  refine hAllOk.c 524 (ok_callV (idx := 78) ⟨wd_t_513, wd_t_1, by decide +kernel, by decide +kernel⟩ rfl rfl wd_t_510 wd_t_511 wd_t_512 (by decide +kernel) rfl) ?_
  refine hAllOk.c 525 (ok_no) ?_
  refine hAllOk.c 526 (ok_no) ?_
  refine hAllOk.c 527 (ok_aload_n (f := 2) rfl (by decide +kernel) rfl) ?_
  refine hAllOk.c 528 (ok_aload_n (f := 0) rfl (by decide +kernel) rfl) ?_
  refine hAllOk.c 529 (ok_iload_n (f := 3) rfl (by decide +kernel) rfl) ?_
  refine hAllOk.c 530 (ok_iconst (n := 1) (by decide +kernel) (by decide +kernel) rfl) ?_
  refine hAllOk.c 531 (ok_iadd (by decide +kernel) rfl) ?_
  refine hAllOk.c 532 (ok_iaload (by decide +kernel) rfl) ?_
  refine hAllOk.c 533 (ok_aload_n (f := 0) rfl (by decide +kernel) rfl) ?_
  refine hAllOk.c 534 (ok_iload_n (f := 3) rfl (by decide +kernel) rfl) ?_
  refine hAllOk.c 535 (ok_iconst (n := 2) (by decide +kernel) (by decide +kernel) rfl) ?_
  refine hAllOk.c 536 (ok_iadd (by decide +kernel) rfl) ?_
  refine hAllOk.c 537 (ok_iaload (by decide +kernel) rfl) ?_
  refine hAllOk.c 538 (ok_callV (idx := 81) ⟨wd_t_811, wd_t_7, by decide +kernel, by decide +kernel⟩ rfl rfl wd_t_808 wd_t_809 wd_t_810 (by decide +kernel) rfl) ?_
  refine hAllOk.c 539 (ok_no) ?_
  refine hAllOk.c 540 (ok_no) ?_
  refine hAllOk.c 541 (ok_iceq (off := 281) (by decide +kernel) (by decide +kernel) rfl) ?_
  refine hAllOk.c 542 (ok_no) ?_
  refine hAllOk.c 543 (ok_no) ?_
  refine hAllOk.c 544 (ok_iconst (n := 0) (by decide +kernel) (by decide +kernel) rfl) ?_
  refine hAllOk.c 545 (ok_ireturn (by decide +kernel)) ?_
  refine hAllOk.c 546 (ok_aload_n (f := 1) rfl (by decide +kernel) rfl) ?_
  refine hAllOk.c 547 (ok_aload_n (f := 0) rfl (by decide +kernel) rfl) ?_
  refine hAllOk.c 548 (ok_iload_n (f := 3) rfl (by decide +kernel) rfl) ?_
  refine hAllOk.c 549 (ok_iconst (n := 1) (by decide +kernel) (by decide +kernel) rfl) ?_
  refine hAllOk.c 550 (ok_iadd (by decide +kernel) rfl) ?_
  refine hAllOk.c 551 (ok_iaload (by decide +kernel) rfl) ?_
  refine hAllOk.c 552 (ok_aload_n (f := 0) rfl (by decide +kernel) rfl) ?_
  refine hAllOk.c 553 (ok_iload_n (f := 3) rfl (by decide +kernel) rfl) ?_
  refine hAllOk.c 554 (ok_iconst (n := 2) (by decide +kernel) (by decide +kernel) rfl) ?_
  refine hAllOk.c 555 (ok_iadd (by decide +kernel) rfl) ?_
  refine hAllOk.c 556 (ok_iaload (by decide +kernel) rfl) ?_
  refine hAllOk.c 557 (ok_callV (idx := 82) ⟨wd_t_524, wd_t_1, by decide +kernel, by decide +kernel⟩ rfl rfl wd_t_521 wd_t_522 wd_t_523 (by decide +kernel) rfl) ?_
  refine hAllOk.c 558 (ok_no) ?_
  refine hAllOk.c 559 (ok_no) ?_
  refine hAllOk.c 560 (ok_aload_n (f := 2) rfl (by decide +kernel) rfl) ?_
  refine hAllOk.c 561 (ok_aload_n (f := 0) rfl (by decide +kernel) rfl) ?_
  refine hAllOk.c 562 (ok_iload_n (f := 3) rfl (by decide +kernel) rfl) ?_
  refine hAllOk.c 563 (ok_iconst (n := 1) (by decide +kernel) (by decide +kernel) rfl) ?_
  refine hAllOk.c 564 (ok_iadd (by decide +kernel) rfl) ?_
  refine hAllOk.c 565 (ok_iaload (by decide +kernel) rfl) ?_
  refine hAllOk.c 566 (ok_aload_n (f := 0) rfl (by decide +kernel) rfl) ?_
  refine hAllOk.c 567 (ok_iload_n (f := 3) rfl (by decide +kernel) rfl) ?_
  refine hAllOk.c 568 (ok_iconst (n := 2) (by decide +kernel) (by decide +kernel) rfl) ?_
  refine hAllOk.c 569 (ok_iadd (by decide +kernel) rfl) ?_
  refine hAllOk.c 570 (ok_iaload (by decide +kernel) rfl) ?_
  refine hAllOk.c 571 (ok_callV (idx := 85) ⟨wd_t_815, wd_t_7, by decide +kernel, by decide +kernel⟩ rfl rfl wd_t_812 wd_t_813 wd_t_814 (by decide +kernel) rfl) ?_
  refine hAllOk.c 572 (ok_no) ?_
  refine hAllOk.c 573 (ok_no) ?_
  refine hAllOk.c 574 (ok_iceq (off := 248) (by decide +kernel) (by decide +kernel) rfl) ?_
  refine hAllOk.c 575 (ok_no) ?_
  refine hAllOk.c 576 (ok_no) ?_
  refine hAllOk.c 577 (ok_iconst (n := 0) (by decide +kernel) (by decide +kernel) rfl) ?_
  refine hAllOk.c 578 (ok_ireturn (by decide +kernel)) ?_
  refine hAllOk.c 579 (ok_aload_n (f := 1) rfl (by decide +kernel) rfl) ?_
  refine hAllOk.c 580 (ok_aload_n (f := 0) rfl (by decide +kernel) rfl) ?_
  refine hAllOk.c 581 (ok_iload_n (f := 3) rfl (by decide +kernel) rfl) ?_
  refine hAllOk.c 582 (ok_iconst (n := 1) (by decide +kernel) (by decide +kernel) rfl) ?_
  refine hAllOk.c 583 (ok_iadd (by decide +kernel) rfl) ?_
  refine hAllOk.c 584 (ok_iaload (by decide +kernel) rfl) ?_
  refine hAllOk.c 585 (ok_callV (idx := 86) ⟨wd_t_530, wd_t_1, by decide +kernel, by decide +kernel⟩ rfl rfl wd_t_527 wd_t_528 wd_t_529 (by decide +kernel) rfl) ?_
  refine hAllOk.c 586 (ok_no) ?_
  refine hAllOk.c 587 (ok_no) ?_
  refine hAllOk.c 588 (ok_aload_n (f := 2) rfl (by decide +kernel) rfl) ?_
  refine hAllOk.c 589 (ok_aload_n (f := 0) rfl (by decide +kernel) rfl) ?_
  refine hAllOk.c 590 (ok_iload_n (f := 3) rfl (by decide +kernel) rfl) ?_
  refine hAllOk.c 591 (ok_iconst (n := 1) (by decide +kernel) (by decide +kernel) rfl) ?_
  refine hAllOk.c 592 (ok_iadd (by decide +kernel) rfl) ?_
  refine hAllOk.c 593 (ok_iaload (by decide +kernel) rfl) ?_
  refine hAllOk.c 594 (ok_callV (idx := 89) ⟨wd_t_823, wd_t_7, by decide +kernel, by decide +kernel⟩ rfl rfl wd_t_820 wd_t_821 wd_t_822 (by decide +kernel) rfl) ?_
  refine hAllOk.c 595 (ok_no) ?_
  refine hAllOk.c 596 (ok_no) ?_
  refine hAllOk.c 597 (ok_iceq (off := 225) (by decide +kernel) (by decide +kernel) rfl) ?_
  refine hAllOk.c 598 (ok_no) ?_
  refine hAllOk.c 599 (ok_no) ?_
  refine hAllOk.c 600 (ok_iconst (n := 0) (by decide +kernel) (by decide +kernel) rfl) ?_
  refine hAllOk.c 601 (ok_ireturn (by decide +kernel)) ?_
  refine hAllOk.c 602 (ok_aload_n (f := 1) rfl (by decide +kernel) rfl) ?_
  refine hAllOk.c 603 (ok_aload_n (f := 0) rfl (by decide +kernel) rfl) ?_
  refine hAllOk.c 604 (ok_iload_n (f := 3) rfl (by decide +kernel) rfl) ?_
  refine hAllOk.c 605 (ok_iconst (n := 1) (by decide +kernel) (by decide +kernel) rfl) ?_
  refine hAllOk.c 606 (ok_iadd (by decide +kernel) rfl) ?_
  refine hAllOk.c 607 (ok_iaload (by decide +kernel) rfl) ?_
  refine hAllOk.c 608 (ok_callV (idx := 90) ⟨wd_t_535, wd_t_1, by decide +kernel, by decide +kernel⟩ rfl rfl wd_t_532 wd_t_533 wd_t_534 (by decide +kernel) rfl) ?_
  refine hAllOk.c 609 (ok_no) ?_
  refine hAllOk.c 610 (ok_no) ?_
  refine hAllOk.c 611 (ok_aload_n (f := 2) rfl (by decide +kernel) rfl) ?_
  refine hAllOk.c 612 (ok_aload_n (f := 0) rfl (by decide +kernel) rfl) ?_
  refine hAllOk.c 613 (ok_iload_n (f := 3) rfl (by decide +kernel) rfl) ?_
  refine hAllOk.c 614 (ok_iconst (n := 1) (by decide +kernel) (by decide +kernel) rfl) ?_
  refine hAllOk.c 615 (ok_iadd (by decide +kernel) rfl) ?_
  refine hAllOk.c 616 (ok_iaload (by decide +kernel) rfl) ?_
  refine hAllOk.c 617 (ok_callV (idx := 93) ⟨wd_t_827, wd_t_7, by decide +kernel, by decide +kernel⟩ rfl rfl wd_t_824 wd_t_825 wd_t_826 (by decide +kernel) rfl) ?_
  refine hAllOk.c 618 (ok_no) ?_
  refine hAllOk.c 619 (ok_no) ?_
  refine hAllOk.c 620 (ok_iceq (off := 202) (by decide +kernel) (by decide +kernel) rfl) ?_
  refine hAllOk.c 621 (ok_no) ?_
  refine hAllOk.c 622 (ok_no) ?_
  refine hAllOk.c 623 (ok_iconst (n := 0) (by decide +kernel) (by decide +kernel) rfl) ?_
  refine hAllOk.c 624 (ok_ireturn (by decide +kernel)) ?_
  refine hAllOk.c 625 (ok_aload_n (f := 1) rfl (by decide +kernel) rfl) ?_
  refine hAllOk.c 626 (ok_aload_n (f := 0) rfl (by decide +kernel) rfl) ?_
  refine hAllOk.c 627 (ok_iload_n (f := 3) rfl (by decide +kernel) rfl) ?_
  refine hAllOk.c 628 (ok_iconst (n := 1) (by decide +kernel) (by decide +kernel) rfl) ?_
  refine hAllOk.c 629 (ok_iadd (by decide +kernel) rfl) ?_
  refine hAllOk.c 630 (ok_iaload (by decide +kernel) rfl) ?_
  refine hAllOk.c 631 (ok_callV (idx := 94) ⟨wd_t_540, wd_t_1, by decide +kernel, by decide +kernel⟩ rfl rfl wd_t_537 wd_t_538 wd_t_539 (by decide +kernel) rfl) ?_
  refine hAllOk.c 632 (ok_no) ?_
  refine hAllOk.c 633 (ok_no) ?_
  refine hAllOk.c 634 (ok_aload_n (f := 2) rfl (by decide +kernel) rfl) ?_
  refine hAllOk.c 635 (ok_aload_n (f := 0) rfl (by decide +kernel) rfl) ?_
  refine hAllOk.c 636 (ok_iload_n (f := 3) rfl (by decide +kernel) rfl) ?_
  refine hAllOk.c 637 (ok_iconst (n := 1) (by decide +kernel) (by decide +kernel) rfl) ?_
  refine hAllOk.c 638 (ok_iadd (by decide +kernel) rfl) ?_
  refine hAllOk.c 639 (ok_iaload (by decide +kernel) rfl) ?_
  refine hAllOk.c 640 (ok_callV (idx := 97) ⟨wd_t_831, wd_t_7, by decide +kernel, by decide +kernel⟩ rfl rfl wd_t_828 wd_t_829 wd_t_830 (by decide +kernel) rfl) ?_
  refine hAllOk.c 641 (ok_no) ?_
  refine hAllOk.c 642 (ok_no) ?_
  refine hAllOk.c 643 (ok_iceq (off := 179) (by decide +kernel) (by decide +kernel) rfl) ?_
  refine hAllOk.c 644 (ok_no) ?_
  refine hAllOk.c 645 (ok_no) ?_
  refine hAllOk.c 646 (ok_iconst (n := 0) (by decide +kernel) (by decide +kernel) rfl) ?_
  refine hAllOk.c 647 (ok_ireturn (by decide +kernel)) ?_
  refine hAllOk.c 648 (ok_aload_n (f := 1) rfl (by decide +kernel) rfl) ?_
  refine hAllOk.c 649 (ok_callV (idx := 98) ⟨wd_t_548, wd_t_1, by decide +kernel, by decide +kernel⟩ rfl rfl wd_t_545 wd_t_546 wd_t_547 (by decide +kernel) rfl) ?_
  refine hAllOk.c 650 (ok_no) ?_
  refine hAllOk.c 651 (ok_no) ?_
  refine hAllOk.c 652 (ok_aload_n (f := 2) rfl (by decide +kernel) rfl) ?_
  refine hAllOk.c 653 (ok_callV (idx := 101) ⟨wd_t_839, wd_t_7, by decide +kernel, by decide +kernel⟩ rfl rfl wd_t_836 wd_t_837 wd_t_838 (by decide +kernel) rfl) ?_
  refine hAllOk.c 654 (ok_no) ?_
  refine hAllOk.c 655 (ok_no) ?_
  refine hAllOk.c 656 (ok_iceq (off := 166) (by decide +kernel) (by decide +kernel) rfl) ?_
  refine hAllOk.c 657 (ok_no) ?_
  refine hAllOk.c 658 (ok_no) ?_
  refine hAllOk.c 659 (ok_iconst (n := 0) (by decide +kernel) (by decide +kernel) rfl) ?_
  refine hAllOk.c 660 (ok_ireturn (by decide +kernel)) ?_
  refine hAllOk.c 661 (ok_aload_n (f := 1) rfl (by decide +kernel) rfl) ?_
  refine hAllOk.c 662 (ok_aload_n (f := 0) rfl (by decide +kernel) rfl) ?_
  refine hAllOk.c 663 (ok_iload_n (f := 3) rfl (by decide +kernel) rfl) ?_
  refine hAllOk.c 664 (ok_iconst (n := 1) (by decide +kernel) (by decide +kernel) rfl) ?_
  refine hAllOk.c 665 (ok_iadd (by decide +kernel) rfl) ?_
  refine hAllOk.c 666 (ok_iaload (by decide +kernel) rfl) ?_
  refine hAllOk.c 667 (ok_aload_n (f := 0) rfl (by decide +kernel) rfl) ?_
  refine hAllOk.c 668 (ok_iload_n (f := 3) rfl (by decide +kernel) rfl) ?_
  refine hAllOk.c 669 (ok_iconst (n := 2) (by decide +kernel) (by decide +kernel) rfl) ?_
  refine hAllOk.c 670 (ok_iadd (by decide +kernel) rfl) ?_
  refine hAllOk.c 671 (ok_iaload (by decide +kernel) rfl) ?_
  refine hAllOk.c 672 (ok_callV (idx := 102) ⟨wd_t_556, wd_t_1, by decide +kernel, by decide +kernel⟩ rfl rfl wd_t_553 wd_t_554 wd_t_555 (by decide +kernel) rfl) ?_
  refine hAllOk.c 673 (ok_no) ?_
  refine hAllOk.c 674 (ok_no) ?_
  refine hAllOk.c 675 (ok_aload_n (f := 2) rfl (by decide +kernel) rfl) ?_
  refine hAllOk.c 676 (ok_aload_n (f := 0) rfl (by decide +kernel) rfl) ?_
  refine hAllOk.c 677 (ok_iload_n (f := 3) rfl (by decide +kernel) rfl) ?_
  refine hAllOk.c 678 (ok_iconst (n := 1) (by decide +kernel) (by decide +kernel) rfl) ?_
  refine hAllOk.c 679 (ok_iadd (by decide +kernel) rfl) ?_
  refine hAllOk.c 680 (ok_iaload (by decide +kernel) rfl) ?_
  refine hAllOk.c 681 (ok_aload_n (f := 0) rfl (by decide +kernel) rfl) ?_
  refine hAllOk.c 682 (ok_iload_n (f := 3) rfl (by decide +kernel) rfl) ?_
  refine hAllOk.c 683 (ok_iconst (n := 2) (by decide +kernel) (by decide +kernel) rfl) ?_
  refine hAllOk.c 684 (ok_iadd (by decide +kernel) rfl) ?_
  refine hAllOk.c 685 (ok_iaload (by decide +kernel) rfl) ?_
  refine hAllOk.c 686 (ok_callV (idx := 105) ⟨wd_t_843, wd_t_7, by decide +kernel, by decide +kernel⟩ rfl rfl wd_t_840 wd_t_841 wd_t_842 (by decide +kernel) rfl) ?_
  refine hAllOk.c 687 (ok_no) ?_
  refine hAllOk.c 688 (ok_no) ?_
  refine hAllOk.c 689 (ok_iceq (off := 133) (by decide +kernel) (by decide +kernel) rfl) ?_
  refine hAllOk.c 690 (ok_no) ?_
  refine hAllOk.c 691 (ok_no) ?_
  refine hAllOk.c 692 (ok_iconst (n := 0) (by decide +kernel) (by decide +kernel) rfl) ?_
  refine hAllOk.c 693 (ok_ireturn (by decide +kernel)) ?_
  refine hAllOk.c 694 (ok_aload_n (f := 1) rfl (by decide +kernel) rfl) ?_
  refine hAllOk.c 695 (ok_callV (idx := 106) ⟨wd_t_564, wd_t_1, by decide +kernel, by decide +kernel⟩ rfl rfl wd_t_561 wd_t_562 wd_t_563 (by decide +kernel) rfl) ?_
  refine hAllOk.c 696 (ok_no) ?_
  refine hAllOk.c 697 (ok_no) ?_
  refine hAllOk.c 698 (ok_aload_n (f := 2) rfl (by decide +kernel) rfl) ?_
  refine hAllOk.c 699 (ok_callV (idx := 109) ⟨wd_t_851, wd_t_7, by decide +kernel, by decide +kernel⟩ rfl rfl wd_t_848 wd_t_849 wd_t_850 (by decide +kernel) rfl) ?_
  refine hAllOk.c 700 (ok_no) ?_
  refine hAllOk.c 701 (ok_no) ?_
  refine hAllOk.c 702 (ok_iceq (off := 120) (by decide +kernel) (by decide +kernel) rfl) ?_
  refine hAllOk.c 703 (ok_no) ?_
  refine hAllOk.c 704 (ok_no) ?_
  refine hAllOk.c 705 (ok_iconst (n := 0) (by decide +kernel) (by decide +kernel) rfl) ?_
  refine hAllOk.c 706 (ok_ireturn (by decide +kernel)) ?_
  refine hAllOk.c 707 (ok_aload_n (f := 1) rfl (by decide +kernel) rfl) ?_
  refine hAllOk.c 708 (ok_aload_n (f := 0) rfl (by decide +kernel) rfl) ?_
  refine hAllOk.c 709 (ok_iload_n (f := 3) rfl (by decide +kernel) rfl) ?_
  refine hAllOk.c 710 (ok_iconst (n := 1) (by decide +kernel) (by decide +kernel) rfl) ?_
  refine hAllOk.c 711 (ok_iadd (by decide +kernel) rfl) ?_
  refine hAllOk.c 712 (ok_iaload (by decide +kernel) rfl) ?_
  refine hAllOk.c 713 (ok_callV (idx := 110) ⟨wd_t_568, wd_t_1, by decide +kernel, by decide +kernel⟩ rfl rfl wd_t_565 wd_t_566 wd_t_567 (by decide +kernel) rfl) ?_
  refine hAllOk.c 714 (ok_no) ?_
  refine hAllOk.c 715 (ok_no) ?_
  refine hAllOk.c 716 (ok_aload_n (f := 2) rfl (by decide +kernel) rfl) ?_
  refine hAllOk.c 717 (ok_aload_n (f := 0) rfl (by decide +kernel) rfl) ?_
  refine hAllOk.c 718 (ok_iload_n (f := 3) rfl (by decide +kernel) rfl) ?_
  refine hAllOk.c 719 (ok_iconst (n := 1) (by decide +kernel) (by decide +kernel) rfl) ?_
  refine hAllOk.c 720 (ok_iadd (by decide +kernel) rfl) ?_
  refine hAllOk.c 721 (ok_iaload (by decide +kernel) rfl) ?_
  refine hAllOk.c 722 (ok_callV (idx := 113) ⟨wd_t_855, wd_t_7, by decide +kernel, by decide +kernel⟩ rfl rfl wd_t_852 wd_t_853 wd_t_854 (by decide +kernel) rfl) ?_
  refine hAllOk.c 723 (ok_no) ?_
  refine hAllOk.c 724 (ok_no) ?_
  refine hAllOk.c 725 (ok_iceq (off := 97) (by decide +kernel) (by decide +kernel) rfl) ?_
  refine hAllOk.c 726 (ok_no) ?_
  refine hAllOk.c 727 (ok_no) ?_
  refine hAllOk.c 728 (ok_iconst (n := 0) (by decide +kernel) (by decide +kernel) rfl) ?_
  refine hAllOk.c 729 (ok_ireturn (by decide +kernel)) ?_
  refine hAllOk.c 730 (ok_aload_n (f := 1) rfl (by decide +kernel) rfl) ?_
  refine hAllOk.c 731 (ok_aload_n (f := 0) rfl (by decide +kernel) rfl) ?_
  refine hAllOk.c 732 (ok_iload_n (f := 3) rfl (by decide +kernel) rfl) ?_
  refine hAllOk.c 733 (ok_iconst (n := 1) (by decide +kernel) (by decide +kernel) rfl) ?_
  refine hAllOk.c 734 (ok_iadd (by decide +kernel) rfl) ?_
  refine hAllOk.c 735 (ok_iaload (by decide +kernel) rfl) ?_
  refine hAllOk.c 736 (ok_callV (idx := 114) ⟨wd_t_573, wd_t_1, by decide +kernel, by decide +kernel⟩ rfl rfl wd_t_570 wd_t_571 wd_t_572 (by decide +kernel) rfl) ?_
  refine hAllOk.c 737 (ok_no) ?_
  refine hAllOk.c 738 (ok_no) ?_
  refine hAllOk.c 739 (ok_aload_n (f := 2) rfl (by decide +kernel) rfl) ?_
  refine hAllOk.c 740 (ok_aload_n (f := 0) rfl (by decide +kernel) rfl) ?_
  refine hAllOk.c 741 (ok_iload_n (f := 3) rfl (by decide +kernel) rfl) ?_
  refine hAllOk.c 742 (ok_iconst (n := 1) (by decide +kernel) (by decide +kernel) rfl) ?_
  refine hAllOk.c 743 (ok_iadd (by decide +kernel) rfl) ?_
  refine hAllOk.c 744 (ok_iaload (by decide +kernel) rfl) ?_
  refine hAllOk.c 745 (ok_callV (idx := 117) ⟨wd_t_859, wd_t_7, by decide +kernel, by decide +kernel⟩ rfl rfl wd_t_856 wd_t_857 wd_t_858 (by decide +kernel) rfl) ?_
  refine hAllOk.c 746 (ok_no) ?_
  refine hAllOk.c 747 (ok_no) ?_
  refine hAllOk.c 748 (ok_iceq (off := 74) (by decide +kernel) (by decide +kernel) rfl) ?_
  refine hAllOk.c 749 (ok_no) ?_
  refine hAllOk.c 750 (ok_no) ?_
  refine hAllOk.c 751 (ok_iconst (n := 0) (by decide +kernel) (by decide +kernel) rfl) ?_
  refine hAllOk.c 752 (ok_ireturn (by decide +kernel)) ?_
  refine hAllOk.c 753 (ok_aload_n (f := 1) rfl (by decide +kernel) rfl) ?_
  refine hAllOk.c 754 (ok_aload_n (f := 0) rfl (by decide +kernel) rfl) ?_
  refine hAllOk.c 755 (ok_iload_n (f := 3) rfl (by decide +kernel) rfl) ?_
  refine hAllOk.c 756 (ok_iconst (n := 1) (by decide +kernel) (by decide +kernel) rfl) ?_
  refine hAllOk.c 757 (ok_iadd (by decide +kernel) rfl) ?_
  refine hAllOk.c 758 (ok_iaload (by decide +kernel) rfl) ?_
  refine hAllOk.c 759 (ok_callV (idx := 118) ⟨wd_t_577, wd_t_1, by decide +kernel, by decide +kernel⟩ rfl rfl wd_t_574 wd_t_575 wd_t_576 (by decide +kernel) rfl) ?_
  refine hAllOk.c 760 (ok_no) ?_
  refine hAllOk.c 761 (ok_no) ?_
  refine hAllOk.c 762 (ok_aload_n (f := 2) rfl (by decide +kernel) rfl) ?_
  refine hAllOk.c 763 (ok_aload_n (f := 0) rfl (by decide +kernel) rfl) ?_
  refine hAllOk.c 764 (ok_iload_n (f := 3) rfl (by decide +kernel) rfl) ?_
  refine hAllOk.c 765 (ok_iconst (n := 1) (by decide +kernel) (by decide +kernel) rfl) ?_
  refine hAllOk.c 766 (ok_iadd (by decide +kernel) rfl) ?_
  refine hAllOk.c 767 (ok_iaload (by decide +kernel) rfl) ?_
  refine hAllOk.c 768 (ok_callV (idx := 121) ⟨wd_t_863, wd_t_7, by decide +kernel, by decide +kernel⟩ rfl rfl wd_t_860 wd_t_861 wd_t_862 (by decide +kernel) rfl) ?_
  refine hAllOk.c 769 (ok_no) ?_
  refine hAllOk.c 770 (ok_no) ?_
  refine hAllOk.c 771 (ok_iceq (off := 51) (by decide +kernel) (by decide +kernel) rfl) ?_
  refine hAllOk.c 772 (ok_no) ?_
  refine hAllOk.c 773 (ok_no) ?_
  refine hAllOk.c 774 (ok_iconst (n := 0) (by decide +kernel) (by decide +kernel) rfl) ?_
  refine hAllOk.c 775 (ok_ireturn (by decide +kernel)) ?_
  refine hAllOk.c 776 (ok_aload_n (f := 1) rfl (by decide +kernel) rfl) ?_
  refine hAllOk.c 777 (ok_aload_n (f := 0) rfl (by decide +kernel) rfl) ?_
  refine hAllOk.c 778 (ok_iload_n (f := 3) rfl (by decide +kernel) rfl) ?_
  refine hAllOk.c 779 (ok_iconst (n := 1) (by decide +kernel) (by decide +kernel) rfl) ?_
  refine hAllOk.c 780 (ok_iadd (by decide +kernel) rfl) ?_
  refine hAllOk.c 781 (ok_iaload (by decide +kernel) rfl) ?_
  refine hAllOk.c 782 (ok_callV (idx := 122) ⟨wd_t_581, wd_t_1, by decide +kernel, by decide +kernel⟩ rfl rfl wd_t_578 wd_t_579 wd_t_580 (by decide +kernel) rfl) ?_
  refine hAllOk.c 783 (ok_no) ?_
  refine hAllOk.c 784 (ok_no) ?_
  refine hAllOk.c 785 (ok_aload_n (f := 2) rfl (by decide +kernel) rfl) ?_
  refine hAllOk.c 786 (ok_aload_n (f := 0) rfl (by decide +kernel) rfl) ?_
  refine hAllOk.c 787 (ok_iload_n (f := 3) rfl (by decide +kernel) rfl) ?_
  refine hAllOk.c 788 (ok_iconst (n := 1) (by decide +kernel) (by decide +kernel) rfl) ?_
  refine hAllOk.c 789 (ok_iadd (by decide +kernel) rfl) ?_
  refine hAllOk.c 790 (ok_iaload (by decide +kernel) rfl) ?_
  refine hAllOk.c 791 (ok_callV (idx := 125) ⟨wd_t_867, wd_t_7, by decide +kernel, by decide +kernel⟩ rfl rfl wd_t_864 wd_t_865 wd_t_866 (by decide +kernel) rfl) ?_
  refine hAllOk.c 792 (ok_no) ?_
  refine hAllOk.c 793 (ok_no) ?_
  refine hAllOk.c 794 (ok_iceq (off := 28) (by decide +kernel) (by decide +kernel) rfl) ?_
  refine hAllOk.c 795 (ok_no) ?_
  refine hAllOk.c 796 (ok_no) ?_
  refine hAllOk.c 797 (ok_iconst (n := 0) (by decide +kernel) (by decide +kernel) rfl) ?_
  refine hAllOk.c 798 (ok_ireturn (by decide +kernel)) ?_
  refine hAllOk.c 799 (ok_aload_n (f := 1) rfl (by decide +kernel) rfl) ?_
  refine hAllOk.c 800 (ok_aload_n (f := 0) rfl (by decide +kernel) rfl) ?_
  refine hAllOk.c 801 (ok_iload_n (f := 3) rfl (by decide +kernel) rfl) ?_
  refine hAllOk.c 802 (ok_iconst (n := 1) (by decide +kernel) (by decide +kernel) rfl) ?_
  refine hAllOk.c 803 (ok_iadd (by decide +kernel) rfl) ?_
  refine hAllOk.c 804 (ok_iaload (by decide +kernel) rfl) ?_
  refine hAllOk.c 805 (ok_callV (idx := 126) ⟨wd_t_589, wd_t_1, by decide +kernel, by decide +kernel⟩ rfl rfl wd_t_586 wd_t_587 wd_t_588 (by decide +kernel) rfl) ?_
  refine hAllOk.c 806 (ok_no) ?_
  refine hAllOk.c 807 (ok_no) ?_
  refine hAllOk.c 808 (ok_aload_n (f := 2) rfl (by decide +kernel) rfl) ?_
  refine hAllOk.c 809 (ok_aload_n (f := 0) rfl (by decide +kernel) rfl) ?_
  refine hAllOk.c 810 (ok_iload_n (f := 3) rfl (by decide +kernel) rfl) ?_
  refine hAllOk.c 811 (ok_iconst (n := 1) (by decide +kernel) (by decide +kernel) rfl) ?_
  refine hAllOk.c 812 (ok_iadd (by decide +kernel) rfl) ?_
  refine hAllOk.c 813 (ok_iaload (by decide +kernel) rfl) ?_
  refine hAllOk.c 814 (ok_callV (idx := 129) ⟨wd_t_871, wd_t_7, by decide +kernel, by decide +kernel⟩ rfl rfl wd_t_868 wd_t_869 wd_t_870 (by decide +kernel) rfl) ?_
  refine hAllOk.c 815 (ok_no) ?_
  refine hAllOk.c 816 (ok_no) ?_
  refine hAllOk.c 817 (ok_iceq (off := 5) (by decide +kernel) (by decide +kernel) rfl) ?_
  refine hAllOk.c 818 (ok_no) ?_
  refine hAllOk.c 819 (ok_no) ?_
  refine hAllOk.c 820 (ok_iconst (n := 0) (by decide +kernel) (by decide +kernel) rfl) ?_
  refine hAllOk.c 821 (ok_ireturn (by decide +kernel)) ?_
  refine hAllOk.c 822 (ok_iinc (n := 3) (by decide +kernel) (by decide) (by decide +kernel) rfl) ?_
  refine hAllOk.c 823 (ok_no) ?_
  refine hAllOk.c 824 (ok_no) ?_
  refine hAllOk.c 825 (ok_goto (off := (-807)) (by decide +kernel) (by decide +kernel)) ?_
  refine hAllOk.c 826 (ok_no) ?_
  refine hAllOk.c 827 (ok_no) ?_
  refine hAllOk.c 828 (ok_iconst (n := 1) (by decide +kernel) (by decide +kernel) rfl) ?_
  refine hAllOk.c 829 (ok_ireturn (by decide +kernel)) ?_
  trivial
