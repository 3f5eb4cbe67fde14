theorem inTb0 : ∀ w ∈ u_ws RX0 TX0 10, w ∈ hTb := hTb_p [52, 54, 56, 58, 60, 62, 64, 66, 68, 70] (by decide +kernel) (by decide +kernel)
theorem inTb1 : ∀ w ∈ u_ws RX1 TX1 2, w ∈ hTb := hTb_p [127, 129] (by decide +kernel) (by decide +kernel)
theorem inTb2 : ∀ w ∈ u_ws RX2 TX2 7, w ∈ hTb := hTb_p [149, 151, 153, 155, 157, 159, 161] (by decide +kernel) (by decide +kernel)
theorem inTb3 : ∀ w ∈ u_ws RX3 TX3 7, w ∈ hTb := hTb_p [179, 181, 183, 185, 187, 189, 191] (by decide +kernel) (by decide +kernel)
theorem inTb4 : ∀ w ∈ u_ws RX4 TX4 10, w ∈ hTb := hTb_p [94, 96, 98, 100, 102, 104, 106, 108, 110, 112] (by decide +kernel) (by decide +kernel)
theorem inTb5 : ∀ w ∈ u_ws RX5 TX5 8, w ∈ hTb := hTb_p [202, 204, 206, 208, 210, 212, 214, 216] (by decide +kernel) (by decide +kernel)
theorem wd_t_28 : Cond.methodLink RX0 3 Lib.objectInit ∈ hTb := hTb_t (List.mem_of_getElem? (i := 28) (by decide +kernel)) (by decide +kernel)
theorem wd_t_14 : Cond.instanceMethod Lib.objectInit ∈ hTb := hTb_t (List.mem_of_getElem? (i := 14) (by decide +kernel)) (by decide +kernel)
theorem wd_t_15 : Cond.code Lib.objectInit ⟨#[0xb1]⟩ 1 none ∈ hTb := hTb_t (List.mem_of_getElem? (i := 15) (by decide +kernel)) (by decide +kernel)
theorem wd_t_73 : Cond.arrayClass .int ∈ hTb := hTb_t (List.mem_of_getElem? (i := 73) (by decide +kernel)) (by decide +kernel)
theorem wd_t_51 : Cond.fieldLink RX0 9 RX0 "steps" "[I" ∈ hTb := hTb_t (List.mem_of_getElem? (i := 51) (by decide +kernel)) (by decide +kernel)
def M_Gu_init : hM := (yX0_init, prog_2_method_1_code, 1, none, 1, 20)
def code_Gu_init (K : hK) (B : Nat × Nat) (Q : hPost) : List hSem := [x_aload 1 0, x_objinit 4, x_no, x_no, x_aload 5 0, x_const 7 (60), x_no, x_newarray K B 9 0, x_no, x_putfield 12 0 9 (.array .int), x_no, x_no, x_return Q]
set_option maxRecDepth 100000 in
set_option maxHeartbeats 4000000 in
theorem okc_Gu_init (K : hK) (B : Nat × Nat) (Q : hPost) : hAllOk (hJ K M_Gu_init B Q) 0 (code_Gu_init K B Q) := by
  refine hAllOk.c 0 (ok_aload_n (f := 0) rfl (by decide +kernel) rfl) ?_
  refine hAllOk.c 1 (ok_objinit (idx := 3) wd_t_28 wd_t_14 wd_t_15 (by decide) (by decide) (by decide +kernel) rfl) ?_
  refine hAllOk.c 2 (ok_no) ?_
  refine hAllOk.c 3 (ok_no) ?_
  refine hAllOk.c 4 (ok_aload_n (f := 0) rfl (by decide +kernel) rfl) ?_
  refine hAllOk.c 5 (ok_bipush (n := 60) (by decide +kernel) (by decide +kernel) rfl) ?_
  refine hAllOk.c 6 (ok_no) ?_
  refine hAllOk.c 7 (ok_newarray (by decide) wd_t_73 (by decide +kernel) rfl) ?_
  refine hAllOk.c 8 (ok_no) ?_
  refine hAllOk.c 9 (ok_putfieldF (idx := 9) (N := 10) (T := TX0) tyX0_ok nmX0 rfl rfl inTb0 (by decide) rfl rfl rfl rfl wd_t_51 (by decide +kernel) rfl) ?_
  refine hAllOk.c 10 (ok_no) ?_
  refine hAllOk.c 11 (ok_no) ?_
  refine hAllOk.c 12 (ok_return rfl (by decide +kernel)) ?_
  trivial
theorem wd_t_21 : Cond.methodLink RX4 3 Lib.objectInit ∈ hTb := hTb_t (List.mem_of_getElem? (i := 21) (by decide +kernel)) (by decide +kernel)
theorem wd_t_22 : Cond.classLink RX4 9 RX0 ∈ hTb := hTb_t (List.mem_of_getElem? (i := 22) (by decide +kernel)) (by decide +kernel)
theorem wd_t_76 : Cond.fieldLink RX4 11 RX4 "guests" "[LStableParty$Guest;" ∈ hTb := hTb_t (List.mem_of_getElem? (i := 76) (by decide +kernel)) (by decide +kernel)
theorem wd_t_77 : Cond.fieldLink RX4 17 RX4 "guestCount" "I" ∈ hTb := hTb_t (List.mem_of_getElem? (i := 77) (by decide +kernel)) (by decide +kernel)
theorem wd_t_79 : Cond.fieldLink RX4 21 RX4 "settings" "[I" ∈ hTb := hTb_t (List.mem_of_getElem? (i := 79) (by decide +kernel)) (by decide +kernel)
theorem wd_t_81 : Cond.fieldLink RX4 25 RX4 "day" "I" ∈ hTb := hTb_t (List.mem_of_getElem? (i := 81) (by decide +kernel)) (by decide +kernel)
theorem wd_t_83 : Cond.fieldLink RX4 28 RX4 "fixed" "Z" ∈ hTb := hTb_t (List.mem_of_getElem? (i := 83) (by decide +kernel)) (by decide +kernel)
theorem wd_t_85 : Cond.fieldLink RX4 32 RX4 "left" "I" ∈ hTb := hTb_t (List.mem_of_getElem? (i := 85) (by decide +kernel)) (by decide +kernel)
theorem wd_t_87 : Cond.fieldLink RX4 35 RX4 "paidFee" "I" ∈ hTb := hTb_t (List.mem_of_getElem? (i := 87) (by decide +kernel)) (by decide +kernel)
theorem wd_t_88 : Cond.fieldLink RX4 38 RX4 "fixedSoFar" "I" ∈ hTb := hTb_t (List.mem_of_getElem? (i := 88) (by decide +kernel)) (by decide +kernel)
theorem wd_t_90 : Cond.fieldLink RX4 41 RX4 "cancelledSoFar" "I" ∈ hTb := hTb_t (List.mem_of_getElem? (i := 90) (by decide +kernel)) (by decide +kernel)
theorem wd_t_92 : Cond.fieldLink RX4 44 RX4 "followedSoFar" "I" ∈ hTb := hTb_t (List.mem_of_getElem? (i := 92) (by decide +kernel)) (by decide +kernel)
theorem wd_t_24 : Cond.instantiable RX0 10 ∈ hTb := hTb_t (List.mem_of_getElem? (i := 24) (by decide +kernel)) (by decide +kernel)
theorem wd_t_3 : Cond.initialized RX0 ∈ hTb := hTb_t (List.mem_of_getElem? (i := 3) (by decide +kernel)) (by decide +kernel)
theorem wd_n_25 : Cond.methodLinkNest RX4 47 yX0_init "StableParty" ∈ tables_1 := List.mem_of_getElem? (i := 25) (by decide +kernel)
theorem wd_t_27 : Cond.code yX0_init prog_2_method_1_code 1 none ∈ hTb := hTb_t (List.mem_of_getElem? (i := 27) (by decide +kernel)) (by decide +kernel)
theorem wd_t_26 : Cond.instanceMethod yX0_init ∈ hTb := hTb_t (List.mem_of_getElem? (i := 26) (by decide +kernel)) (by decide +kernel)
theorem wd_n_74 : Cond.fieldLinkNest RX4 48 RX5 "FIRST_SETTINGS" "[I" "StableParty" ∈ tables_1 := List.mem_of_getElem? (i := 74) (by decide +kernel)
def M_St_init : hM := (yX4_init, prog_6_method_1_code, 2, none, 2, 40)
def code_St_init (K : hK) (B : Nat × Nat) (Q : hPost) : List hSem := [x_aload 1 0, x_objinit 4, x_no, x_no, x_aload 5 0, x_const 7 (12), x_no, x_anewarray K B 10 3, x_no, x_no, x_putfield 13 4 0 (.array (.object "StableParty$Guest")), x_no, x_no, x_aload 14 0, x_const 15 (0), x_putfield 18 4 1 (.int), x_no, x_no, x_aload 19 0, x_const 20 (5), x_newarray K B 22 0, x_no, x_putfield 25 4 2 (.array .int), x_no, x_no, x_aload 26 0, x_const 27 (0), x_putfield 30 4 3 (.int), x_no, x_no, x_aload 31 0, x_const 32 (0), x_putfield 35 4 4 (.boolean), x_no, x_no, x_aload 36 0, x_const 37 (0), x_putfield 40 4 5 (.int), x_no, x_no, x_aload 41 0, x_const 42 (0), x_putfield 45 4 6 (.int), x_no, x_no, x_aload 46 0, x_const 47 (0), x_putfield 50 4 7 (.int), x_no, x_no, x_aload 51 0, x_const 52 (0), x_putfield 55 4 8 (.int), x_no, x_no, x_aload 56 0, x_const 57 (0), x_putfield 60 4 9 (.int), x_no, x_no, x_const 61 (0), x_istore 62 1, x_iload 63 1, x_const 65 (12), x_no, x_icge 87 68, x_no, x_no, x_aload 69 0, x_getfield 72 4 0, x_no, x_no, x_iload 73 1, x_new B 76 0 10 [.int 0, .int 0, .int 0, .int 0, .int 0, .int 0, .int 0, .int 0, .int 0, .null], x_no, x_no, x_dup 77, x_callI K B 80 M_Gu_init 0, x_no, x_no, x_aastore K 81 3, x_iinc 84 1 (1), x_no, x_no, x_goto 62, x_no, x_no, x_const 88 (0), x_istore 89 1, x_iload 90 1, x_const 91 (5), x_icge 111 94, x_no, x_no, x_aload 95 0, x_getfield 98 4 2, x_no, x_no, x_iload 99 1, x_getstatic K 102 0, x_no, x_no, x_iload 103 1, x_iaload K 104, x_iastore K 105, x_iinc 108 1 (1), x_no, x_no, x_goto 89, x_no, x_no, x_return Q]
set_option maxRecDepth 100000 in
set_option maxHeartbeats 4000000 in
theorem okc_St_init (K : hK) (B : Nat × Nat) (Q : hPost) : hAllOk (hJ K M_St_init B Q) 0 (code_St_init K B Q) := by
  refine hAllOk.c 0 (ok_aload_n (f := 0) rfl (by decide +kernel) rfl) ?_
  refine hAllOk.c 1 (ok_objinit (idx := 3) wd_t_21 wd_t_14 wd_t_15 (by decide) (by decide) (by decide +kernel) rfl) ?_
  refine hAllOk.c 2 (ok_no) ?_
  refine hAllOk.c 3 (ok_no) ?_
  refine hAllOk.c 4 (ok_aload_n (f := 0) rfl (by decide +kernel) rfl) ?_
  refine hAllOk.c 5 (ok_bipush (n := 12) (by decide +kernel) (by decide +kernel) rfl) ?_
  refine hAllOk.c 6 (ok_no) ?_
  refine hAllOk.c 7 (ok_anewarray (idx := 9) (by decide) wd_t_22 (by decide +kernel) rfl) ?_
  refine hAllOk.c 8 (ok_no) ?_
  refine hAllOk.c 9 (ok_no) ?_
  refine hAllOk.c 10 (ok_putfieldF (idx := 11) (N := 10) (T := TX4) tyX4_ok nmX4 rfl rfl inTb4 (by decide) rfl rfl rfl rfl wd_t_76 (by decide +kernel) rfl) ?_
  refine hAllOk.c 11 (ok_no) ?_
  refine hAllOk.c 12 (ok_no) ?_
  refine hAllOk.c 13 (ok_aload_n (f := 0) rfl (by decide +kernel) rfl) ?_
  refine hAllOk.c 14 (ok_iconst (n := 0) (by decide +kernel) (by decide +kernel) rfl) ?_
  refine hAllOk.c 15 (ok_putfield (idx := 17) (N := 10) (T := TX4) tyX4_ok nmX4 rfl rfl inTb4 (by decide) rfl rfl wd_t_77 (by decide +kernel) rfl) ?_
  refine hAllOk.c 16 (ok_no) ?_
  refine hAllOk.c 17 (ok_no) ?_
  refine hAllOk.c 18 (ok_aload_n (f := 0) rfl (by decide +kernel) rfl) ?_
  refine hAllOk.c 19 (ok_iconst (n := 5) (by decide +kernel) (by decide +kernel) rfl) ?_
  refine hAllOk.c 20 (ok_newarray (by decide) wd_t_73 (by decide +kernel) rfl) ?_
  refine hAllOk.c 21 (ok_no) ?_
  refine hAllOk.c 22 (ok_putfieldF (idx := 21) (N := 10) (T := TX4) tyX4_ok nmX4 rfl rfl inTb4 (by decide) rfl rfl rfl rfl wd_t_79 (by decide +kernel) rfl) ?_
  refine hAllOk.c 23 (ok_no) ?_
  refine hAllOk.c 24 (ok_no) ?_
  refine hAllOk.c 25 (ok_aload_n (f := 0) rfl (by decide +kernel) rfl) ?_
  refine hAllOk.c 26 (ok_iconst (n := 0) (by decide +kernel) (by decide +kernel) rfl) ?_
  refine hAllOk.c 27 (ok_putfield (idx := 25) (N := 10) (T := TX4) tyX4_ok nmX4 rfl rfl inTb4 (by decide) rfl rfl wd_t_81 (by decide +kernel) rfl) ?_
  refine hAllOk.c 28 (ok_no) ?_
  refine hAllOk.c 29 (ok_no) ?_
  refine hAllOk.c 30 (ok_aload_n (f := 0) rfl (by decide +kernel) rfl) ?_
  refine hAllOk.c 31 (ok_iconst (n := 0) (by decide +kernel) (by decide +kernel) rfl) ?_
  refine hAllOk.c 32 (ok_putfield (idx := 28) (N := 10) (T := TX4) tyX4_ok nmX4 rfl rfl inTb4 (by decide) rfl rfl wd_t_83 (by decide +kernel) rfl) ?_
  refine hAllOk.c 33 (ok_no) ?_
  refine hAllOk.c 34 (ok_no) ?_
  refine hAllOk.c 35 (ok_aload_n (f := 0) rfl (by decide +kernel) rfl) ?_
  refine hAllOk.c 36 (ok_iconst (n := 0) (by decide +kernel) (by decide +kernel) rfl) ?_
  refine hAllOk.c 37 (ok_putfield (idx := 32) (N := 10) (T := TX4) tyX4_ok nmX4 rfl rfl inTb4 (by decide) rfl rfl wd_t_85 (by decide +kernel) rfl) ?_
  refine hAllOk.c 38 (ok_no) ?_
  refine hAllOk.c 39 (ok_no) ?_
  refine hAllOk.c 40 (ok_aload_n (f := 0) rfl (by decide +kernel) rfl) ?_
  refine hAllOk.c 41 (ok_iconst (n := 0) (by decide +kernel) (by decide +kernel) rfl) ?_
  refine hAllOk.c 42 (ok_putfield (idx := 35) (N := 10) (T := TX4) tyX4_ok nmX4 rfl rfl inTb4 (by decide) rfl rfl wd_t_87 (by decide +kernel) rfl) ?_
  refine hAllOk.c 43 (ok_no) ?_
  refine hAllOk.c 44 (ok_no) ?_
  refine hAllOk.c 45 (ok_aload_n (f := 0) rfl (by decide +kernel) rfl) ?_
  refine hAllOk.c 46 (ok_iconst (n := 0) (by decide +kernel) (by decide +kernel) rfl) ?_
  refine hAllOk.c 47 (ok_putfield (idx := 38) (N := 10) (T := TX4) tyX4_ok nmX4 rfl rfl inTb4 (by decide) rfl rfl wd_t_88 (by decide +kernel) rfl) ?_
  refine hAllOk.c 48 (ok_no) ?_
  refine hAllOk.c 49 (ok_no) ?_
  refine hAllOk.c 50 (ok_aload_n (f := 0) rfl (by decide +kernel) rfl) ?_
  refine hAllOk.c 51 (ok_iconst (n := 0) (by decide +kernel) (by decide +kernel) rfl) ?_
  refine hAllOk.c 52 (ok_putfield (idx := 41) (N := 10) (T := TX4) tyX4_ok nmX4 rfl rfl inTb4 (by decide) rfl rfl wd_t_90 (by decide +kernel) rfl) ?_
  refine hAllOk.c 53 (ok_no) ?_
  refine hAllOk.c 54 (ok_no) ?_
  refine hAllOk.c 55 (ok_aload_n (f := 0) rfl (by decide +kernel) rfl) ?_
  refine hAllOk.c 56 (ok_iconst (n := 0) (by decide +kernel) (by decide +kernel) rfl) ?_
  refine hAllOk.c 57 (ok_putfield (idx := 44) (N := 10) (T := TX4) tyX4_ok nmX4 rfl rfl inTb4 (by decide) rfl rfl wd_t_92 (by decide +kernel) rfl) ?_
  refine hAllOk.c 58 (ok_no) ?_
  refine hAllOk.c 59 (ok_no) ?_
  refine hAllOk.c 60 (ok_iconst (n := 0) (by decide +kernel) (by decide +kernel) rfl) ?_
  refine hAllOk.c 61 (ok_istore_n (f := 1) rfl (by decide) (by decide +kernel) rfl) ?_
  refine hAllOk.c 62 (ok_iload_n (f := 1) rfl (by decide +kernel) rfl) ?_
  refine hAllOk.c 63 (ok_bipush (n := 12) (by decide +kernel) (by decide +kernel) rfl) ?_
  refine hAllOk.c 64 (ok_no) ?_
  refine hAllOk.c 65 (ok_icge (off := 22) (by decide +kernel) (by decide +kernel) rfl) ?_
  refine hAllOk.c 66 (ok_no) ?_
  refine hAllOk.c 67 (ok_no) ?_
  refine hAllOk.c 68 (ok_aload_n (f := 0) rfl (by decide +kernel) rfl) ?_
  refine hAllOk.c 69 (ok_getfield (idx := 11) (N := 10) (T := TX4) rfl inTb4 (by decide) rfl wd_t_76 (by decide +kernel) rfl) ?_
  refine hAllOk.c 70 (ok_no) ?_
  refine hAllOk.c 71 (ok_no) ?_
  refine hAllOk.c 72 (ok_iload_n (f := 1) rfl (by decide +kernel) rfl) ?_
  refine hAllOk.c 73 (ok_new (idx := 9) (N := 10) (T := TX0) tyX0_ok rfl inTb0 (by decide +kernel) wd_t_22 wd_t_24 wd_t_3 (by decide +kernel) rfl) ?_
  refine hAllOk.c 74 (ok_no) ?_
  refine hAllOk.c 75 (ok_no) ?_
  refine hAllOk.c 76 (ok_dup (by decide +kernel) rfl) ?_
  refine hAllOk.c 77 (ok_callIN (idx := 47) ⟨wd_t_27, wd_t_3, by decide +kernel, by decide +kernel⟩ rfl rfl wd_n_25 wd_t_26 (by decide +kernel) rfl) ?_
  refine hAllOk.c 78 (ok_no) ?_
  refine hAllOk.c 79 (ok_no) ?_
  refine hAllOk.c 80 (ok_aastore (by decide) (by decide +kernel) rfl) ?_
  refine hAllOk.c 81 (ok_iinc (n := 1) (by decide +kernel) (by decide) (by decide +kernel) rfl) ?_
  refine hAllOk.c 82 (ok_no) ?_
  refine hAllOk.c 83 (ok_no) ?_
  refine hAllOk.c 84 (ok_goto (off := (-22)) (by decide +kernel) (by decide +kernel)) ?_
  refine hAllOk.c 85 (ok_no) ?_
  refine hAllOk.c 86 (ok_no) ?_
  refine hAllOk.c 87 (ok_iconst (n := 0) (by decide +kernel) (by decide +kernel) rfl) ?_
  refine hAllOk.c 88 (ok_istore_n (f := 1) rfl (by decide) (by decide +kernel) rfl) ?_
  refine hAllOk.c 89 (ok_iload_n (f := 1) rfl (by decide +kernel) rfl) ?_
  refine hAllOk.c 90 (ok_iconst (n := 5) (by decide +kernel) (by decide +kernel) rfl) ?_
  refine hAllOk.c 91 (ok_icge (off := 20) (by decide +kernel) (by decide +kernel) rfl) ?_
  refine hAllOk.c 92 (ok_no) ?_
  refine hAllOk.c 93 (ok_no) ?_
  refine hAllOk.c 94 (ok_aload_n (f := 0) rfl (by decide +kernel) rfl) ?_
  refine hAllOk.c 95 (ok_getfield (idx := 21) (N := 10) (T := TX4) rfl inTb4 (by decide) rfl wd_t_79 (by decide +kernel) rfl) ?_
  refine hAllOk.c 96 (ok_no) ?_
  refine hAllOk.c 97 (ok_no) ?_
  refine hAllOk.c 98 (ok_iload_n (f := 1) rfl (by decide +kernel) rfl) ?_
  refine hAllOk.c 99 (ok_getstaticN (idx := 48) (by decide) wd_n_74 (by decide +kernel) rfl) ?_
  refine hAllOk.c 100 (ok_no) ?_
  refine hAllOk.c 101 (ok_no) ?_
  refine hAllOk.c 102 (ok_iload_n (f := 1) rfl (by decide +kernel) rfl) ?_
  refine hAllOk.c 103 (ok_iaload (by decide +kernel) rfl) ?_
  refine hAllOk.c 104 (ok_iastore (by decide +kernel) rfl) ?_
  refine hAllOk.c 105 (ok_iinc (n := 1) (by decide +kernel) (by decide) (by decide +kernel) rfl) ?_
  refine hAllOk.c 106 (ok_no) ?_
  refine hAllOk.c 107 (ok_no) ?_
  refine hAllOk.c 108 (ok_goto (off := (-19)) (by decide +kernel) (by decide +kernel)) ?_
  refine hAllOk.c 109 (ok_no) ?_
  refine hAllOk.c 110 (ok_no) ?_
  refine hAllOk.c 111 (ok_return rfl (by decide +kernel)) ?_
  trivial
theorem wd_t_120 : Cond.methodLink RX1 3 Lib.objectInit ∈ hTb := hTb_t (List.mem_of_getElem? (i := 120) (by decide +kernel)) (by decide +kernel)
theorem wd_t_121 : Cond.classLink RX1 9 RX4 ∈ hTb := hTb_t (List.mem_of_getElem? (i := 121) (by decide +kernel)) (by decide +kernel)
theorem wd_t_124 : Cond.fieldLink RX1 11 RX1 "states" "[LStableParty$State;" ∈ hTb := hTb_t (List.mem_of_getElem? (i := 124) (by decide +kernel)) (by decide +kernel)
theorem wd_t_125 : Cond.fieldLink RX1 17 RX1 "size" "I" ∈ hTb := hTb_t (List.mem_of_getElem? (i := 125) (by decide +kernel)) (by decide +kernel)
theorem wd_t_17 : Cond.instantiable RX4 10 ∈ hTb := hTb_t (List.mem_of_getElem? (i := 17) (by decide +kernel)) (by decide +kernel)
theorem wd_t_2 : Cond.initialized RX4 ∈ hTb := hTb_t (List.mem_of_getElem? (i := 2) (by decide +kernel)) (by decide +kernel)
theorem wd_n_123 : Cond.methodLinkNest RX1 21 yX4_init "StableParty" ∈ tables_1 := List.mem_of_getElem? (i := 123) (by decide +kernel)
theorem wd_t_20 : Cond.code yX4_init prog_6_method_1_code 2 none ∈ hTb := hTb_t (List.mem_of_getElem? (i := 20) (by decide +kernel)) (by decide +kernel)
theorem wd_t_19 : Cond.instanceMethod yX4_init ∈ hTb := hTb_t (List.mem_of_getElem? (i := 19) (by decide +kernel)) (by decide +kernel)
def M_Hi_init : hM := (yX1_init, prog_3_method_1_code, 2, none, 3, 61)
def code_Hi_init (K : hK) (B : Nat × Nat) (Q : hPost) : List hSem := [x_aload 1 0, x_objinit 4, x_no, x_no, x_aload 5 0, x_const 6 (4), x_anewarray K B 9 4, x_no, x_no, x_putfield 12 1 0 (.array (.object "StableParty$State")), x_no, x_no, x_aload 13 0, x_const 14 (0), x_putfield 17 1 1 (.int), x_no, x_no, x_const 18 (0), x_istore 19 1, x_iload 20 1, x_const 21 (4), x_icge 43 24, x_no, x_no, x_aload 25 0, x_getfield 28 1 0, x_no, x_no, x_iload 29 1, x_new B 32 4 10 [.null, .int 0, .null, .int 0, .int 0, .int 0, .int 0, .int 0, .int 0, .int 0], x_no, x_no, x_dup 33, x_callI K B 36 M_St_init 0, x_no, x_no, x_aastore K 37 4, x_iinc 40 1 (1), x_no, x_no, x_goto 19, x_no, x_no, x_return Q]
set_option maxRecDepth 100000 in
set_option maxHeartbeats 4000000 in
theorem okc_Hi_init (K : hK) (B : Nat × Nat) (Q : hPost) : hAllOk (hJ K M_Hi_init B Q) 0 (code_Hi_init K B Q) := by
  refine hAllOk.c 0 (ok_aload_n (f := 0) rfl (by decide +kernel) rfl) ?_
  refine hAllOk.c 1 (ok_objinit (idx := 3) wd_t_120 wd_t_14 wd_t_15 (by decide) (by decide) (by decide +kernel) rfl) ?_
  refine hAllOk.c 2 (ok_no) ?_
  refine hAllOk.c 3 (ok_no) ?_
  refine hAllOk.c 4 (ok_aload_n (f := 0) rfl (by decide +kernel) rfl) ?_
  refine hAllOk.c 5 (ok_iconst (n := 4) (by decide +kernel) (by decide +kernel) rfl) ?_
  refine hAllOk.c 6 (ok_anewarray (idx := 9) (by decide) wd_t_121 (by decide +kernel) rfl) ?_
  refine hAllOk.c 7 (ok_no) ?_
  refine hAllOk.c 8 (ok_no) ?_
  refine hAllOk.c 9 (ok_putfieldF (idx := 11) (N := 2) (T := TX1) tyX1_ok nmX1 rfl rfl inTb1 (by decide) rfl rfl rfl rfl wd_t_124 (by decide +kernel) rfl) ?_
  refine hAllOk.c 10 (ok_no) ?_
  refine hAllOk.c 11 (ok_no) ?_
  refine hAllOk.c 12 (ok_aload_n (f := 0) rfl (by decide +kernel) rfl) ?_
  refine hAllOk.c 13 (ok_iconst (n := 0) (by decide +kernel) (by decide +kernel) rfl) ?_
  refine hAllOk.c 14 (ok_putfield (idx := 17) (N := 2) (T := TX1) tyX1_ok nmX1 rfl rfl inTb1 (by decide) rfl rfl wd_t_125 (by decide +kernel) rfl) ?_
  refine hAllOk.c 15 (ok_no) ?_
  refine hAllOk.c 16 (ok_no) ?_
  refine hAllOk.c 17 (ok_iconst (n := 0) (by decide +kernel) (by decide +kernel) rfl) ?_
  refine hAllOk.c 18 (ok_istore_n (f := 1) rfl (by decide) (by decide +kernel) rfl) ?_
  refine hAllOk.c 19 (ok_iload_n (f := 1) rfl (by decide +kernel) rfl) ?_
  refine hAllOk.c 20 (ok_iconst (n := 4) (by decide +kernel) (by decide +kernel) rfl) ?_
  refine hAllOk.c 21 (ok_icge (off := 22) (by decide +kernel) (by decide +kernel) rfl) ?_
  refine hAllOk.c 22 (ok_no) ?_
  refine hAllOk.c 23 (ok_no) ?_
  refine hAllOk.c 24 (ok_aload_n (f := 0) rfl (by decide +kernel) rfl) ?_
  refine hAllOk.c 25 (ok_getfield (idx := 11) (N := 2) (T := TX1) rfl inTb1 (by decide) rfl wd_t_124 (by decide +kernel) rfl) ?_
  refine hAllOk.c 26 (ok_no) ?_
  refine hAllOk.c 27 (ok_no) ?_
  refine hAllOk.c 28 (ok_iload_n (f := 1) rfl (by decide +kernel) rfl) ?_
  refine hAllOk.c 29 (ok_new (idx := 9) (N := 10) (T := TX4) tyX4_ok rfl inTb4 (by decide +kernel) wd_t_121 wd_t_17 wd_t_2 (by decide +kernel) rfl) ?_
  refine hAllOk.c 30 (ok_no) ?_
  refine hAllOk.c 31 (ok_no) ?_
  refine hAllOk.c 32 (ok_dup (by decide +kernel) rfl) ?_
  refine hAllOk.c 33 (ok_callIN (idx := 21) ⟨wd_t_20, wd_t_2, by decide +kernel, by decide +kernel⟩ rfl rfl wd_n_123 wd_t_19 (by decide +kernel) rfl) ?_
  refine hAllOk.c 34 (ok_no) ?_
  refine hAllOk.c 35 (ok_no) ?_
  refine hAllOk.c 36 (ok_aastore (by decide) (by decide +kernel) rfl) ?_
  refine hAllOk.c 37 (ok_iinc (n := 1) (by decide +kernel) (by decide) (by decide +kernel) rfl) ?_
  refine hAllOk.c 38 (ok_no) ?_
  refine hAllOk.c 39 (ok_no) ?_
  refine hAllOk.c 40 (ok_goto (off := (-21)) (by decide +kernel) (by decide +kernel)) ?_
  refine hAllOk.c 41 (ok_no) ?_
  refine hAllOk.c 42 (ok_no) ?_
  refine hAllOk.c 43 (ok_return rfl (by decide +kernel)) ?_
  trivial
theorem wd_t_137 : Cond.methodLink RX2 3 Lib.objectInit ∈ hTb := hTb_t (List.mem_of_getElem? (i := 137) (by decide +kernel)) (by decide +kernel)
theorem wd_t_138 : Cond.fieldLink RX2 9 RX2 "steps" "[I" ∈ hTb := hTb_t (List.mem_of_getElem? (i := 138) (by decide +kernel)) (by decide +kernel)
theorem wd_t_140 : Cond.fieldLink RX2 15 RX2 "stepCount" "I" ∈ hTb := hTb_t (List.mem_of_getElem? (i := 140) (by decide +kernel)) (by decide +kernel)
theorem wd_t_142 : Cond.fieldLink RX2 19 RX2 "letters" "I" ∈ hTb := hTb_t (List.mem_of_getElem? (i := 142) (by decide +kernel)) (by decide +kernel)
theorem wd_t_145 : Cond.fieldLink RX2 22 RX2 "openBrackets" "I" ∈ hTb := hTb_t (List.mem_of_getElem? (i := 145) (by decide +kernel)) (by decide +kernel)
theorem wd_t_146 : Cond.fieldLink RX2 25 RX2 "expected" "I" ∈ hTb := hTb_t (List.mem_of_getElem? (i := 146) (by decide +kernel)) (by decide +kernel)
theorem wd_t_147 : Cond.fieldLink RX2 28 RX2 "atLeast" "I" ∈ hTb := hTb_t (List.mem_of_getElem? (i := 147) (by decide +kernel)) (by decide +kernel)
theorem wd_t_148 : Cond.fieldLink RX2 31 RX2 "among" "I" ∈ hTb := hTb_t (List.mem_of_getElem? (i := 148) (by decide +kernel)) (by decide +kernel)
def M_Re_init : hM := (yX2_init, prog_4_method_1_code, 1, none, 1, 20)
def code_Re_init (K : hK) (B : Nat × Nat) (Q : hPost) : List hSem := [x_aload 1 0, x_objinit 4, x_no, x_no, x_aload 5 0, x_const 7 (60), x_no, x_newarray K B 9 0, x_no, x_putfield 12 2 0 (.array .int), x_no, x_no, x_aload 13 0, x_const 14 (0), x_putfield 17 2 1 (.int), x_no, x_no, x_aload 18 0, x_const 19 (0), x_putfield 22 2 2 (.int), x_no, x_no, x_aload 23 0, x_const 24 (0), x_putfield 27 2 3 (.int), x_no, x_no, x_aload 28 0, x_const 29 (0), x_putfield 32 2 4 (.int), x_no, x_no, x_aload 33 0, x_const 34 (0), x_putfield 37 2 5 (.int), x_no, x_no, x_aload 38 0, x_const 39 (0), x_putfield 42 2 6 (.int), x_no, x_no, x_return Q]
set_option maxRecDepth 100000 in
set_option maxHeartbeats 4000000 in
theorem okc_Re_init (K : hK) (B : Nat × Nat) (Q : hPost) : hAllOk (hJ K M_Re_init B Q) 0 (code_Re_init K B Q) := by
  refine hAllOk.c 0 (ok_aload_n (f := 0) rfl (by decide +kernel) rfl) ?_
  refine hAllOk.c 1 (ok_objinit (idx := 3) wd_t_137 wd_t_14 wd_t_15 (by decide) (by decide) (by decide +kernel) rfl) ?_
  refine hAllOk.c 2 (ok_no) ?_
  refine hAllOk.c 3 (ok_no) ?_
  refine hAllOk.c 4 (ok_aload_n (f := 0) rfl (by decide +kernel) rfl) ?_
  refine hAllOk.c 5 (ok_bipush (n := 60) (by decide +kernel) (by decide +kernel) rfl) ?_
  refine hAllOk.c 6 (ok_no) ?_
  refine hAllOk.c 7 (ok_newarray (by decide) wd_t_73 (by decide +kernel) rfl) ?_
  refine hAllOk.c 8 (ok_no) ?_
  refine hAllOk.c 9 (ok_putfieldF (idx := 9) (N := 7) (T := TX2) tyX2_ok nmX2 rfl rfl inTb2 (by decide) rfl rfl rfl rfl wd_t_138 (by decide +kernel) rfl) ?_
  refine hAllOk.c 10 (ok_no) ?_
  refine hAllOk.c 11 (ok_no) ?_
  refine hAllOk.c 12 (ok_aload_n (f := 0) rfl (by decide +kernel) rfl) ?_
  refine hAllOk.c 13 (ok_iconst (n := 0) (by decide +kernel) (by decide +kernel) rfl) ?_
  refine hAllOk.c 14 (ok_putfield (idx := 15) (N := 7) (T := TX2) tyX2_ok nmX2 rfl rfl inTb2 (by decide) rfl rfl wd_t_140 (by decide +kernel) rfl) ?_
  refine hAllOk.c 15 (ok_no) ?_
  refine hAllOk.c 16 (ok_no) ?_
  refine hAllOk.c 17 (ok_aload_n (f := 0) rfl (by decide +kernel) rfl) ?_
  refine hAllOk.c 18 (ok_iconst (n := 0) (by decide +kernel) (by decide +kernel) rfl) ?_
  refine hAllOk.c 19 (ok_putfield (idx := 19) (N := 7) (T := TX2) tyX2_ok nmX2 rfl rfl inTb2 (by decide) rfl rfl wd_t_142 (by decide +kernel) rfl) ?_
  refine hAllOk.c 20 (ok_no) ?_
  refine hAllOk.c 21 (ok_no) ?_
  refine hAllOk.c 22 (ok_aload_n (f := 0) rfl (by decide +kernel) rfl) ?_
  refine hAllOk.c 23 (ok_iconst (n := 0) (by decide +kernel) (by decide +kernel) rfl) ?_
  refine hAllOk.c 24 (ok_putfield (idx := 22) (N := 7) (T := TX2) tyX2_ok nmX2 rfl rfl inTb2 (by decide) rfl rfl wd_t_145 (by decide +kernel) rfl) ?_
  refine hAllOk.c 25 (ok_no) ?_
  refine hAllOk.c 26 (ok_no) ?_
  refine hAllOk.c 27 (ok_aload_n (f := 0) rfl (by decide +kernel) rfl) ?_
  refine hAllOk.c 28 (ok_iconst (n := 0) (by decide +kernel) (by decide +kernel) rfl) ?_
  refine hAllOk.c 29 (ok_putfield (idx := 25) (N := 7) (T := TX2) tyX2_ok nmX2 rfl rfl inTb2 (by decide) rfl rfl wd_t_146 (by decide +kernel) rfl) ?_
  refine hAllOk.c 30 (ok_no) ?_
  refine hAllOk.c 31 (ok_no) ?_
  refine hAllOk.c 32 (ok_aload_n (f := 0) rfl (by decide +kernel) rfl) ?_
  refine hAllOk.c 33 (ok_iconst (n := 0) (by decide +kernel) (by decide +kernel) rfl) ?_
  refine hAllOk.c 34 (ok_putfield (idx := 28) (N := 7) (T := TX2) tyX2_ok nmX2 rfl rfl inTb2 (by decide) rfl rfl wd_t_147 (by decide +kernel) rfl) ?_
  refine hAllOk.c 35 (ok_no) ?_
  refine hAllOk.c 36 (ok_no) ?_
  refine hAllOk.c 37 (ok_aload_n (f := 0) rfl (by decide +kernel) rfl) ?_
  refine hAllOk.c 38 (ok_iconst (n := 0) (by decide +kernel) (by decide +kernel) rfl) ?_
  refine hAllOk.c 39 (ok_putfield (idx := 31) (N := 7) (T := TX2) tyX2_ok nmX2 rfl rfl inTb2 (by decide) rfl rfl wd_t_148 (by decide +kernel) rfl) ?_
  refine hAllOk.c 40 (ok_no) ?_
  refine hAllOk.c 41 (ok_no) ?_
  refine hAllOk.c 42 (ok_return rfl (by decide +kernel)) ?_
  trivial
theorem wd_t_170 : Cond.methodLink RX3 3 Lib.objectInit ∈ hTb := hTb_t (List.mem_of_getElem? (i := 170) (by decide +kernel)) (by decide +kernel)
theorem wd_t_171 : Cond.fieldLink RX3 9 RX3 "away" "[I" ∈ hTb := hTb_t (List.mem_of_getElem? (i := 171) (by decide +kernel)) (by decide +kernel)
theorem wd_t_172 : Cond.fieldLink RX3 15 RX3 "lastRound" "I" ∈ hTb := hTb_t (List.mem_of_getElem? (i := 172) (by decide +kernel)) (by decide +kernel)
theorem wd_t_174 : Cond.fieldLink RX3 19 RX3 "reasons" "[I" ∈ hTb := hTb_t (List.mem_of_getElem? (i := 174) (by decide +kernel)) (by decide +kernel)
theorem wd_t_175 : Cond.fieldLink RX3 22 RX3 "roundsAway" "[I" ∈ hTb := hTb_t (List.mem_of_getElem? (i := 175) (by decide +kernel)) (by decide +kernel)
theorem wd_t_176 : Cond.fieldLink RX3 25 RX3 "leadsBackTo" "[I" ∈ hTb := hTb_t (List.mem_of_getElem? (i := 176) (by decide +kernel)) (by decide +kernel)
theorem wd_t_177 : Cond.fieldLink RX3 28 RX3 "wayLengths" "[I" ∈ hTb := hTb_t (List.mem_of_getElem? (i := 177) (by decide +kernel)) (by decide +kernel)
theorem wd_t_178 : Cond.fieldLink RX3 31 RX3 "wayEnds" "[I" ∈ hTb := hTb_t (List.mem_of_getElem? (i := 178) (by decide +kernel)) (by decide +kernel)
def M_Se_init : hM := (yX3_init, prog_5_method_1_code, 1, none, 1, 20)
def code_Se_init (K : hK) (B : Nat × Nat) (Q : hPost) : List hSem := [x_aload 1 0, x_objinit 4, x_no, x_no, x_aload 5 0, x_const 7 (14), x_no, x_newarray K B 9 0, x_no, x_putfield 12 3 0 (.array .int), x_no, x_no, x_aload 13 0, x_const 14 (0), x_putfield 17 3 1 (.int), x_no, x_no, x_aload 18 0, x_const 20 (12), x_no, x_newarray K B 22 0, x_no, x_putfield 25 3 2 (.array .int), x_no, x_no, x_aload 26 0, x_const 28 (12), x_no, x_newarray K B 30 0, x_no, x_putfield 33 3 3 (.array .int), x_no, x_no, x_aload 34 0, x_const 36 (12), x_no, x_newarray K B 38 0, x_no, x_putfield 41 3 4 (.array .int), x_no, x_no, x_aload 42 0, x_const 44 (12), x_no, x_newarray K B 46 0, x_no, x_putfield 49 3 5 (.array .int), x_no, x_no, x_aload 50 0, x_const 52 (12), x_no, x_newarray K B 54 0, x_no, x_putfield 57 3 6 (.array .int), x_no, x_no, x_return Q]
set_option maxRecDepth 100000 in
set_option maxHeartbeats 4000000 in
theorem okc_Se_init (K : hK) (B : Nat × Nat) (Q : hPost) : hAllOk (hJ K M_Se_init B Q) 0 (code_Se_init K B Q) := by
  refine hAllOk.c 0 (ok_aload_n (f := 0) rfl (by decide +kernel) rfl) ?_
  refine hAllOk.c 1 (ok_objinit (idx := 3) wd_t_170 wd_t_14 wd_t_15 (by decide) (by decide) (by decide +kernel) rfl) ?_
  refine hAllOk.c 2 (ok_no) ?_
  refine hAllOk.c 3 (ok_no) ?_
  refine hAllOk.c 4 (ok_aload_n (f := 0) rfl (by decide +kernel) rfl) ?_
  refine hAllOk.c 5 (ok_bipush (n := 14) (by decide +kernel) (by decide +kernel) rfl) ?_
  refine hAllOk.c 6 (ok_no) ?_
  refine hAllOk.c 7 (ok_newarray (by decide) wd_t_73 (by decide +kernel) rfl) ?_
  refine hAllOk.c 8 (ok_no) ?_
  refine hAllOk.c 9 (ok_putfieldF (idx := 9) (N := 7) (T := TX3) tyX3_ok nmX3 rfl rfl inTb3 (by decide) rfl rfl rfl rfl wd_t_171 (by decide +kernel) rfl) ?_
  refine hAllOk.c 10 (ok_no) ?_
  refine hAllOk.c 11 (ok_no) ?_
  refine hAllOk.c 12 (ok_aload_n (f := 0) rfl (by decide +kernel) rfl) ?_
  refine hAllOk.c 13 (ok_iconst (n := 0) (by decide +kernel) (by decide +kernel) rfl) ?_
  refine hAllOk.c 14 (ok_putfield (idx := 15) (N := 7) (T := TX3) tyX3_ok nmX3 rfl rfl inTb3 (by decide) rfl rfl wd_t_172 (by decide +kernel) rfl) ?_
  refine hAllOk.c 15 (ok_no) ?_
  refine hAllOk.c 16 (ok_no) ?_
  refine hAllOk.c 17 (ok_aload_n (f := 0) rfl (by decide +kernel) rfl) ?_
  refine hAllOk.c 18 (ok_bipush (n := 12) (by decide +kernel) (by decide +kernel) rfl) ?_
  refine hAllOk.c 19 (ok_no) ?_
  refine hAllOk.c 20 (ok_newarray (by decide) wd_t_73 (by decide +kernel) rfl) ?_
  refine hAllOk.c 21 (ok_no) ?_
  refine hAllOk.c 22 (ok_putfieldF (idx := 19) (N := 7) (T := TX3) tyX3_ok nmX3 rfl rfl inTb3 (by decide) rfl rfl rfl rfl wd_t_174 (by decide +kernel) rfl) ?_
  refine hAllOk.c 23 (ok_no) ?_
  refine hAllOk.c 24 (ok_no) ?_
  refine hAllOk.c 25 (ok_aload_n (f := 0) rfl (by decide +kernel) rfl) ?_
  refine hAllOk.c 26 (ok_bipush (n := 12) (by decide +kernel) (by decide +kernel) rfl) ?_
  refine hAllOk.c 27 (ok_no) ?_
  refine hAllOk.c 28 (ok_newarray (by decide) wd_t_73 (by decide +kernel) rfl) ?_
  refine hAllOk.c 29 (ok_no) ?_
  refine hAllOk.c 30 (ok_putfieldF (idx := 22) (N := 7) (T := TX3) tyX3_ok nmX3 rfl rfl inTb3 (by decide) rfl rfl rfl rfl wd_t_175 (by decide +kernel) rfl) ?_
  refine hAllOk.c 31 (ok_no) ?_
  refine hAllOk.c 32 (ok_no) ?_
  refine hAllOk.c 33 (ok_aload_n (f := 0) rfl (by decide +kernel) rfl) ?_
  refine hAllOk.c 34 (ok_bipush (n := 12) (by decide +kernel) (by decide +kernel) rfl) ?_
  refine hAllOk.c 35 (ok_no) ?_
  refine hAllOk.c 36 (ok_newarray (by decide) wd_t_73 (by decide +kernel) rfl) ?_
  refine hAllOk.c 37 (ok_no) ?_
  refine hAllOk.c 38 (ok_putfieldF (idx := 25) (N := 7) (T := TX3) tyX3_ok nmX3 rfl rfl inTb3 (by decide) rfl rfl rfl rfl wd_t_176 (by decide +kernel) rfl) ?_
  refine hAllOk.c 39 (ok_no) ?_
  refine hAllOk.c 40 (ok_no) ?_
  refine hAllOk.c 41 (ok_aload_n (f := 0) rfl (by decide +kernel) rfl) ?_
  refine hAllOk.c 42 (ok_bipush (n := 12) (by decide +kernel) (by decide +kernel) rfl) ?_
  refine hAllOk.c 43 (ok_no) ?_
  refine hAllOk.c 44 (ok_newarray (by decide) wd_t_73 (by decide +kernel) rfl) ?_
  refine hAllOk.c 45 (ok_no) ?_
  refine hAllOk.c 46 (ok_putfieldF (idx := 28) (N := 7) (T := TX3) tyX3_ok nmX3 rfl rfl inTb3 (by decide) rfl rfl rfl rfl wd_t_177 (by decide +kernel) rfl) ?_
  refine hAllOk.c 47 (ok_no) ?_
  refine hAllOk.c 48 (ok_no) ?_
  refine hAllOk.c 49 (ok_aload_n (f := 0) rfl (by decide +kernel) rfl) ?_
  refine hAllOk.c 50 (ok_bipush (n := 12) (by decide +kernel) (by decide +kernel) rfl) ?_
  refine hAllOk.c 51 (ok_no) ?_
  refine hAllOk.c 52 (ok_newarray (by decide) wd_t_73 (by decide +kernel) rfl) ?_
  refine hAllOk.c 53 (ok_no) ?_
  refine hAllOk.c 54 (ok_putfieldF (idx := 31) (N := 7) (T := TX3) tyX3_ok nmX3 rfl rfl inTb3 (by decide) rfl rfl rfl rfl wd_t_178 (by decide +kernel) rfl) ?_
  refine hAllOk.c 55 (ok_no) ?_
  refine hAllOk.c 56 (ok_no) ?_
  refine hAllOk.c 57 (ok_return rfl (by decide +kernel)) ?_
  trivial
theorem wd_t_13 : Cond.methodLink RX5 3 Lib.objectInit ∈ hTb := hTb_t (List.mem_of_getElem? (i := 13) (by decide +kernel)) (by decide +kernel)
theorem wd_t_16 : Cond.classLink RX5 9 RX4 ∈ hTb := hTb_t (List.mem_of_getElem? (i := 16) (by decide +kernel)) (by decide +kernel)
theorem wd_n_18 : Cond.methodLinkNest RX5 11 yX4_init "StableParty" ∈ tables_1 := List.mem_of_getElem? (i := 18) (by decide +kernel)
theorem wd_t_194 : Cond.fieldLink RX5 12 RX5 "now" "LStableParty$State;" ∈ hTb := hTb_t (List.mem_of_getElem? (i := 194) (by decide +kernel)) (by decide +kernel)
theorem wd_t_115 : Cond.classLink RX5 16 RX1 ∈ hTb := hTb_t (List.mem_of_getElem? (i := 115) (by decide +kernel)) (by decide +kernel)
theorem wd_t_116 : Cond.instantiable RX1 2 ∈ hTb := hTb_t (List.mem_of_getElem? (i := 116) (by decide +kernel)) (by decide +kernel)
theorem wd_t_4 : Cond.initialized RX1 ∈ hTb := hTb_t (List.mem_of_getElem? (i := 4) (by decide +kernel)) (by decide +kernel)
theorem wd_n_117 : Cond.methodLinkNest RX5 18 yX1_init "StableParty" ∈ tables_1 := List.mem_of_getElem? (i := 117) (by decide +kernel)
theorem wd_t_119 : Cond.code yX1_init prog_3_method_1_code 2 none ∈ hTb := hTb_t (List.mem_of_getElem? (i := 119) (by decide +kernel)) (by decide +kernel)
theorem wd_t_118 : Cond.instanceMethod yX1_init ∈ hTb := hTb_t (List.mem_of_getElem? (i := 118) (by decide +kernel)) (by decide +kernel)
theorem wd_t_195 : Cond.fieldLink RX5 19 RX5 "history" "LStableParty$History;" ∈ hTb := hTb_t (List.mem_of_getElem? (i := 195) (by decide +kernel)) (by decide +kernel)
theorem wd_t_196 : Cond.fieldLink RX5 23 RX5 "snapshot" "LStableParty$State;" ∈ hTb := hTb_t (List.mem_of_getElem? (i := 196) (by decide +kernel)) (by decide +kernel)
theorem wd_t_197 : Cond.fieldLink RX5 26 RX5 "hasSnapshot" "Z" ∈ hTb := hTb_t (List.mem_of_getElem? (i := 197) (by decide +kernel)) (by decide +kernel)
theorem wd_t_164 : Cond.arrayClass .char ∈ hTb := hTb_t (List.mem_of_getElem? (i := 164) (by decide +kernel)) (by decide +kernel)
theorem wd_t_198 : Cond.fieldLink RX5 30 RX5 "text" "[C" ∈ hTb := hTb_t (List.mem_of_getElem? (i := 198) (by decide +kernel)) (by decide +kernel)
theorem wd_t_199 : Cond.fieldLink RX5 34 RX5 "textLength" "I" ∈ hTb := hTb_t (List.mem_of_getElem? (i := 199) (by decide +kernel)) (by decide +kernel)
theorem wd_t_132 : Cond.classLink RX5 38 RX2 ∈ hTb := hTb_t (List.mem_of_getElem? (i := 132) (by decide +kernel)) (by decide +kernel)
theorem wd_t_133 : Cond.instantiable RX2 7 ∈ hTb := hTb_t (List.mem_of_getElem? (i := 133) (by decide +kernel)) (by decide +kernel)
theorem wd_t_5 : Cond.initialized RX2 ∈ hTb := hTb_t (List.mem_of_getElem? (i := 5) (by decide +kernel)) (by decide +kernel)
theorem wd_n_134 : Cond.methodLinkNest RX5 40 yX2_init "StableParty" ∈ tables_1 := List.mem_of_getElem? (i := 134) (by decide +kernel)
theorem wd_t_136 : Cond.code yX2_init prog_4_method_1_code 1 none ∈ hTb := hTb_t (List.mem_of_getElem? (i := 136) (by decide +kernel)) (by decide +kernel)
theorem wd_t_135 : Cond.instanceMethod yX2_init ∈ hTb := hTb_t (List.mem_of_getElem? (i := 135) (by decide +kernel)) (by decide +kernel)
theorem wd_t_200 : Cond.fieldLink RX5 41 RX5 "reader" "LStableParty$Reader;" ∈ hTb := hTb_t (List.mem_of_getElem? (i := 200) (by decide +kernel)) (by decide +kernel)
theorem wd_t_165 : Cond.classLink RX5 45 RX3 ∈ hTb := hTb_t (List.mem_of_getElem? (i := 165) (by decide +kernel)) (by decide +kernel)
theorem wd_t_166 : Cond.instantiable RX3 7 ∈ hTb := hTb_t (List.mem_of_getElem? (i := 166) (by decide +kernel)) (by decide +kernel)
theorem wd_t_6 : Cond.initialized RX3 ∈ hTb := hTb_t (List.mem_of_getElem? (i := 6) (by decide +kernel)) (by decide +kernel)
theorem wd_n_167 : Cond.methodLinkNest RX5 47 yX3_init "StableParty" ∈ tables_1 := List.mem_of_getElem? (i := 167) (by decide +kernel)
theorem wd_t_169 : Cond.code yX3_init prog_5_method_1_code 1 none ∈ hTb := hTb_t (List.mem_of_getElem? (i := 169) (by decide +kernel)) (by decide +kernel)
theorem wd_t_168 : Cond.instanceMethod yX3_init ∈ hTb := hTb_t (List.mem_of_getElem? (i := 168) (by decide +kernel)) (by decide +kernel)
theorem wd_t_201 : Cond.fieldLink RX5 48 RX5 "search" "LStableParty$Search;" ∈ hTb := hTb_t (List.mem_of_getElem? (i := 201) (by decide +kernel)) (by decide +kernel)
def M_Pa_init : hM := (yX5_init, prog_1_method_1_code, 1, none, 4, 82)
def code_Pa_init (K : hK) (B : Nat × Nat) (Q : hPost) : List hSem := [x_aload 1 0, x_objinit 4, x_no, x_no, x_aload 5 0, x_new B 8 4 10 [.null, .int 0, .null, .int 0, .int 0, .int 0, .int 0, .int 0, .int 0, .int 0], x_no, x_no, x_dup 9, x_callI K B 12 M_St_init 0, x_no, x_no, x_putfield 15 5 0 (.object "StableParty$State"), x_no, x_no, x_aload 16 0, x_new B 19 1 2 [.null, .int 0], x_no, x_no, x_dup 20, x_callI K B 23 M_Hi_init 0, x_no, x_no, x_putfield 26 5 1 (.object "StableParty$History"), x_no, x_no, x_aload 27 0, x_new B 30 4 10 [.null, .int 0, .null, .int 0, .int 0, .int 0, .int 0, .int 0, .int 0, .int 0], x_no, x_no, x_dup 31, x_callI K B 34 M_St_init 0, x_no, x_no, x_putfield 37 5 2 (.object "StableParty$State"), x_no, x_no, x_aload 38 0, x_const 39 (0), x_putfield 42 5 3 (.boolean), x_no, x_no, x_aload 43 0, x_const 45 (60), x_no, x_newarray K B 47 1, x_no, x_putfield 50 5 4 (.array .char), x_no, x_no, x_aload 51 0, x_const 52 (0), x_putfield 55 5 5 (.int), x_no, x_no, x_aload 56 0, x_new B 59 2 7 [.null, .int 0, .int 0, .int 0, .int 0, .int 0, .int 0], x_no, x_no, x_dup 60, x_callI K B 63 M_Re_init 0, x_no, x_no, x_putfield 66 5 6 (.object "StableParty$Reader"), x_no, x_no, x_aload 67 0, x_new B 70 3 7 [.null, .int 0, .null, .null, .null, .null, .null], x_no, x_no, x_dup 71, x_callI K B 74 M_Se_init 0, x_no, x_no, x_putfield 77 5 7 (.object "StableParty$Search"), x_no, x_no, x_return Q]
set_option maxRecDepth 100000 in
set_option maxHeartbeats 4000000 in
theorem okc_Pa_init (K : hK) (B : Nat × Nat) (Q : hPost) : hAllOk (hJ K M_Pa_init B Q) 0 (code_Pa_init K B Q) := by
  refine hAllOk.c 0 (ok_aload_n (f := 0) rfl (by decide +kernel) rfl) ?_
  refine hAllOk.c 1 (ok_objinit (idx := 3) wd_t_13 wd_t_14 wd_t_15 (by decide) (by decide) (by decide +kernel) rfl) ?_
  refine hAllOk.c 2 (ok_no) ?_
  refine hAllOk.c 3 (ok_no) ?_
  refine hAllOk.c 4 (ok_aload_n (f := 0) rfl (by decide +kernel) rfl) ?_
  refine hAllOk.c 5 (ok_new (idx := 9) (N := 10) (T := TX4) tyX4_ok rfl inTb4 (by decide +kernel) wd_t_16 wd_t_17 wd_t_2 (by decide +kernel) rfl) ?_
  refine hAllOk.c 6 (ok_no) ?_
  refine hAllOk.c 7 (ok_no) ?_
  refine hAllOk.c 8 (ok_dup (by decide +kernel) rfl) ?_
  refine hAllOk.c 9 (ok_callIN (idx := 11) ⟨wd_t_20, wd_t_2, by decide +kernel, by decide +kernel⟩ rfl rfl wd_n_18 wd_t_19 (by decide +kernel) rfl) ?_
  refine hAllOk.c 10 (ok_no) ?_
  refine hAllOk.c 11 (ok_no) ?_
  refine hAllOk.c 12 (ok_putfieldF (idx := 12) (N := 8) (T := TX5) tyX5_ok nmX5 rfl rfl inTb5 (by decide) rfl rfl rfl rfl wd_t_194 (by decide +kernel) rfl) ?_
  refine hAllOk.c 13 (ok_no) ?_
  refine hAllOk.c 14 (ok_no) ?_
  refine hAllOk.c 15 (ok_aload_n (f := 0) rfl (by decide +kernel) rfl) ?_
  refine hAllOk.c 16 (ok_new (idx := 16) (N := 2) (T := TX1) tyX1_ok rfl inTb1 (by decide +kernel) wd_t_115 wd_t_116 wd_t_4 (by decide +kernel) rfl) ?_
  refine hAllOk.c 17 (ok_no) ?_
  refine hAllOk.c 18 (ok_no) ?_
  refine hAllOk.c 19 (ok_dup (by decide +kernel) rfl) ?_
  refine hAllOk.c 20 (ok_callIN (idx := 18) ⟨wd_t_119, wd_t_4, by decide +kernel, by decide +kernel⟩ rfl rfl wd_n_117 wd_t_118 (by decide +kernel) rfl) ?_
  refine hAllOk.c 21 (ok_no) ?_
  refine hAllOk.c 22 (ok_no) ?_
  refine hAllOk.c 23 (ok_putfieldF (idx := 19) (N := 8) (T := TX5) tyX5_ok nmX5 rfl rfl inTb5 (by decide) rfl rfl rfl rfl wd_t_195 (by decide +kernel) rfl) ?_
  refine hAllOk.c 24 (ok_no) ?_
  refine hAllOk.c 25 (ok_no) ?_
  refine hAllOk.c 26 (ok_aload_n (f := 0) rfl (by decide +kernel) rfl) ?_
  refine hAllOk.c 27 (ok_new (idx := 9) (N := 10) (T := TX4) tyX4_ok rfl inTb4 (by decide +kernel) wd_t_16 wd_t_17 wd_t_2 (by decide +kernel) rfl) ?_
  refine hAllOk.c 28 (ok_no) ?_
  refine hAllOk.c 29 (ok_no) ?_
  refine hAllOk.c 30 (ok_dup (by decide +kernel) rfl) ?_
  refine hAllOk.c 31 (ok_callIN (idx := 11) ⟨wd_t_20, wd_t_2, by decide +kernel, by decide +kernel⟩ rfl rfl wd_n_18 wd_t_19 (by decide +kernel) rfl) ?_
  refine hAllOk.c 32 (ok_no) ?_
  refine hAllOk.c 33 (ok_no) ?_
  refine hAllOk.c 34 (ok_putfieldF (idx := 23) (N := 8) (T := TX5) tyX5_ok nmX5 rfl rfl inTb5 (by decide) rfl rfl rfl rfl wd_t_196 (by decide +kernel) rfl) ?_
  refine hAllOk.c 35 (ok_no) ?_
  refine hAllOk.c 36 (ok_no) ?_
  refine hAllOk.c 37 (ok_aload_n (f := 0) rfl (by decide +kernel) rfl) ?_
  refine hAllOk.c 38 (ok_iconst (n := 0) (by decide +kernel) (by decide +kernel) rfl) ?_
  refine hAllOk.c 39 (ok_putfield (idx := 26) (N := 8) (T := TX5) tyX5_ok nmX5 rfl rfl inTb5 (by decide) rfl rfl wd_t_197 (by decide +kernel) rfl) ?_
  refine hAllOk.c 40 (ok_no) ?_
  refine hAllOk.c 41 (ok_no) ?_
  refine hAllOk.c 42 (ok_aload_n (f := 0) rfl (by decide +kernel) rfl) ?_
  refine hAllOk.c 43 (ok_bipush (n := 60) (by decide +kernel) (by decide +kernel) rfl) ?_
  refine hAllOk.c 44 (ok_no) ?_
  refine hAllOk.c 45 (ok_newarray (by decide) wd_t_164 (by decide +kernel) rfl) ?_
  refine hAllOk.c 46 (ok_no) ?_
  refine hAllOk.c 47 (ok_putfieldF (idx := 30) (N := 8) (T := TX5) tyX5_ok nmX5 rfl rfl inTb5 (by decide) rfl rfl rfl rfl wd_t_198 (by decide +kernel) rfl) ?_
  refine hAllOk.c 48 (ok_no) ?_
  refine hAllOk.c 49 (ok_no) ?_
  refine hAllOk.c 50 (ok_aload_n (f := 0) rfl (by decide +kernel) rfl) ?_
  refine hAllOk.c 51 (ok_iconst (n := 0) (by decide +kernel) (by decide +kernel) rfl) ?_
  refine hAllOk.c 52 (ok_putfield (idx := 34) (N := 8) (T := TX5) tyX5_ok nmX5 rfl rfl inTb5 (by decide) rfl rfl wd_t_199 (by decide +kernel) rfl) ?_
  refine hAllOk.c 53 (ok_no) ?_
  refine hAllOk.c 54 (ok_no) ?_
  refine hAllOk.c 55 (ok_aload_n (f := 0) rfl (by decide +kernel) rfl) ?_
  refine hAllOk.c 56 (ok_new (idx := 38) (N := 7) (T := TX2) tyX2_ok rfl inTb2 (by decide +kernel) wd_t_132 wd_t_133 wd_t_5 (by decide +kernel) rfl) ?_
  refine hAllOk.c 57 (ok_no) ?_
  refine hAllOk.c 58 (ok_no) ?_
  refine hAllOk.c 59 (ok_dup (by decide +kernel) rfl) ?_
  refine hAllOk.c 60 (ok_callIN (idx := 40) ⟨wd_t_136, wd_t_5, by decide +kernel, by decide +kernel⟩ rfl rfl wd_n_134 wd_t_135 (by decide +kernel) rfl) ?_
  refine hAllOk.c 61 (ok_no) ?_
  refine hAllOk.c 62 (ok_no) ?_
  refine hAllOk.c 63 (ok_putfieldF (idx := 41) (N := 8) (T := TX5) tyX5_ok nmX5 rfl rfl inTb5 (by decide) rfl rfl rfl rfl wd_t_200 (by decide +kernel) rfl) ?_
  refine hAllOk.c 64 (ok_no) ?_
  refine hAllOk.c 65 (ok_no) ?_
  refine hAllOk.c 66 (ok_aload_n (f := 0) rfl (by decide +kernel) rfl) ?_
  refine hAllOk.c 67 (ok_new (idx := 45) (N := 7) (T := TX3) tyX3_ok rfl inTb3 (by decide +kernel) wd_t_165 wd_t_166 wd_t_6 (by decide +kernel) rfl) ?_
  refine hAllOk.c 68 (ok_no) ?_
  refine hAllOk.c 69 (ok_no) ?_
  refine hAllOk.c 70 (ok_dup (by decide +kernel) rfl) ?_
  refine hAllOk.c 71 (ok_callIN (idx := 47) ⟨wd_t_169, wd_t_6, by decide +kernel, by decide +kernel⟩ rfl rfl wd_n_167 wd_t_168 (by decide +kernel) rfl) ?_
  refine hAllOk.c 72 (ok_no) ?_
  refine hAllOk.c 73 (ok_no) ?_
  refine hAllOk.c 74 (ok_putfieldF (idx := 48) (N := 8) (T := TX5) tyX5_ok nmX5 rfl rfl inTb5 (by decide) rfl rfl rfl rfl wd_t_201 (by decide +kernel) rfl) ?_
  refine hAllOk.c 75 (ok_no) ?_
  refine hAllOk.c 76 (ok_no) ?_
  refine hAllOk.c 77 (ok_return rfl (by decide +kernel)) ?_
  trivial
def M_St_find : hM := (yX4_find, prog_6_method_3_code, 3, (some (.object "StableParty$Guest")), 0, 0)
def code_St_find (K : hK) (B : Nat × Nat) (Q : hPost) : List hSem := [x_iload 1 1, x_iflt 25 4, x_no, x_no, x_iload 5 1, x_aload 6 0, x_getfield 9 4 1, x_no, x_no, x_icge 25 12, x_no, x_no, x_iload 13 1, x_aload 14 0, x_getfield 17 4 0, x_no, x_no, x_alen K 18, x_icge 25 21, x_no, x_no, x_const 22 (1), x_goto 26, x_no, x_no, x_const 26 (0), x_istore 27 2, x_iload 28 2, x_ifeq 40 31, x_no, x_no, x_aload 32 0, x_getfield 35 4 0, x_no, x_no, x_iload 36 1, x_aaload K 37 3, x_goto 41, x_no, x_no, x_null 41, x_areturn Q]
set_option maxRecDepth 100000 in
set_option maxHeartbeats 4000000 in
theorem okc_St_find (K : hK) (B : Nat × Nat) (Q : hPost) : hAllOk (hJ K M_St_find B Q) 0 (code_St_find K B Q) := by
  refine hAllOk.c 0 (ok_iload_n (f := 1) rfl (by decide +kernel) rfl) ?_
  refine hAllOk.c 1 (ok_iflt (off := 24) (by decide +kernel) (by decide +kernel) rfl) ?_
  refine hAllOk.c 2 (ok_no) ?_
  refine hAllOk.c 3 (ok_no) ?_
  refine hAllOk.c 4 (ok_iload_n (f := 1) rfl (by decide +kernel) rfl) ?_
  refine hAllOk.c 5 (ok_aload_n (f := 0) rfl (by decide +kernel) rfl) ?_
  refine hAllOk.c 6 (ok_getfield (idx := 17) (N := 10) (T := TX4) rfl inTb4 (by decide) rfl wd_t_77 (by decide +kernel) rfl) ?_
  refine hAllOk.c 7 (ok_no) ?_
  refine hAllOk.c 8 (ok_no) ?_
  refine hAllOk.c 9 (ok_icge (off := 16) (by decide +kernel) (by decide +kernel) rfl) ?_
  refine hAllOk.c 10 (ok_no) ?_
  refine hAllOk.c 11 (ok_no) ?_
  refine hAllOk.c 12 (ok_iload_n (f := 1) rfl (by decide +kernel) rfl) ?_
  refine hAllOk.c 13 (ok_aload_n (f := 0) rfl (by decide +kernel) rfl) ?_
  refine hAllOk.c 14 (ok_getfield (idx := 11) (N := 10) (T := TX4) rfl inTb4 (by decide) rfl wd_t_76 (by decide +kernel) rfl) ?_
  refine hAllOk.c 15 (ok_no) ?_
  refine hAllOk.c 16 (ok_no) ?_
  refine hAllOk.c 17 (ok_alen (by decide +kernel) rfl) ?_
  refine hAllOk.c 18 (ok_icge (off := 7) (by decide +kernel) (by decide +kernel) rfl) ?_
  refine hAllOk.c 19 (ok_no) ?_
  refine hAllOk.c 20 (ok_no) ?_
  refine hAllOk.c 21 (ok_iconst (n := 1) (by decide +kernel) (by decide +kernel) rfl) ?_
  refine hAllOk.c 22 (ok_goto (off := 4) (by decide +kernel) (by decide +kernel)) ?_
  refine hAllOk.c 23 (ok_no) ?_
  refine hAllOk.c 24 (ok_no) ?_
  refine hAllOk.c 25 (ok_iconst (n := 0) (by decide +kernel) (by decide +kernel) rfl) ?_
  refine hAllOk.c 26 (ok_istore_n (f := 2) rfl (by decide) (by decide +kernel) rfl) ?_
  refine hAllOk.c 27 (ok_iload_n (f := 2) rfl (by decide +kernel) rfl) ?_
  refine hAllOk.c 28 (ok_ifeq (off := 12) (by decide +kernel) (by decide +kernel) rfl) ?_
  refine hAllOk.c 29 (ok_no) ?_
  refine hAllOk.c 30 (ok_no) ?_
  refine hAllOk.c 31 (ok_aload_n (f := 0) rfl (by decide +kernel) rfl) ?_
  refine hAllOk.c 32 (ok_getfield (idx := 11) (N := 10) (T := TX4) rfl inTb4 (by decide) rfl wd_t_76 (by decide +kernel) rfl) ?_
  refine hAllOk.c 33 (ok_no) ?_
  refine hAllOk.c 34 (ok_no) ?_
  refine hAllOk.c 35 (ok_iload_n (f := 1) rfl (by decide +kernel) rfl) ?_
  refine hAllOk.c 36 (ok_aaload (by decide) (by decide +kernel) rfl) ?_
  refine hAllOk.c 37 (ok_goto (off := 4) (by decide +kernel) (by decide +kernel)) ?_
  refine hAllOk.c 38 (ok_no) ?_
  refine hAllOk.c 39 (ok_no) ?_
  refine hAllOk.c 40 (ok_null (by decide +kernel) rfl) ?_
  refine hAllOk.c 41 (ok_areturn rfl (by decide +kernel)) ?_
  trivial
def M_Pa_bitOf : hM := (yX5_bitOf, prog_1_method_34_code, 1, (some .int), 0, 0)
def code_Pa_bitOf (K : hK) (B : Nat × Nat) (Q : hPost) : List hSem := [x_const 1 (1), x_iload 2 0, x_ishl 3, x_ireturn (some .int) Q]
set_option maxRecDepth 100000 in
set_option maxHeartbeats 4000000 in
theorem okc_Pa_bitOf (K : hK) (B : Nat × Nat) (Q : hPost) : hAllOk (hJ K M_Pa_bitOf B Q) 0 (code_Pa_bitOf K B Q) := by
  refine hAllOk.c 0 (ok_iconst (n := 1) (by decide +kernel) (by decide +kernel) rfl) ?_
  refine hAllOk.c 1 (ok_iload_n (f := 0) rfl (by decide +kernel) rfl) ?_
  refine hAllOk.c 2 (ok_ishl (by decide +kernel) rfl) ?_
  refine hAllOk.c 3 (ok_ireturn (by decide +kernel)) ?_
  trivial
theorem wd_t_243 : Cond.methodLink RX4 51 yX4_find ∈ hTb := hTb_t (List.mem_of_getElem? (i := 243) (by decide +kernel)) (by decide +kernel)
theorem wd_t_246 : Cond.code yX4_find prog_6_method_3_code 3 (some (.object "StableParty$Guest")) ∈ hTb := hTb_t (List.mem_of_getElem? (i := 246) (by decide +kernel)) (by decide +kernel)
theorem wd_t_245 : Cond.instanceMethod yX4_find ∈ hTb := hTb_t (List.mem_of_getElem? (i := 245) (by decide +kernel)) (by decide +kernel)
theorem wd_s_4 : Cond.selects RX4 yX4_find yX4_find ∈ hTb := hTb_s (List.mem_of_getElem? (i := 4) (by decide +kernel)) (by decide +kernel)
theorem wd_n_38 : Cond.fieldLinkNest RX4 75 RX0 "invited" "Z" "StableParty" ∈ tables_1 := List.mem_of_getElem? (i := 38) (by decide +kernel)
theorem wd_n_294 : Cond.methodLinkNest RX4 63 yX5_bitOf "StableParty" ∈ tables_1 := List.mem_of_getElem? (i := 294) (by decide +kernel)
theorem wd_t_296 : Cond.code yX5_bitOf prog_1_method_34_code 1 (some .int) ∈ hTb := hTb_t (List.mem_of_getElem? (i := 296) (by decide +kernel)) (by decide +kernel)
theorem wd_t_1 : Cond.initialized RX5 ∈ hTb := hTb_t (List.mem_of_getElem? (i := 1) (by decide +kernel)) (by decide +kernel)
theorem wd_t_295 : Cond.static yX5_bitOf ∈ hTb := hTb_t (List.mem_of_getElem? (i := 295) (by decide +kernel)) (by decide +kernel)
def M_St_invitedGuests : hM := (yX4_invitedGuests, prog_6_method_7_code, 4, (some .int), 1, 22)
def code_St_invitedGuests (K : hK) (B : Nat × Nat) (Q : hPost) : List hSem := [x_const 1 (0), x_istore 2 1, x_const 3 (0), x_istore 4 2, x_iload 5 2, x_const 7 (12), x_no, x_icge 40 10, x_no, x_no, x_aload 11 0, x_iload 12 2, x_callV K 15 M_St_find 4 1, x_no, x_no, x_astore 16 3, x_aload 17 3, x_ifnull 34 20, x_no, x_no, x_aload 21 3, x_getfield 24 0 2, x_no, x_no, x_ifeq 34 27, x_no, x_no, x_iload 28 1, x_iload 29 2, x_callS K 32 M_Pa_bitOf 1, x_no, x_no, x_ior 33, x_istore 34 1, x_iinc 37 2 (1), x_no, x_no, x_goto 4, x_no, x_no, x_iload 41 1, x_ireturn (some .int) Q]
set_option maxRecDepth 100000 in
set_option maxHeartbeats 4000000 in
theorem okc_St_invitedGuests (K : hK) (B : Nat × Nat) (Q : hPost) : hAllOk (hJ K M_St_invitedGuests B Q) 0 (code_St_invitedGuests K B Q) := by
  refine hAllOk.c 0 (ok_iconst (n := 0) (by decide +kernel) (by decide +kernel) rfl) ?_
  refine hAllOk.c 1 (ok_istore_n (f := 1) rfl (by decide) (by decide +kernel) rfl) ?_
  refine hAllOk.c 2 (ok_iconst (n := 0) (by decide +kernel) (by decide +kernel) rfl) ?_
  refine hAllOk.c 3 (ok_istore_n (f := 2) rfl (by decide) (by decide +kernel) rfl) ?_
  refine hAllOk.c 4 (ok_iload_n (f := 2) rfl (by decide +kernel) rfl) ?_
  refine hAllOk.c 5 (ok_bipush (n := 12) (by decide +kernel) (by decide +kernel) rfl) ?_
  refine hAllOk.c 6 (ok_no) ?_
  refine hAllOk.c 7 (ok_icge (off := 33) (by decide +kernel) (by decide +kernel) rfl) ?_
  refine hAllOk.c 8 (ok_no) ?_
  refine hAllOk.c 9 (ok_no) ?_
  refine hAllOk.c 10 (ok_aload_n (f := 0) rfl (by decide +kernel) rfl) ?_
  refine hAllOk.c 11 (ok_iload_n (f := 2) rfl (by decide +kernel) rfl) ?_
  refine hAllOk.c 12 (ok_callV (idx := 51) ⟨wd_t_246, wd_t_2, by decide +kernel, by decide +kernel⟩ rfl rfl wd_t_243 wd_t_245 wd_s_4 (by decide +kernel) rfl) ?_
  refine hAllOk.c 13 (ok_no) ?_
  refine hAllOk.c 14 (ok_no) ?_
  refine hAllOk.c 15 (ok_astore_n (f := 3) rfl (by decide) (by decide +kernel) rfl) ?_
  refine hAllOk.c 16 (ok_aload_n (f := 3) rfl (by decide +kernel) rfl) ?_
  refine hAllOk.c 17 (ok_ifnull (off := 17) (by decide +kernel) (by decide +kernel) rfl) ?_
  refine hAllOk.c 18 (ok_no) ?_
  refine hAllOk.c 19 (ok_no) ?_
  refine hAllOk.c 20 (ok_aload_n (f := 3) rfl (by decide +kernel) rfl) ?_
  refine hAllOk.c 21 (ok_getfieldN (idx := 75) (N := 10) (T := TX0) rfl inTb0 (by decide) rfl wd_n_38 (by decide +kernel) rfl) ?_
  refine hAllOk.c 22 (ok_no) ?_
  refine hAllOk.c 23 (ok_no) ?_
  refine hAllOk.c 24 (ok_ifeq (off := 10) (by decide +kernel) (by decide +kernel) rfl) ?_
  refine hAllOk.c 25 (ok_no) ?_
  refine hAllOk.c 26 (ok_no) ?_
  refine hAllOk.c 27 (ok_iload_n (f := 1) rfl (by decide +kernel) rfl) ?_
  refine hAllOk.c 28 (ok_iload_n (f := 2) rfl (by decide +kernel) rfl) ?_
  refine hAllOk.c 29 (ok_callSN (idx := 63) ⟨wd_t_296, wd_t_1, by decide +kernel, by decide +kernel⟩ wd_n_294 wd_t_295 (by decide +kernel) rfl) ?_
  refine hAllOk.c 30 (ok_no) ?_
  refine hAllOk.c 31 (ok_no) ?_
  refine hAllOk.c 32 (ok_ior (by decide +kernel) rfl) ?_
  refine hAllOk.c 33 (ok_istore_n (f := 1) rfl (by decide) (by decide +kernel) rfl) ?_
  refine hAllOk.c 34 (ok_iinc (n := 1) (by decide +kernel) (by decide) (by decide +kernel) rfl) ?_
  refine hAllOk.c 35 (ok_no) ?_
  refine hAllOk.c 36 (ok_no) ?_
  refine hAllOk.c 37 (ok_goto (off := (-33)) (by decide +kernel) (by decide +kernel)) ?_
  refine hAllOk.c 38 (ok_no) ?_
  refine hAllOk.c 39 (ok_no) ?_
  refine hAllOk.c 40 (ok_iload_n (f := 1) rfl (by decide +kernel) rfl) ?_
  refine hAllOk.c 41 (ok_ireturn (by decide +kernel)) ?_
  trivial
def M_St_everybody : hM := (yX4_everybody, prog_6_method_5_code, 1, (some .int), 1, 20)
def code_St_everybody (K : hK) (B : Nat × Nat) (Q : hPost) : List hSem := [x_aload 1 0, x_getfield 4 4 1, x_no, x_no, x_callS K 7 M_Pa_bitOf 1, x_no, x_no, x_const 8 (1), x_isub 9, x_ireturn (some .int) Q]
set_option maxRecDepth 100000 in
set_option maxHeartbeats 4000000 in
theorem okc_St_everybody (K : hK) (B : Nat × Nat) (Q : hPost) : hAllOk (hJ K M_St_everybody B Q) 0 (code_St_everybody K B Q) := by
  refine hAllOk.c 0 (ok_aload_n (f := 0) rfl (by decide +kernel) rfl) ?_
  refine hAllOk.c 1 (ok_getfield (idx := 17) (N := 10) (T := TX4) rfl inTb4 (by decide) rfl wd_t_77 (by decide +kernel) rfl) ?_
  refine hAllOk.c 2 (ok_no) ?_
  refine hAllOk.c 3 (ok_no) ?_
  refine hAllOk.c 4 (ok_callSN (idx := 63) ⟨wd_t_296, wd_t_1, by decide +kernel, by decide +kernel⟩ wd_n_294 wd_t_295 (by decide +kernel) rfl) ?_
  refine hAllOk.c 5 (ok_no) ?_
  refine hAllOk.c 6 (ok_no) ?_
  refine hAllOk.c 7 (ok_iconst (n := 1) (by decide +kernel) (by decide +kernel) rfl) ?_
  refine hAllOk.c 8 (ok_isub (by decide +kernel) rfl) ?_
  refine hAllOk.c 9 (ok_ireturn (by decide +kernel)) ?_
  trivial
theorem wd_t_312 : Cond.methodLink RX5 193 yX5_bitOf ∈ hTb := hTb_t (List.mem_of_getElem? (i := 312) (by decide +kernel)) (by decide +kernel)
def M_Pa_isIn : hM := (yX5_isIn, prog_1_method_35_code, 2, (some .boolean), 1, 20)
def code_Pa_isIn (K : hK) (B : Nat × Nat) (Q : hPost) : List hSem := [x_iload 1 0, x_iload 2 1, x_callS K 5 M_Pa_bitOf 1, x_no, x_no, x_iand 6, x_ifeq 13 9, x_no, x_no, x_const 10 (1), x_goto 14, x_no, x_no, x_const 14 (0), x_ireturn (some .boolean) Q]
set_option maxRecDepth 100000 in
set_option maxHeartbeats 4000000 in
theorem okc_Pa_isIn (K : hK) (B : Nat × Nat) (Q : hPost) : hAllOk (hJ K M_Pa_isIn B Q) 0 (code_Pa_isIn K B Q) := by
  refine hAllOk.c 0 (ok_iload_n (f := 0) rfl (by decide +kernel) rfl) ?_
  refine hAllOk.c 1 (ok_iload_n (f := 1) rfl (by decide +kernel) rfl) ?_
  refine hAllOk.c 2 (ok_callS (idx := 193) ⟨wd_t_296, wd_t_1, by decide +kernel, by decide +kernel⟩ wd_t_312 wd_t_295 (by decide +kernel) rfl) ?_
  refine hAllOk.c 3 (ok_no) ?_
  refine hAllOk.c 4 (ok_no) ?_
  refine hAllOk.c 5 (ok_iand (by decide +kernel) rfl) ?_
  refine hAllOk.c 6 (ok_ifeq (off := 7) (by decide +kernel) (by decide +kernel) rfl) ?_
  refine hAllOk.c 7 (ok_no) ?_
  refine hAllOk.c 8 (ok_no) ?_
  refine hAllOk.c 9 (ok_iconst (n := 1) (by decide +kernel) (by decide +kernel) rfl) ?_
  refine hAllOk.c 10 (ok_goto (off := 4) (by decide +kernel) (by decide +kernel)) ?_
  refine hAllOk.c 11 (ok_no) ?_
  refine hAllOk.c 12 (ok_no) ?_
  refine hAllOk.c 13 (ok_iconst (n := 0) (by decide +kernel) (by decide +kernel) rfl) ?_
  refine hAllOk.c 14 (ok_ireturn (by decide +kernel)) ?_
  trivial
theorem wd_n_309 : Cond.methodLinkNest RX3 48 yX5_isIn "StableParty" ∈ tables_1 := List.mem_of_getElem? (i := 309) (by decide +kernel)
theorem wd_t_311 : Cond.code yX5_isIn prog_1_method_35_code 2 (some .boolean) ∈ hTb := hTb_t (List.mem_of_getElem? (i := 311) (by decide +kernel)) (by decide +kernel)
theorem wd_t_310 : Cond.static yX5_isIn ∈ hTb := hTb_t (List.mem_of_getElem? (i := 310) (by decide +kernel)) (by decide +kernel)
def M_Se_begin : hM := (yX3_begin, prog_5_method_3_code, 4, none, 2, 41)
def code_Se_begin (K : hK) (B : Nat × Nat) (Q : hPost) : List hSem := [x_aload 1 0, x_getfield 4 3 0, x_no, x_no, x_const 5 (0), x_iload 6 1, x_iastore K 7, x_const 8 (0), x_istore 9 2, x_iload 10 2, x_const 12 (12), x_no, x_icge 71 15, x_no, x_no, x_iload 16 1, x_iload 17 2, x_callS K 20 M_Pa_isIn 2, x_no, x_no, x_istore 21 3, x_aload 22 0, x_getfield 25 3 2, x_no, x_no, x_iload 26 2, x_iload 27 3, x_ifeq 34 30, x_no, x_no, x_const 31 (1), x_goto 35, x_no, x_no, x_const 35 (0), x_iastore K 36, x_aload 37 0, x_getfield 40 3 3, x_no, x_no, x_iload 41 2, x_const 42 (0), x_iastore K 43, x_aload 44 0, x_getfield 47 3 4, x_no, x_no, x_iload 48 2, x_const 50 (-5), x_no, x_iastore K 51, x_aload 52 0, x_getfield 55 3 5, x_no, x_no, x_iload 56 2, x_const 57 (1), x_iastore K 58, x_aload 59 0, x_getfield 62 3 6, x_no, x_no, x_iload 63 2, x_iload 64 2, x_iastore K 65, x_iinc 68 2 (1), x_no, x_no, x_goto 9, x_no, x_no, x_return Q]
set_option maxRecDepth 100000 in
set_option maxHeartbeats 4000000 in
theorem okc_Se_begin (K : hK) (B : Nat × Nat) (Q : hPost) : hAllOk (hJ K M_Se_begin B Q) 0 (code_Se_begin K B Q) := by
  refine hAllOk.c 0 (ok_aload_n (f := 0) rfl (by decide +kernel) rfl) ?_
  refine hAllOk.c 1 (ok_getfield (idx := 9) (N := 7) (T := TX3) rfl inTb3 (by decide) rfl wd_t_171 (by decide +kernel) rfl) ?_
  refine hAllOk.c 2 (ok_no) ?_
  refine hAllOk.c 3 (ok_no) ?_
  refine hAllOk.c 4 (ok_iconst (n := 0) (by decide +kernel) (by decide +kernel) rfl) ?_
  refine hAllOk.c 5 (ok_iload_n (f := 1) rfl (by decide +kernel) rfl) ?_
  refine hAllOk.c 6 (ok_iastore (by decide +kernel) rfl) ?_
  refine hAllOk.c 7 (ok_iconst (n := 0) (by decide +kernel) (by decide +kernel) rfl) ?_
  refine hAllOk.c 8 (ok_istore_n (f := 2) rfl (by decide) (by decide +kernel) rfl) ?_
  refine hAllOk.c 9 (ok_iload_n (f := 2) rfl (by decide +kernel) rfl) ?_
  refine hAllOk.c 10 (ok_bipush (n := 12) (by decide +kernel) (by decide +kernel) rfl) ?_
  refine hAllOk.c 11 (ok_no) ?_
  refine hAllOk.c 12 (ok_icge (off := 59) (by decide +kernel) (by decide +kernel) rfl) ?_
  refine hAllOk.c 13 (ok_no) ?_
  refine hAllOk.c 14 (ok_no) ?_
  refine hAllOk.c 15 (ok_iload_n (f := 1) rfl (by decide +kernel) rfl) ?_
  refine hAllOk.c 16 (ok_iload_n (f := 2) rfl (by decide +kernel) rfl) ?_
  refine hAllOk.c 17 (ok_callSN (idx := 48) ⟨wd_t_311, wd_t_1, by decide +kernel, by decide +kernel⟩ wd_n_309 wd_t_310 (by decide +kernel) rfl) ?_
  refine hAllOk.c 18 (ok_no) ?_
  refine hAllOk.c 19 (ok_no) ?_
  refine hAllOk.c 20 (ok_istore_n (f := 3) rfl (by decide) (by decide +kernel) rfl) ?_
  refine hAllOk.c 21 (ok_aload_n (f := 0) rfl (by decide +kernel) rfl) ?_
  refine hAllOk.c 22 (ok_getfield (idx := 19) (N := 7) (T := TX3) rfl inTb3 (by decide) rfl wd_t_174 (by decide +kernel) rfl) ?_
  refine hAllOk.c 23 (ok_no) ?_
  refine hAllOk.c 24 (ok_no) ?_
  refine hAllOk.c 25 (ok_iload_n (f := 2) rfl (by decide +kernel) rfl) ?_
  refine hAllOk.c 26 (ok_iload_n (f := 3) rfl (by decide +kernel) rfl) ?_
  refine hAllOk.c 27 (ok_ifeq (off := 7) (by decide +kernel) (by decide +kernel) rfl) ?_
  refine hAllOk.c 28 (ok_no) ?_
  refine hAllOk.c 29 (ok_no) ?_
  refine hAllOk.c 30 (ok_iconst (n := 1) (by decide +kernel) (by decide +kernel) rfl) ?_
  refine hAllOk.c 31 (ok_goto (off := 4) (by decide +kernel) (by decide +kernel)) ?_
  refine hAllOk.c 32 (ok_no) ?_
  refine hAllOk.c 33 (ok_no) ?_
  refine hAllOk.c 34 (ok_iconst (n := 0) (by decide +kernel) (by decide +kernel) rfl) ?_
  refine hAllOk.c 35 (ok_iastore (by decide +kernel) rfl) ?_
  refine hAllOk.c 36 (ok_aload_n (f := 0) rfl (by decide +kernel) rfl) ?_
  refine hAllOk.c 37 (ok_getfield (idx := 22) (N := 7) (T := TX3) rfl inTb3 (by decide) rfl wd_t_175 (by decide +kernel) rfl) ?_
  refine hAllOk.c 38 (ok_no) ?_
  refine hAllOk.c 39 (ok_no) ?_
  refine hAllOk.c 40 (ok_iload_n (f := 2) rfl (by decide +kernel) rfl) ?_
  refine hAllOk.c 41 (ok_iconst (n := 0) (by decide +kernel) (by decide +kernel) rfl) ?_
  refine hAllOk.c 42 (ok_iastore (by decide +kernel) rfl) ?_
  refine hAllOk.c 43 (ok_aload_n (f := 0) rfl (by decide +kernel) rfl) ?_
  refine hAllOk.c 44 (ok_getfield (idx := 25) (N := 7) (T := TX3) rfl inTb3 (by decide) rfl wd_t_176 (by decide +kernel) rfl) ?_
  refine hAllOk.c 45 (ok_no) ?_
  refine hAllOk.c 46 (ok_no) ?_
  refine hAllOk.c 47 (ok_iload_n (f := 2) rfl (by decide +kernel) rfl) ?_
  refine hAllOk.c 48 (ok_bipush (n := -5) (by decide +kernel) (by decide +kernel) rfl) ?_
  refine hAllOk.c 49 (ok_no) ?_
  refine hAllOk.c 50 (ok_iastore (by decide +kernel) rfl) ?_
  refine hAllOk.c 51 (ok_aload_n (f := 0) rfl (by decide +kernel) rfl) ?_
  refine hAllOk.c 52 (ok_getfield (idx := 28) (N := 7) (T := TX3) rfl inTb3 (by decide) rfl wd_t_177 (by decide +kernel) rfl) ?_
  refine hAllOk.c 53 (ok_no) ?_
  refine hAllOk.c 54 (ok_no) ?_
  refine hAllOk.c 55 (ok_iload_n (f := 2) rfl (by decide +kernel) rfl) ?_
  refine hAllOk.c 56 (ok_iconst (n := 1) (by decide +kernel) (by decide +kernel) rfl) ?_
  refine hAllOk.c 57 (ok_iastore (by decide +kernel) rfl) ?_
  refine hAllOk.c 58 (ok_aload_n (f := 0) rfl (by decide +kernel) rfl) ?_
  refine hAllOk.c 59 (ok_getfield (idx := 31) (N := 7) (T := TX3) rfl inTb3 (by decide) rfl wd_t_178 (by decide +kernel) rfl) ?_
  refine hAllOk.c 60 (ok_no) ?_
  refine hAllOk.c 61 (ok_no) ?_
  refine hAllOk.c 62 (ok_iload_n (f := 2) rfl (by decide +kernel) rfl) ?_
  refine hAllOk.c 63 (ok_iload_n (f := 2) rfl (by decide +kernel) rfl) ?_
  refine hAllOk.c 64 (ok_iastore (by decide +kernel) rfl) ?_
  refine hAllOk.c 65 (ok_iinc (n := 1) (by decide +kernel) (by decide) (by decide +kernel) rfl) ?_
  refine hAllOk.c 66 (ok_no) ?_
  refine hAllOk.c 67 (ok_no) ?_
  refine hAllOk.c 68 (ok_goto (off := (-59)) (by decide +kernel) (by decide +kernel)) ?_
  refine hAllOk.c 69 (ok_no) ?_
  refine hAllOk.c 70 (ok_no) ?_
  refine hAllOk.c 71 (ok_return rfl (by decide +kernel)) ?_
  trivial
theorem wd_t_320 : Cond.constant RJ6 265 (1431655765) ∈ hTb := hTb_t (List.mem_of_getElem? (i := 320) (by decide +kernel)) (by decide +kernel)
theorem wd_t_321 : Cond.constant RJ6 266 (858993459) ∈ hTb := hTb_t (List.mem_of_getElem? (i := 321) (by decide +kernel)) (by decide +kernel)
theorem wd_t_322 : Cond.constant RJ6 267 (252645135) ∈ hTb := hTb_t (List.mem_of_getElem? (i := 322) (by decide +kernel)) (by decide +kernel)
def M_In_bitCount : hM := (yJ6_bitCount_0f7a4, prog_9_method_49_code, 1, (some .int), 0, 0)
def code_In_bitCount (K : hK) (B : Nat × Nat) (Q : hPost) : List hSem := [x_iload 1 0, x_iload 2 0, x_const 3 (1), x_iushr 4, x_const 7 (1431655765), x_no, x_no, x_iand 8, x_isub 9, x_istore 10 0, x_iload 11 0, x_const 14 (858993459), x_no, x_no, x_iand 15, x_iload 16 0, x_const 17 (2), x_iushr 18, x_const 21 (858993459), x_no, x_no, x_iand 22, x_iadd 23, x_istore 24 0, x_iload 25 0, x_iload 26 0, x_const 27 (4), x_iushr 28, x_iadd 29, x_const 32 (252645135), x_no, x_no, x_iand 33, x_istore 34 0, x_iload 35 0, x_iload 36 0, x_const 38 (8), x_no, x_iushr 39, x_iadd 40, x_istore 41 0, x_iload 42 0, x_iload 43 0, x_const 45 (16), x_no, x_iushr 46, x_iadd 47, x_istore 48 0, x_iload 49 0, x_const 51 (63), x_no, x_iand 52, x_ireturn (some .int) Q]
set_option maxRecDepth 100000 in
set_option maxHeartbeats 4000000 in
theorem okc_In_bitCount (K : hK) (B : Nat × Nat) (Q : hPost) : hAllOk (hJ K M_In_bitCount B Q) 0 (code_In_bitCount K B Q) := by
  refine hAllOk.c 0 (ok_iload_n (f := 0) rfl (by decide +kernel) rfl) ?_
  refine hAllOk.c 1 (ok_iload_n (f := 0) rfl (by decide +kernel) rfl) ?_
  refine hAllOk.c 2 (ok_iconst (n := 1) (by decide +kernel) (by decide +kernel) rfl) ?_
  refine hAllOk.c 3 (ok_iushr (by decide +kernel) rfl) ?_
  refine hAllOk.c 4 (ok_ldcw (i := 265) wd_t_320 (by decide +kernel) rfl) ?_
  refine hAllOk.c 5 (ok_no) ?_
  refine hAllOk.c 6 (ok_no) ?_
  refine hAllOk.c 7 (ok_iand (by decide +kernel) rfl) ?_
  refine hAllOk.c 8 (ok_isub (by decide +kernel) rfl) ?_
  refine hAllOk.c 9 (ok_istore_n (f := 0) rfl (by decide) (by decide +kernel) rfl) ?_
  refine hAllOk.c 10 (ok_iload_n (f := 0) rfl (by decide +kernel) rfl) ?_
  refine hAllOk.c 11 (ok_ldcw (i := 266) wd_t_321 (by decide +kernel) rfl) ?_
  refine hAllOk.c 12 (ok_no) ?_
  refine hAllOk.c 13 (ok_no) ?_
  refine hAllOk.c 14 (ok_iand (by decide +kernel) rfl) ?_
  refine hAllOk.c 15 (ok_iload_n (f := 0) rfl (by decide +kernel) rfl) ?_
  refine hAllOk.c 16 (ok_iconst (n := 2) (by decide +kernel) (by decide +kernel) rfl) ?_
  refine hAllOk.c 17 (ok_iushr (by decide +kernel) rfl) ?_
  refine hAllOk.c 18 (ok_ldcw (i := 266) wd_t_321 (by decide +kernel) rfl) ?_
  refine hAllOk.c 19 (ok_no) ?_
  refine hAllOk.c 20 (ok_no) ?_
  refine hAllOk.c 21 (ok_iand (by decide +kernel) rfl) ?_
  refine hAllOk.c 22 (ok_iadd (by decide +kernel) rfl) ?_
  refine hAllOk.c 23 (ok_istore_n (f := 0) rfl (by decide) (by decide +kernel) rfl) ?_
  refine hAllOk.c 24 (ok_iload_n (f := 0) rfl (by decide +kernel) rfl) ?_
  refine hAllOk.c 25 (ok_iload_n (f := 0) rfl (by decide +kernel) rfl) ?_
  refine hAllOk.c 26 (ok_iconst (n := 4) (by decide +kernel) (by decide +kernel) rfl) ?_
  refine hAllOk.c 27 (ok_iushr (by decide +kernel) rfl) ?_
  refine hAllOk.c 28 (ok_iadd (by decide +kernel) rfl) ?_
  refine hAllOk.c 29 (ok_ldcw (i := 267) wd_t_322 (by decide +kernel) rfl) ?_
  refine hAllOk.c 30 (ok_no) ?_
  refine hAllOk.c 31 (ok_no) ?_
  refine hAllOk.c 32 (ok_iand (by decide +kernel) rfl) ?_
  refine hAllOk.c 33 (ok_istore_n (f := 0) rfl (by decide) (by decide +kernel) rfl) ?_
  refine hAllOk.c 34 (ok_iload_n (f := 0) rfl (by decide +kernel) rfl) ?_
  refine hAllOk.c 35 (ok_iload_n (f := 0) rfl (by decide +kernel) rfl) ?_
  refine hAllOk.c 36 (ok_bipush (n := 8) (by decide +kernel) (by decide +kernel) rfl) ?_
  refine hAllOk.c 37 (ok_no) ?_
  refine hAllOk.c 38 (ok_iushr (by decide +kernel) rfl) ?_
  refine hAllOk.c 39 (ok_iadd (by decide +kernel) rfl) ?_
  refine hAllOk.c 40 (ok_istore_n (f := 0) rfl (by decide) (by decide +kernel) rfl) ?_
  refine hAllOk.c 41 (ok_iload_n (f := 0) rfl (by decide +kernel) rfl) ?_
  refine hAllOk.c 42 (ok_iload_n (f := 0) rfl (by decide +kernel) rfl) ?_
  refine hAllOk.c 43 (ok_bipush (n := 16) (by decide +kernel) (by decide +kernel) rfl) ?_
  refine hAllOk.c 44 (ok_no) ?_
  refine hAllOk.c 45 (ok_iushr (by decide +kernel) rfl) ?_
  refine hAllOk.c 46 (ok_iadd (by decide +kernel) rfl) ?_
  refine hAllOk.c 47 (ok_istore_n (f := 0) rfl (by decide) (by decide +kernel) rfl) ?_
  refine hAllOk.c 48 (ok_iload_n (f := 0) rfl (by decide +kernel) rfl) ?_
  refine hAllOk.c 49 (ok_bipush (n := 63) (by decide +kernel) (by decide +kernel) rfl) ?_
  refine hAllOk.c 50 (ok_no) ?_
  refine hAllOk.c 51 (ok_iand (by decide +kernel) rfl) ?_
  refine hAllOk.c 52 (ok_ireturn (by decide +kernel)) ?_
  trivial
def M_St_feeOf : hM := (yX4_feeOf, prog_6_method_9_code, 2, (some .int), 0, 0)
def code_St_feeOf (K : hK) (B : Nat × Nat) (Q : hPost) : List hSem := [x_iload 1 1, x_ifgt 6 4, x_no, x_no, x_const 5 (0), x_ireturn (some .int) Q, x_aload 7 0, x_getfield 10 4 2, x_no, x_no, x_const 11 (0), x_iaload K 12, x_iload 13 1, x_iadd 14, x_const 15 (1), x_isub 16, x_iload 17 1, x_idiv 18, x_aload 19 0, x_getfield 22 4 2, x_no, x_no, x_const 23 (1), x_iaload K 24, x_iadd 25, x_ireturn (some .int) Q]
set_option maxRecDepth 100000 in
set_option maxHeartbeats 4000000 in
theorem okc_St_feeOf (K : hK) (B : Nat × Nat) (Q : hPost) : hAllOk (hJ K M_St_feeOf B Q) 0 (code_St_feeOf K B Q) := by
  refine hAllOk.c 0 (ok_iload_n (f := 1) rfl (by decide +kernel) rfl) ?_
  refine hAllOk.c 1 (ok_ifgt (off := 5) (by decide +kernel) (by decide +kernel) rfl) ?_
  refine hAllOk.c 2 (ok_no) ?_
  refine hAllOk.c 3 (ok_no) ?_
  refine hAllOk.c 4 (ok_iconst (n := 0) (by decide +kernel) (by decide +kernel) rfl) ?_
  refine hAllOk.c 5 (ok_ireturn (by decide +kernel)) ?_
  refine hAllOk.c 6 (ok_aload_n (f := 0) rfl (by decide +kernel) rfl) ?_
  refine hAllOk.c 7 (ok_getfield (idx := 21) (N := 10) (T := TX4) rfl inTb4 (by decide) rfl wd_t_79 (by decide +kernel) rfl) ?_
  refine hAllOk.c 8 (ok_no) ?_
  refine hAllOk.c 9 (ok_no) ?_
  refine hAllOk.c 10 (ok_iconst (n := 0) (by decide +kernel) (by decide +kernel) rfl) ?_
  refine hAllOk.c 11 (ok_iaload (by decide +kernel) rfl) ?_
  refine hAllOk.c 12 (ok_iload_n (f := 1) rfl (by decide +kernel) rfl) ?_
  refine hAllOk.c 13 (ok_iadd (by decide +kernel) rfl) ?_
  refine hAllOk.c 14 (ok_iconst (n := 1) (by decide +kernel) (by decide +kernel) rfl) ?_
  refine hAllOk.c 15 (ok_isub (by decide +kernel) rfl) ?_
  refine hAllOk.c 16 (ok_iload_n (f := 1) rfl (by decide +kernel) rfl) ?_
  refine hAllOk.c 17 (ok_idiv (by decide +kernel) rfl) ?_
  refine hAllOk.c 18 (ok_aload_n (f := 0) rfl (by decide +kernel) rfl) ?_
  refine hAllOk.c 19 (ok_getfield (idx := 21) (N := 10) (T := TX4) rfl inTb4 (by decide) rfl wd_t_79 (by decide +kernel) rfl) ?_
  refine hAllOk.c 20 (ok_no) ?_
  refine hAllOk.c 21 (ok_no) ?_
  refine hAllOk.c 22 (ok_iconst (n := 1) (by decide +kernel) (by decide +kernel) rfl) ?_
  refine hAllOk.c 23 (ok_iaload (by decide +kernel) rfl) ?_
  refine hAllOk.c 24 (ok_iadd (by decide +kernel) rfl) ?_
  refine hAllOk.c 25 (ok_ireturn (by decide +kernel)) ?_
  trivial
theorem wd_t_336 : Cond.methodLink RX5 97 yJ6_bitCount_0f7a4 ∈ hTb := hTb_t (List.mem_of_getElem? (i := 336) (by decide +kernel)) (by decide +kernel)
theorem wd_t_319 : Cond.code yJ6_bitCount_0f7a4 prog_9_method_49_code 1 (some .int) ∈ hTb := hTb_t (List.mem_of_getElem? (i := 319) (by decide +kernel)) (by decide +kernel)
theorem wd_t_7 : Cond.initialized RJ6 ∈ hTb := hTb_t (List.mem_of_getElem? (i := 7) (by decide +kernel)) (by decide +kernel)
theorem wd_t_318 : Cond.static yJ6_bitCount_0f7a4 ∈ hTb := hTb_t (List.mem_of_getElem? (i := 318) (by decide +kernel)) (by decide +kernel)
def M_Pa_isAtomMet : hM := (yX5_isAtomMet, prog_1_method_39_code, 4, (some .boolean), 1, 20)
def code_Pa_isAtomMet (K : hK) (B : Nat × Nat) (Q : hPost) : List hSem := [x_iload 1 0, x_const 3 (12), x_no, x_ishr 4, x_istore 5 2, x_iload 6 0, x_const 9 (4095), x_no, x_no, x_iand 10, x_istore 11 3, x_iload 12 1, x_iload 13 3, x_iand 14, x_callS K 17 M_In_bitCount 1, x_no, x_no, x_iload 18 2, x_iclt 25 21, x_no, x_no, x_const 22 (1), x_goto 26, x_no, x_no, x_const 26 (0), x_ireturn (some .boolean) Q]
set_option maxRecDepth 100000 in
set_option maxHeartbeats 4000000 in
theorem okc_Pa_isAtomMet (K : hK) (B : Nat × Nat) (Q : hPost) : hAllOk (hJ K M_Pa_isAtomMet B Q) 0 (code_Pa_isAtomMet K B Q) := by
  refine hAllOk.c 0 (ok_iload_n (f := 0) rfl (by decide +kernel) rfl) ?_
  refine hAllOk.c 1 (ok_bipush (n := 12) (by decide +kernel) (by decide +kernel) rfl) ?_
  refine hAllOk.c 2 (ok_no) ?_
  refine hAllOk.c 3 (ok_ishr (by decide +kernel) rfl) ?_
  refine hAllOk.c 4 (ok_istore_n (f := 2) rfl (by decide) (by decide +kernel) rfl) ?_
  refine hAllOk.c 5 (ok_iload_n (f := 0) rfl (by decide +kernel) rfl) ?_
  refine hAllOk.c 6 (ok_sipush (n := 4095) (by decide +kernel) (by decide +kernel) rfl) ?_
  refine hAllOk.c 7 (ok_no) ?_
  refine hAllOk.c 8 (ok_no) ?_
  refine hAllOk.c 9 (ok_iand (by decide +kernel) rfl) ?_
  refine hAllOk.c 10 (ok_istore_n (f := 3) rfl (by decide) (by decide +kernel) rfl) ?_
  refine hAllOk.c 11 (ok_iload_n (f := 1) rfl (by decide +kernel) rfl) ?_
  refine hAllOk.c 12 (ok_iload_n (f := 3) rfl (by decide +kernel) rfl) ?_
  refine hAllOk.c 13 (ok_iand (by decide +kernel) rfl) ?_
  refine hAllOk.c 14 (ok_callS (idx := 97) ⟨wd_t_319, wd_t_7, by decide +kernel, by decide +kernel⟩ wd_t_336 wd_t_318 (by decide +kernel) rfl) ?_
  refine hAllOk.c 15 (ok_no) ?_
  refine hAllOk.c 16 (ok_no) ?_
  refine hAllOk.c 17 (ok_iload_n (f := 2) rfl (by decide +kernel) rfl) ?_
  refine hAllOk.c 18 (ok_iclt (off := 7) (by decide +kernel) (by decide +kernel) rfl) ?_
  refine hAllOk.c 19 (ok_no) ?_
  refine hAllOk.c 20 (ok_no) ?_
  refine hAllOk.c 21 (ok_iconst (n := 1) (by decide +kernel) (by decide +kernel) rfl) ?_
  refine hAllOk.c 22 (ok_goto (off := 4) (by decide +kernel) (by decide +kernel)) ?_
  refine hAllOk.c 23 (ok_no) ?_
  refine hAllOk.c 24 (ok_no) ?_
  refine hAllOk.c 25 (ok_iconst (n := 0) (by decide +kernel) (by decide +kernel) rfl) ?_
  refine hAllOk.c 26 (ok_ireturn (by decide +kernel)) ?_
  trivial
theorem wd_t_50 : Cond.fieldLink RX0 45 RX0 "stepCount" "I" ∈ hTb := hTb_t (List.mem_of_getElem? (i := 50) (by decide +kernel)) (by decide +kernel)
theorem wd_n_333 : Cond.methodLinkNest RX0 61 yX5_isAtomMet "StableParty" ∈ tables_1 := List.mem_of_getElem? (i := 333) (by decide +kernel)
theorem wd_t_335 : Cond.code yX5_isAtomMet prog_1_method_39_code 4 (some .boolean) ∈ hTb := hTb_t (List.mem_of_getElem? (i := 335) (by decide +kernel)) (by decide +kernel)
theorem wd_t_334 : Cond.static yX5_isAtomMet ∈ hTb := hTb_t (List.mem_of_getElem? (i := 334) (by decide +kernel)) (by decide +kernel)
def M_Gu_isContentWith : hM := (yX0_isContentWith, prog_2_method_7_code, 7, (some .boolean), 2, 43)
def code_Gu_isContentWith (K : hK) (B : Nat × Nat) (Q : hPost) : List hSem := [x_const 1 (0), x_istore 2 2, x_const 3 (1), x_istore 4 3, x_const 5 (0), x_istore 7 4, x_no, x_iload 9 4, x_no, x_aload 10 0, x_getfield 13 0 8, x_no, x_no, x_icge 125 16, x_no, x_no, x_iload 18 4, x_no, x_aload 19 0, x_getfield 22 0 9, x_no, x_no, x_alen K 23, x_icge 125 26, x_no, x_no, x_aload 27 0, x_getfield 30 0 9, x_no, x_no, x_iload 32 4, x_no, x_iaload K 33, x_istore 35 5, x_no, x_iload 37 5, x_no, x_const 38 (-1), x_icne 54 41, x_no, x_no, x_iload 42 2, x_const 43 (1), x_ishl 44, x_istore 45 2, x_iload 46 3, x_const 47 (1), x_ishl 48, x_const 49 (1), x_ior 50, x_istore 51 3, x_goto 119, x_no, x_no, x_iload 56 5, x_no, x_const 58 (-3), x_no, x_icne 74 61, x_no, x_no, x_iload 62 2, x_iload 63 3, x_const 64 (1), x_iand 65, x_ior 66, x_istore 67 2, x_iload 68 3, x_const 69 (1), x_ior 70, x_istore 71 3, x_goto 119, x_no, x_no, x_iload 76 5, x_no, x_const 78 (-2), x_no, x_icne 105 81, x_no, x_no, x_iload 82 2, x_iload 83 3, x_ior 84, x_const 85 (1), x_iand 86, x_istore 88 6, x_no, x_iload 89 2, x_const 90 (1), x_ishr 91, x_istore 92 2, x_iload 93 3, x_const 94 (1), x_ishr 95, x_iload 97 6, x_no, x_const 99 (-2), x_no, x_ior 100, x_iand 101, x_istore 102 3, x_goto 119, x_no, x_no, x_iload 107 5, x_no, x_iload 108 1, x_callS K 111 M_Pa_isAtomMet 2, x_no, x_no, x_ifne 119 114, x_no, x_no, x_iload 115 3, x_const 117 (-2), x_no, x_iand 118, x_istore 119 3, x_iinc 122 4 (1), x_no, x_no, x_goto 7, x_no, x_no, x_iload 126 2, x_iload 127 3, x_ior 128, x_const 129 (1), x_iand 130, x_ifeq 137 133, x_no, x_no, x_const 134 (1), x_goto 138, x_no, x_no, x_const 138 (0), x_ireturn (some .boolean) Q]
set_option maxRecDepth 100000 in
set_option maxHeartbeats 4000000 in
theorem okc_Gu_isContentWith (K : hK) (B : Nat × Nat) (Q : hPost) : hAllOk (hJ K M_Gu_isContentWith B Q) 0 (code_Gu_isContentWith K B Q) := by
  refine hAllOk.c 0 (ok_iconst (n := 0) (by decide +kernel) (by decide +kernel) rfl) ?_
  refine hAllOk.c 1 (ok_istore_n (f := 2) rfl (by decide) (by decide +kernel) rfl) ?_
  refine hAllOk.c 2 (ok_iconst (n := 1) (by decide +kernel) (by decide +kernel) rfl) ?_
  refine hAllOk.c 3 (ok_istore_n (f := 3) rfl (by decide) (by decide +kernel) rfl) ?_
  refine hAllOk.c 4 (ok_iconst (n := 0) (by decide +kernel) (by decide +kernel) rfl) ?_
  refine hAllOk.c 5 (ok_istore (by decide) (by decide +kernel) rfl) ?_
  refine hAllOk.c 6 (ok_no) ?_
  refine hAllOk.c 7 (ok_iload (by decide +kernel) rfl) ?_
  refine hAllOk.c 8 (ok_no) ?_
  refine hAllOk.c 9 (ok_aload_n (f := 0) rfl (by decide +kernel) rfl) ?_
  refine hAllOk.c 10 (ok_getfield (idx := 45) (N := 10) (T := TX0) rfl inTb0 (by decide) rfl wd_t_50 (by decide +kernel) rfl) ?_
  refine hAllOk.c 11 (ok_no) ?_
  refine hAllOk.c 12 (ok_no) ?_
  refine hAllOk.c 13 (ok_icge (off := 112) (by decide +kernel) (by decide +kernel) rfl) ?_
  refine hAllOk.c 14 (ok_no) ?_
  refine hAllOk.c 15 (ok_no) ?_
  refine hAllOk.c 16 (ok_iload (by decide +kernel) rfl) ?_
  refine hAllOk.c 17 (ok_no) ?_
  refine hAllOk.c 18 (ok_aload_n (f := 0) rfl (by decide +kernel) rfl) ?_
  refine hAllOk.c 19 (ok_getfield (idx := 9) (N := 10) (T := TX0) rfl inTb0 (by decide) rfl wd_t_51 (by decide +kernel) rfl) ?_
  refine hAllOk.c 20 (ok_no) ?_
  refine hAllOk.c 21 (ok_no) ?_
  refine hAllOk.c 22 (ok_alen (by decide +kernel) rfl) ?_
  refine hAllOk.c 23 (ok_icge (off := 102) (by decide +kernel) (by decide +kernel) rfl) ?_
  refine hAllOk.c 24 (ok_no) ?_
  refine hAllOk.c 25 (ok_no) ?_
  refine hAllOk.c 26 (ok_aload_n (f := 0) rfl (by decide +kernel) rfl) ?_
  refine hAllOk.c 27 (ok_getfield (idx := 9) (N := 10) (T := TX0) rfl inTb0 (by decide) rfl wd_t_51 (by decide +kernel) rfl) ?_
  refine hAllOk.c 28 (ok_no) ?_
  refine hAllOk.c 29 (ok_no) ?_
  refine hAllOk.c 30 (ok_iload (by decide +kernel) rfl) ?_
  refine hAllOk.c 31 (ok_no) ?_
  refine hAllOk.c 32 (ok_iaload (by decide +kernel) rfl) ?_
  refine hAllOk.c 33 (ok_istore (by decide) (by decide +kernel) rfl) ?_
  refine hAllOk.c 34 (ok_no) ?_
  refine hAllOk.c 35 (ok_iload (by decide +kernel) rfl) ?_
  refine hAllOk.c 36 (ok_no) ?_
  refine hAllOk.c 37 (ok_iconst (n := -1) (by decide +kernel) (by decide +kernel) rfl) ?_
  refine hAllOk.c 38 (ok_icne (off := 16) (by decide +kernel) (by decide +kernel) rfl) ?_
  refine hAllOk.c 39 (ok_no) ?_
  refine hAllOk.c 40 (ok_no) ?_
  refine hAllOk.c 41 (ok_iload_n (f := 2) rfl (by decide +kernel) rfl) ?_
  refine hAllOk.c 42 (ok_iconst (n := 1) (by decide +kernel) (by decide +kernel) rfl) ?_
  refine hAllOk.c 43 (ok_ishl (by decide +kernel) rfl) ?_
  refine hAllOk.c 44 (ok_istore_n (f := 2) rfl (by decide) (by decide +kernel) rfl) ?_
  refine hAllOk.c 45 (ok_iload_n (f := 3) rfl (by decide +kernel) rfl) ?_
  refine hAllOk.c 46 (ok_iconst (n := 1) (by decide +kernel) (by decide +kernel) rfl) ?_
  refine hAllOk.c 47 (ok_ishl (by decide +kernel) rfl) ?_
  refine hAllOk.c 48 (ok_iconst (n := 1) (by decide +kernel) (by decide +kernel) rfl) ?_
  refine hAllOk.c 49 (ok_ior (by decide +kernel) rfl) ?_
  refine hAllOk.c 50 (ok_istore_n (f := 3) rfl (by decide) (by decide +kernel) rfl) ?_
  refine hAllOk.c 51 (ok_goto (off := 68) (by decide +kernel) (by decide +kernel)) ?_
  refine hAllOk.c 52 (ok_no) ?_
  refine hAllOk.c 53 (ok_no) ?_
  refine hAllOk.c 54 (ok_iload (by decide +kernel) rfl) ?_
  refine hAllOk.c 55 (ok_no) ?_
  refine hAllOk.c 56 (ok_bipush (n := -3) (by decide +kernel) (by decide +kernel) rfl) ?_
  refine hAllOk.c 57 (ok_no) ?_
  refine hAllOk.c 58 (ok_icne (off := 16) (by decide +kernel) (by decide +kernel) rfl) ?_
  refine hAllOk.c 59 (ok_no) ?_
  refine hAllOk.c 60 (ok_no) ?_
  refine hAllOk.c 61 (ok_iload_n (f := 2) rfl (by decide +kernel) rfl) ?_
  refine hAllOk.c 62 (ok_iload_n (f := 3) rfl (by decide +kernel) rfl) ?_
  refine hAllOk.c 63 (ok_iconst (n := 1) (by decide +kernel) (by decide +kernel) rfl) ?_
  refine hAllOk.c 64 (ok_iand (by decide +kernel) rfl) ?_
  refine hAllOk.c 65 (ok_ior (by decide +kernel) rfl) ?_
  refine hAllOk.c 66 (ok_istore_n (f := 2) rfl (by decide) (by decide +kernel) rfl) ?_
  refine hAllOk.c 67 (ok_iload_n (f := 3) rfl (by decide +kernel) rfl) ?_
  refine hAllOk.c 68 (ok_iconst (n := 1) (by decide +kernel) (by decide +kernel) rfl) ?_
  refine hAllOk.c 69 (ok_ior (by decide +kernel) rfl) ?_
  refine hAllOk.c 70 (ok_istore_n (f := 3) rfl (by decide) (by decide +kernel) rfl) ?_
  refine hAllOk.c 71 (ok_goto (off := 48) (by decide +kernel) (by decide +kernel)) ?_
  refine hAllOk.c 72 (ok_no) ?_
  refine hAllOk.c 73 (ok_no) ?_
  refine hAllOk.c 74 (ok_iload (by decide +kernel) rfl) ?_
  refine hAllOk.c 75 (ok_no) ?_
  refine hAllOk.c 76 (ok_bipush (n := -2) (by decide +kernel) (by decide +kernel) rfl) ?_
  refine hAllOk.c 77 (ok_no) ?_
  refine hAllOk.c 78 (ok_icne (off := 27) (by decide +kernel) (by decide +kernel) rfl) ?_
  refine hAllOk.c 79 (ok_no) ?_
  refine hAllOk.c 80 (ok_no) ?_
  refine hAllOk.c 81 (ok_iload_n (f := 2) rfl (by decide +kernel) rfl) ?_
  refine hAllOk.c 82 (ok_iload_n (f := 3) rfl (by decide +kernel) rfl) ?_
  refine hAllOk.c 83 (ok_ior (by decide +kernel) rfl) ?_
  refine hAllOk.c 84 (ok_iconst (n := 1) (by decide +kernel) (by decide +kernel) rfl) ?_
  refine hAllOk.c 85 (ok_iand (by decide +kernel) rfl) ?_
  refine hAllOk.c 86 (ok_istore (by decide) (by decide +kernel) rfl) ?_
  refine hAllOk.c 87 (ok_no) ?_
  refine hAllOk.c 88 (ok_iload_n (f := 2) rfl (by decide +kernel) rfl) ?_
  refine hAllOk.c 89 (ok_iconst (n := 1) (by decide +kernel) (by decide +kernel) rfl) ?_
  refine hAllOk.c 90 (ok_ishr (by decide +kernel) rfl) ?_
  refine hAllOk.c 91 (ok_istore_n (f := 2) rfl (by decide) (by decide +kernel) rfl) ?_
  refine hAllOk.c 92 (ok_iload_n (f := 3) rfl (by decide +kernel) rfl) ?_
  refine hAllOk.c 93 (ok_iconst (n := 1) (by decide +kernel) (by decide +kernel) rfl) ?_
  refine hAllOk.c 94 (ok_ishr (by decide +kernel) rfl) ?_
  refine hAllOk.c 95 (ok_iload (by decide +kernel) rfl) ?_
  refine hAllOk.c 96 (ok_no) ?_
  refine hAllOk.c 97 (ok_bipush (n := -2) (by decide +kernel) (by decide +kernel) rfl) ?_
  refine hAllOk.c 98 (ok_no) ?_
  refine hAllOk.c 99 (ok_ior (by decide +kernel) rfl) ?_
  refine hAllOk.c 100 (ok_iand (by decide +kernel) rfl) ?_
  refine hAllOk.c 101 (ok_istore_n (f := 3) rfl (by decide) (by decide +kernel) rfl) ?_
  refine hAllOk.c 102 (ok_goto (off := 17) (by decide +kernel) (by decide +kernel)) ?_
  refine hAllOk.c 103 (ok_no) ?_
  refine hAllOk.c 104 (ok_no) ?_
  refine hAllOk.c 105 (ok_iload (by decide +kernel) rfl) ?_
  refine hAllOk.c 106 (ok_no) ?_
  refine hAllOk.c 107 (ok_iload_n (f := 1) rfl (by decide +kernel) rfl) ?_
  refine hAllOk.c 108 (ok_callSN (idx := 61) ⟨wd_t_335, wd_t_1, by decide +kernel, by decide +kernel⟩ wd_n_333 wd_t_334 (by decide +kernel) rfl) ?_
  refine hAllOk.c 109 (ok_no) ?_
  refine hAllOk.c 110 (ok_no) ?_
  refine hAllOk.c 111 (ok_ifne (off := 8) (by decide +kernel) (by decide +kernel) rfl) ?_
  refine hAllOk.c 112 (ok_no) ?_
  refine hAllOk.c 113 (ok_no) ?_
  refine hAllOk.c 114 (ok_iload_n (f := 3) rfl (by decide +kernel) rfl) ?_
  refine hAllOk.c 115 (ok_bipush (n := -2) (by decide +kernel) (by decide +kernel) rfl) ?_
  refine hAllOk.c 116 (ok_no) ?_
  refine hAllOk.c 117 (ok_iand (by decide +kernel) rfl) ?_
  refine hAllOk.c 118 (ok_istore_n (f := 3) rfl (by decide) (by decide +kernel) rfl) ?_
  refine hAllOk.c 119 (ok_iinc (n := 1) (by decide +kernel) (by decide) (by decide +kernel) rfl) ?_
  refine hAllOk.c 120 (ok_no) ?_
  refine hAllOk.c 121 (ok_no) ?_
  refine hAllOk.c 122 (ok_goto (off := (-115)) (by decide +kernel) (by decide +kernel)) ?_
  refine hAllOk.c 123 (ok_no) ?_
  refine hAllOk.c 124 (ok_no) ?_
  refine hAllOk.c 125 (ok_iload_n (f := 2) rfl (by decide +kernel) rfl) ?_
  refine hAllOk.c 126 (ok_iload_n (f := 3) rfl (by decide +kernel) rfl) ?_
  refine hAllOk.c 127 (ok_ior (by decide +kernel) rfl) ?_
  refine hAllOk.c 128 (ok_iconst (n := 1) (by decide +kernel) (by decide +kernel) rfl) ?_
  refine hAllOk.c 129 (ok_iand (by decide +kernel) rfl) ?_
  refine hAllOk.c 130 (ok_ifeq (off := 7) (by decide +kernel) (by decide +kernel) rfl) ?_
  refine hAllOk.c 131 (ok_no) ?_
  refine hAllOk.c 132 (ok_no) ?_
  refine hAllOk.c 133 (ok_iconst (n := 1) (by decide +kernel) (by decide +kernel) rfl) ?_
  refine hAllOk.c 134 (ok_goto (off := 4) (by decide +kernel) (by decide +kernel)) ?_
  refine hAllOk.c 135 (ok_no) ?_
  refine hAllOk.c 136 (ok_no) ?_
  refine hAllOk.c 137 (ok_iconst (n := 0) (by decide +kernel) (by decide +kernel) rfl) ?_
  refine hAllOk.c 138 (ok_ireturn (by decide +kernel)) ?_
  trivial
theorem wd_t_344 : Cond.methodLink RX5 138 yX5_isIn ∈ hTb := hTb_t (List.mem_of_getElem? (i := 344) (by decide +kernel)) (by decide +kernel)
def M_Pa_lowestOf : hM := (yX5_lowestOf, prog_1_method_37_code, 2, (some .int), 2, 41)
def code_Pa_lowestOf (K : hK) (B : Nat × Nat) (Q : hPost) : List hSem := [x_const 1 (0), x_istore 2 1, x_iload 3 1, x_const 5 (12), x_no, x_icge 24 8, x_no, x_no, x_iload 9 0, x_iload 10 1, x_callS K 13 M_Pa_isIn 2, x_no, x_no, x_ifeq 18 16, x_no, x_no, x_iload 17 1, x_ireturn (some .int) Q, x_iinc 21 1 (1), x_no, x_no, x_goto 2, x_no, x_no, x_const 26 (-5), x_no, x_ireturn (some .int) Q]
set_option maxRecDepth 100000 in
set_option maxHeartbeats 4000000 in
theorem okc_Pa_lowestOf (K : hK) (B : Nat × Nat) (Q : hPost) : hAllOk (hJ K M_Pa_lowestOf B Q) 0 (code_Pa_lowestOf K B Q) := by
  refine hAllOk.c 0 (ok_iconst (n := 0) (by decide +kernel) (by decide +kernel) rfl) ?_
  refine hAllOk.c 1 (ok_istore_n (f := 1) rfl (by decide) (by decide +kernel) rfl) ?_
  refine hAllOk.c 2 (ok_iload_n (f := 1) rfl (by decide +kernel) rfl) ?_
  refine hAllOk.c 3 (ok_bipush (n := 12) (by decide +kernel) (by decide +kernel) rfl) ?_
  refine hAllOk.c 4 (ok_no) ?_
  refine hAllOk.c 5 (ok_icge (off := 19) (by decide +kernel) (by decide +kernel) rfl) ?_
  refine hAllOk.c 6 (ok_no) ?_
  refine hAllOk.c 7 (ok_no) ?_
  refine hAllOk.c 8 (ok_iload_n (f := 0) rfl (by decide +kernel) rfl) ?_
  refine hAllOk.c 9 (ok_iload_n (f := 1) rfl (by decide +kernel) rfl) ?_
  refine hAllOk.c 10 (ok_callS (idx := 138) ⟨wd_t_311, wd_t_1, by decide +kernel, by decide +kernel⟩ wd_t_344 wd_t_310 (by decide +kernel) rfl) ?_
  refine hAllOk.c 11 (ok_no) ?_
  refine hAllOk.c 12 (ok_no) ?_
  refine hAllOk.c 13 (ok_ifeq (off := 5) (by decide +kernel) (by decide +kernel) rfl) ?_
  refine hAllOk.c 14 (ok_no) ?_
  refine hAllOk.c 15 (ok_no) ?_
  refine hAllOk.c 16 (ok_iload_n (f := 1) rfl (by decide +kernel) rfl) ?_
  refine hAllOk.c 17 (ok_ireturn (by decide +kernel)) ?_
  refine hAllOk.c 18 (ok_iinc (n := 1) (by decide +kernel) (by decide) (by decide +kernel) rfl) ?_
  refine hAllOk.c 19 (ok_no) ?_
  refine hAllOk.c 20 (ok_no) ?_
  refine hAllOk.c 21 (ok_goto (off := (-19)) (by decide +kernel) (by decide +kernel)) ?_
  refine hAllOk.c 22 (ok_no) ?_
  refine hAllOk.c 23 (ok_no) ?_
  refine hAllOk.c 24 (ok_bipush (n := -5) (by decide +kernel) (by decide +kernel) rfl) ?_
  refine hAllOk.c 25 (ok_no) ?_
  refine hAllOk.c 26 (ok_ireturn (by decide +kernel)) ?_
  trivial
theorem wd_n_341 : Cond.methodLinkNest RX3 85 yX5_lowestOf "StableParty" ∈ tables_1 := List.mem_of_getElem? (i := 341) (by decide +kernel)
theorem wd_t_343 : Cond.code yX5_lowestOf prog_1_method_37_code 2 (some .int) ∈ hTb := hTb_t (List.mem_of_getElem? (i := 343) (by decide +kernel)) (by decide +kernel)
theorem wd_t_342 : Cond.static yX5_lowestOf ∈ hTb := hTb_t (List.mem_of_getElem? (i := 342) (by decide +kernel)) (by decide +kernel)
def M_Se_note : hM := (yX3_note, prog_5_method_5_code, 6, none, 3, 62)
def code_Se_note (K : hK) (B : Nat × Nat) (Q : hPost) : List hSem := [x_iload 1 1, x_iflt 24 4, x_no, x_no, x_iload 5 1, x_const 7 (12), x_no, x_icge 24 10, x_no, x_no, x_iload 11 3, x_const 12 (1), x_iclt 24 15, x_no, x_no, x_iload 16 3, x_aload 17 0, x_getfield 20 3 0, x_no, x_no, x_alen K 21, x_iclt 25 24, x_no, x_no, x_return Q, x_aload 26 0, x_getfield 29 3 2, x_no, x_no, x_iload 30 1, x_iload 31 2, x_iastore K 32, x_aload 33 0, x_getfield 36 3 3, x_no, x_no, x_iload 37 1, x_iload 38 3, x_iastore K 39, x_iload 41 4, x_no, x_aload 42 0, x_getfield 45 3 0, x_no, x_no, x_iload 46 3, x_const 47 (1), x_isub 48, x_iaload K 49, x_iand 50, x_callS K 53 M_Pa_lowestOf 1, x_no, x_no, x_istore 55 5, x_no, x_aload 56 0, x_getfield 59 3 4, x_no, x_no, x_iload 60 1, x_iload 62 5, x_no, x_iastore K 63, x_iload 65 5, x_no, x_iflt 103 68, x_no, x_no, x_iload 70 5, x_no, x_const 72 (12), x_no, x_icge 103 75, x_no, x_no, x_aload 76 0, x_getfield 79 3 5, x_no, x_no, x_iload 80 1, x_aload 81 0, x_getfield 84 3 5, x_no, x_no, x_iload 86 5, x_no, x_iaload K 87, x_const 88 (1), x_iadd 89, x_iastore K 90, x_aload 91 0, x_getfield 94 3 6, x_no, x_no, x_iload 95 1, x_aload 96 0, x_getfield 99 3 6, x_no, x_no, x_iload 101 5, x_no, x_iaload K 102, x_iastore K 103, x_return Q]
set_option maxRecDepth 100000 in
set_option maxHeartbeats 4000000 in
theorem okc_Se_note (K : hK) (B : Nat × Nat) (Q : hPost) : hAllOk (hJ K M_Se_note B Q) 0 (code_Se_note K B Q) := by
  refine hAllOk.c 0 (ok_iload_n (f := 1) rfl (by decide +kernel) rfl) ?_
  refine hAllOk.c 1 (ok_iflt (off := 23) (by decide +kernel) (by decide +kernel) rfl) ?_
  refine hAllOk.c 2 (ok_no) ?_
  refine hAllOk.c 3 (ok_no) ?_
  refine hAllOk.c 4 (ok_iload_n (f := 1) rfl (by decide +kernel) rfl) ?_
  refine hAllOk.c 5 (ok_bipush (n := 12) (by decide +kernel) (by decide +kernel) rfl) ?_
  refine hAllOk.c 6 (ok_no) ?_
  refine hAllOk.c 7 (ok_icge (off := 17) (by decide +kernel) (by decide +kernel) rfl) ?_
  refine hAllOk.c 8 (ok_no) ?_
  refine hAllOk.c 9 (ok_no) ?_
  refine hAllOk.c 10 (ok_iload_n (f := 3) rfl (by decide +kernel) rfl) ?_
  refine hAllOk.c 11 (ok_iconst (n := 1) (by decide +kernel) (by decide +kernel) rfl) ?_
  refine hAllOk.c 12 (ok_iclt (off := 12) (by decide +kernel) (by decide +kernel) rfl) ?_
  refine hAllOk.c 13 (ok_no) ?_
  refine hAllOk.c 14 (ok_no) ?_
  refine hAllOk.c 15 (ok_iload_n (f := 3) rfl (by decide +kernel) rfl) ?_
  refine hAllOk.c 16 (ok_aload_n (f := 0) rfl (by decide +kernel) rfl) ?_
  refine hAllOk.c 17 (ok_getfield (idx := 9) (N := 7) (T := TX3) rfl inTb3 (by decide) rfl wd_t_171 (by decide +kernel) rfl) ?_
  refine hAllOk.c 18 (ok_no) ?_
  refine hAllOk.c 19 (ok_no) ?_
  refine hAllOk.c 20 (ok_alen (by decide +kernel) rfl) ?_
  refine hAllOk.c 21 (ok_iclt (off := 4) (by decide +kernel) (by decide +kernel) rfl) ?_
  refine hAllOk.c 22 (ok_no) ?_
  refine hAllOk.c 23 (ok_no) ?_
  refine hAllOk.c 24 (ok_return rfl (by decide +kernel)) ?_
  refine hAllOk.c 25 (ok_aload_n (f := 0) rfl (by decide +kernel) rfl) ?_
  refine hAllOk.c 26 (ok_getfield (idx := 19) (N := 7) (T := TX3) rfl inTb3 (by decide) rfl wd_t_174 (by decide +kernel) rfl) ?_
  refine hAllOk.c 27 (ok_no) ?_
  refine hAllOk.c 28 (ok_no) ?_
  refine hAllOk.c 29 (ok_iload_n (f := 1) rfl (by decide +kernel) rfl) ?_
  refine hAllOk.c 30 (ok_iload_n (f := 2) rfl (by decide +kernel) rfl) ?_
  refine hAllOk.c 31 (ok_iastore (by decide +kernel) rfl) ?_
  refine hAllOk.c 32 (ok_aload_n (f := 0) rfl (by decide +kernel) rfl) ?_
  refine hAllOk.c 33 (ok_getfield (idx := 22) (N := 7) (T := TX3) rfl inTb3 (by decide) rfl wd_t_175 (by decide +kernel) rfl) ?_
  refine hAllOk.c 34 (ok_no) ?_
  refine hAllOk.c 35 (ok_no) ?_
  refine hAllOk.c 36 (ok_iload_n (f := 1) rfl (by decide +kernel) rfl) ?_
  refine hAllOk.c 37 (ok_iload_n (f := 3) rfl (by decide +kernel) rfl) ?_
  refine hAllOk.c 38 (ok_iastore (by decide +kernel) rfl) ?_
  refine hAllOk.c 39 (ok_iload (by decide +kernel) rfl) ?_
  refine hAllOk.c 40 (ok_no) ?_
  refine hAllOk.c 41 (ok_aload_n (f := 0) rfl (by decide +kernel) rfl) ?_
  refine hAllOk.c 42 (ok_getfield (idx := 9) (N := 7) (T := TX3) rfl inTb3 (by decide) rfl wd_t_171 (by decide +kernel) rfl) ?_
  refine hAllOk.c 43 (ok_no) ?_
  refine hAllOk.c 44 (ok_no) ?_
  refine hAllOk.c 45 (ok_iload_n (f := 3) rfl (by decide +kernel) rfl) ?_
  refine hAllOk.c 46 (ok_iconst (n := 1) (by decide +kernel) (by decide +kernel) rfl) ?_
  refine hAllOk.c 47 (ok_isub (by decide +kernel) rfl) ?_
  refine hAllOk.c 48 (ok_iaload (by decide +kernel) rfl) ?_
  refine hAllOk.c 49 (ok_iand (by decide +kernel) rfl) ?_
  refine hAllOk.c 50 (ok_callSN (idx := 85) ⟨wd_t_343, wd_t_1, by decide +kernel, by decide +kernel⟩ wd_n_341 wd_t_342 (by decide +kernel) rfl) ?_
  refine hAllOk.c 51 (ok_no) ?_
  refine hAllOk.c 52 (ok_no) ?_
  refine hAllOk.c 53 (ok_istore (by decide) (by decide +kernel) rfl) ?_
  refine hAllOk.c 54 (ok_no) ?_
  refine hAllOk.c 55 (ok_aload_n (f := 0) rfl (by decide +kernel) rfl) ?_
  refine hAllOk.c 56 (ok_getfield (idx := 25) (N := 7) (T := TX3) rfl inTb3 (by decide) rfl wd_t_176 (by decide +kernel) rfl) ?_
  refine hAllOk.c 57 (ok_no) ?_
  refine hAllOk.c 58 (ok_no) ?_
  refine hAllOk.c 59 (ok_iload_n (f := 1) rfl (by decide +kernel) rfl) ?_
  refine hAllOk.c 60 (ok_iload (by decide +kernel) rfl) ?_
  refine hAllOk.c 61 (ok_no) ?_
  refine hAllOk.c 62 (ok_iastore (by decide +kernel) rfl) ?_
  refine hAllOk.c 63 (ok_iload (by decide +kernel) rfl) ?_
  refine hAllOk.c 64 (ok_no) ?_
  refine hAllOk.c 65 (ok_iflt (off := 38) (by decide +kernel) (by decide +kernel) rfl) ?_
  refine hAllOk.c 66 (ok_no) ?_
  refine hAllOk.c 67 (ok_no) ?_
  refine hAllOk.c 68 (ok_iload (by decide +kernel) rfl) ?_
  refine hAllOk.c 69 (ok_no) ?_
  refine hAllOk.c 70 (ok_bipush (n := 12) (by decide +kernel) (by decide +kernel) rfl) ?_
  refine hAllOk.c 71 (ok_no) ?_
  refine hAllOk.c 72 (ok_icge (off := 31) (by decide +kernel) (by decide +kernel) rfl) ?_
  refine hAllOk.c 73 (ok_no) ?_
  refine hAllOk.c 74 (ok_no) ?_
  refine hAllOk.c 75 (ok_aload_n (f := 0) rfl (by decide +kernel) rfl) ?_
  refine hAllOk.c 76 (ok_getfield (idx := 28) (N := 7) (T := TX3) rfl inTb3 (by decide) rfl wd_t_177 (by decide +kernel) rfl) ?_
  refine hAllOk.c 77 (ok_no) ?_
  refine hAllOk.c 78 (ok_no) ?_
  refine hAllOk.c 79 (ok_iload_n (f := 1) rfl (by decide +kernel) rfl) ?_
  refine hAllOk.c 80 (ok_aload_n (f := 0) rfl (by decide +kernel) rfl) ?_
  refine hAllOk.c 81 (ok_getfield (idx := 28) (N := 7) (T := TX3) rfl inTb3 (by decide) rfl wd_t_177 (by decide +kernel) rfl) ?_
  refine hAllOk.c 82 (ok_no) ?_
  refine hAllOk.c 83 (ok_no) ?_
  refine hAllOk.c 84 (ok_iload (by decide +kernel) rfl) ?_
  refine hAllOk.c 85 (ok_no) ?_
  refine hAllOk.c 86 (ok_iaload (by decide +kernel) rfl) ?_
  refine hAllOk.c 87 (ok_iconst (n := 1) (by decide +kernel) (by decide +kernel) rfl) ?_
  refine hAllOk.c 88 (ok_iadd (by decide +kernel) rfl) ?_
  refine hAllOk.c 89 (ok_iastore (by decide +kernel) rfl) ?_
  refine hAllOk.c 90 (ok_aload_n (f := 0) rfl (by decide +kernel) rfl) ?_
  refine hAllOk.c 91 (ok_getfield (idx := 31) (N := 7) (T := TX3) rfl inTb3 (by decide) rfl wd_t_178 (by decide +kernel) rfl) ?_
  refine hAllOk.c 92 (ok_no) ?_
  refine hAllOk.c 93 (ok_no) ?_
  refine hAllOk.c 94 (ok_iload_n (f := 1) rfl (by decide +kernel) rfl) ?_
  refine hAllOk.c 95 (ok_aload_n (f := 0) rfl (by decide +kernel) rfl) ?_
  refine hAllOk.c 96 (ok_getfield (idx := 31) (N := 7) (T := TX3) rfl inTb3 (by decide) rfl wd_t_178 (by decide +kernel) rfl) ?_
  refine hAllOk.c 97 (ok_no) ?_
  refine hAllOk.c 98 (ok_no) ?_
  refine hAllOk.c 99 (ok_iload (by decide +kernel) rfl) ?_
  refine hAllOk.c 100 (ok_no) ?_
  refine hAllOk.c 101 (ok_iaload (by decide +kernel) rfl) ?_
  refine hAllOk.c 102 (ok_iastore (by decide +kernel) rfl) ?_
  refine hAllOk.c 103 (ok_return rfl (by decide +kernel)) ?_
  trivial
theorem wd_t_317 : Cond.methodLink RX3 52 yJ6_bitCount_0f7a4 ∈ hTb := hTb_t (List.mem_of_getElem? (i := 317) (by decide +kernel)) (by decide +kernel)
theorem wd_n_323 : Cond.methodLinkNest RX3 58 yX4_feeOf "StableParty" ∈ tables_1 := List.mem_of_getElem? (i := 323) (by decide +kernel)
theorem wd_t_326 : Cond.code yX4_feeOf prog_6_method_9_code 2 (some .int) ∈ hTb := hTb_t (List.mem_of_getElem? (i := 326) (by decide +kernel)) (by decide +kernel)
theorem wd_t_325 : Cond.instanceMethod yX4_feeOf ∈ hTb := hTb_t (List.mem_of_getElem? (i := 325) (by decide +kernel)) (by decide +kernel)
theorem wd_s_16 : Cond.selects RX4 yX4_feeOf yX4_feeOf ∈ hTb := hTb_s (List.mem_of_getElem? (i := 16) (by decide +kernel)) (by decide +kernel)
theorem wd_n_327 : Cond.methodLinkNest RX3 61 yX4_find "StableParty" ∈ tables_1 := List.mem_of_getElem? (i := 327) (by decide +kernel)
theorem wd_t_328 : Cond.constant RX3 65 (99999) ∈ hTb := hTb_t (List.mem_of_getElem? (i := 328) (by decide +kernel)) (by decide +kernel)
theorem wd_n_31 : Cond.fieldLinkNest RX3 66 RX0 "limit" "I" "StableParty" ∈ tables_1 := List.mem_of_getElem? (i := 31) (by decide +kernel)
theorem wd_n_329 : Cond.methodLinkNest RX3 71 yX0_isContentWith "StableParty" ∈ tables_1 := List.mem_of_getElem? (i := 329) (by decide +kernel)
theorem wd_t_332 : Cond.code yX0_isContentWith prog_2_method_7_code 7 (some .boolean) ∈ hTb := hTb_t (List.mem_of_getElem? (i := 332) (by decide +kernel)) (by decide +kernel)
theorem wd_t_331 : Cond.instanceMethod yX0_isContentWith ∈ hTb := hTb_t (List.mem_of_getElem? (i := 331) (by decide +kernel)) (by decide +kernel)
theorem wd_s_17 : Cond.selects RX0 yX0_isContentWith yX0_isContentWith ∈ hTb := hTb_s (List.mem_of_getElem? (i := 17) (by decide +kernel)) (by decide +kernel)
theorem wd_n_49 : Cond.fieldLinkNest RX3 75 RX0 "letters" "I" "StableParty" ∈ tables_1 := List.mem_of_getElem? (i := 49) (by decide +kernel)
theorem wd_t_337 : Cond.methodLink RX3 78 yX3_note ∈ hTb := hTb_t (List.mem_of_getElem? (i := 337) (by decide +kernel)) (by decide +kernel)
theorem wd_t_340 : Cond.code yX3_note prog_5_method_5_code 6 none ∈ hTb := hTb_t (List.mem_of_getElem? (i := 340) (by decide +kernel)) (by decide +kernel)
theorem wd_t_339 : Cond.instanceMethod yX3_note ∈ hTb := hTb_t (List.mem_of_getElem? (i := 339) (by decide +kernel)) (by decide +kernel)
theorem wd_s_18 : Cond.selects RX3 yX3_note yX3_note ∈ hTb := hTb_s (List.mem_of_getElem? (i := 18) (by decide +kernel)) (by decide +kernel)
theorem wd_n_345 : Cond.methodLinkNest RX3 82 yX5_bitOf "StableParty" ∈ tables_1 := List.mem_of_getElem? (i := 345) (by decide +kernel)
def M_Se_sendAway : hM := (yX3_sendAway, prog_5_method_4_code, 10, (some .int), 4, 87)
def code_Se_sendAway (K : hK) (B : Nat × Nat) (Q : hPost) : List hSem := [x_aload 1 1, x_iload 2 2, x_callS K 5 M_In_bitCount 1, x_no, x_no, x_callV K 8 M_St_feeOf 4 1, x_no, x_no, x_istore 10 5, x_no, x_const 11 (0), x_istore 13 6, x_no, x_const 14 (0), x_istore 16 7, x_no, x_iload 18 7, x_no, x_const 20 (12), x_no, x_icge 133 23, x_no, x_no, x_aload 24 1, x_iload 26 7, x_no, x_callV K 29 M_St_find 4 1, x_no, x_no, x_astore 31 8, x_no, x_aload 33 8, x_no, x_ifnull 127 36, x_no, x_no, x_iload 37 2, x_iload 39 7, x_no, x_callS K 42 M_Pa_isIn 2, x_no, x_no, x_ifeq 127 45, x_no, x_no, x_iload 47 7, x_no, x_iload 49 4, x_no, x_icne 57 52, x_no, x_no, x_const 54 (99999), x_no, x_goto 62, x_no, x_no, x_aload 59 8, x_no, x_getfield 62 0 0, x_no, x_no, x_istore 64 9, x_no, x_aload 66 8, x_no, x_iload 67 2, x_callV K 70 M_Gu_isContentWith 0 1, x_no, x_no, x_ifne 99 73, x_no, x_no, x_aload 74 0, x_iload 76 7, x_no, x_const 77 (2), x_iload 78 3, x_aload 80 8, x_no, x_getfield 83 0 7, x_no, x_no, x_callV K 86 M_Se_note 3 4, x_no, x_no, x_iload 88 6, x_no, x_iload 90 7, x_no, x_callS K 93 M_Pa_bitOf 1, x_no, x_no, x_ior 94, x_istore 96 6, x_no, x_goto 127, x_no, x_no, x_iload 101 9, x_no, x_iload 103 5, x_no, x_icge 127 106, x_no, x_no, x_aload 107 0, x_iload 109 7, x_no, x_const 110 (3), x_iload 111 3, x_const 114 (4095), x_no, x_no, x_callV K 117 M_Se_note 3 4, x_no, x_no, x_iload 119 6, x_no, x_iload 121 7, x_no, x_callS K 124 M_Pa_bitOf 1, x_no, x_no, x_ior 125, x_istore 127 6, x_no, x_iinc 130 7 (1), x_no, x_no, x_goto 16, x_no, x_no, x_iload 135 6, x_no, x_ireturn (some .int) Q]
set_option maxRecDepth 100000 in
set_option maxHeartbeats 4000000 in
theorem okc_Se_sendAway (K : hK) (B : Nat × Nat) (Q : hPost) : hAllOk (hJ K M_Se_sendAway B Q) 0 (code_Se_sendAway K B Q) := by
  refine hAllOk.c 0 (ok_aload_n (f := 1) rfl (by decide +kernel) rfl) ?_
  refine hAllOk.c 1 (ok_iload_n (f := 2) rfl (by decide +kernel) rfl) ?_
  refine hAllOk.c 2 (ok_callS (idx := 52) ⟨wd_t_319, wd_t_7, by decide +kernel, by decide +kernel⟩ wd_t_317 wd_t_318 (by decide +kernel) rfl) ?_
  refine hAllOk.c 3 (ok_no) ?_
  refine hAllOk.c 4 (ok_no) ?_
  refine hAllOk.c 5 (ok_callVN (idx := 58) ⟨wd_t_326, wd_t_2, by decide +kernel, by decide +kernel⟩ rfl rfl wd_n_323 wd_t_325 wd_s_16 (by decide +kernel) rfl) ?_
  refine hAllOk.c 6 (ok_no) ?_
  refine hAllOk.c 7 (ok_no) ?_
  refine hAllOk.c 8 (ok_istore (by decide) (by decide +kernel) rfl) ?_
  refine hAllOk.c 9 (ok_no) ?_
  refine hAllOk.c 10 (ok_iconst (n := 0) (by decide +kernel) (by decide +kernel) rfl) ?_
  refine hAllOk.c 11 (ok_istore (by decide) (by decide +kernel) rfl) ?_
  refine hAllOk.c 12 (ok_no) ?_
  refine hAllOk.c 13 (ok_iconst (n := 0) (by decide +kernel) (by decide +kernel) rfl) ?_
  refine hAllOk.c 14 (ok_istore (by decide) (by decide +kernel) rfl) ?_
  refine hAllOk.c 15 (ok_no) ?_
  refine hAllOk.c 16 (ok_iload (by decide +kernel) rfl) ?_
  refine hAllOk.c 17 (ok_no) ?_
  refine hAllOk.c 18 (ok_bipush (n := 12) (by decide +kernel) (by decide +kernel) rfl) ?_
  refine hAllOk.c 19 (ok_no) ?_
  refine hAllOk.c 20 (ok_icge (off := 113) (by decide +kernel) (by decide +kernel) rfl) ?_
  refine hAllOk.c 21 (ok_no) ?_
  refine hAllOk.c 22 (ok_no) ?_
  refine hAllOk.c 23 (ok_aload_n (f := 1) rfl (by decide +kernel) rfl) ?_
  refine hAllOk.c 24 (ok_iload (by decide +kernel) rfl) ?_
  refine hAllOk.c 25 (ok_no) ?_
  refine hAllOk.c 26 (ok_callVN (idx := 61) ⟨wd_t_246, wd_t_2, by decide +kernel, by decide +kernel⟩ rfl rfl wd_n_327 wd_t_245 wd_s_4 (by decide +kernel) rfl) ?_
  refine hAllOk.c 27 (ok_no) ?_
  refine hAllOk.c 28 (ok_no) ?_
  refine hAllOk.c 29 (ok_astore (by decide) (by decide +kernel) rfl) ?_
  refine hAllOk.c 30 (ok_no) ?_
  refine hAllOk.c 31 (ok_aload (by decide +kernel) rfl) ?_
  refine hAllOk.c 32 (ok_no) ?_
  refine hAllOk.c 33 (ok_ifnull (off := 94) (by decide +kernel) (by decide +kernel) rfl) ?_
  refine hAllOk.c 34 (ok_no) ?_
  refine hAllOk.c 35 (ok_no) ?_
  refine hAllOk.c 36 (ok_iload_n (f := 2) rfl (by decide +kernel) rfl) ?_
  refine hAllOk.c 37 (ok_iload (by decide +kernel) rfl) ?_
  refine hAllOk.c 38 (ok_no) ?_
  refine hAllOk.c 39 (ok_callSN (idx := 48) ⟨wd_t_311, wd_t_1, by decide +kernel, by decide +kernel⟩ wd_n_309 wd_t_310 (by decide +kernel) rfl) ?_
  refine hAllOk.c 40 (ok_no) ?_
  refine hAllOk.c 41 (ok_no) ?_
  refine hAllOk.c 42 (ok_ifeq (off := 85) (by decide +kernel) (by decide +kernel) rfl) ?_
  refine hAllOk.c 43 (ok_no) ?_
  refine hAllOk.c 44 (ok_no) ?_
  refine hAllOk.c 45 (ok_iload (by decide +kernel) rfl) ?_
  refine hAllOk.c 46 (ok_no) ?_
  refine hAllOk.c 47 (ok_iload (by decide +kernel) rfl) ?_
  refine hAllOk.c 48 (ok_no) ?_
  refine hAllOk.c 49 (ok_icne (off := 8) (by decide +kernel) (by decide +kernel) rfl) ?_
  refine hAllOk.c 50 (ok_no) ?_
  refine hAllOk.c 51 (ok_no) ?_
  refine hAllOk.c 52 (ok_ldc (i := 65) wd_t_328 (by decide +kernel) rfl) ?_
  refine hAllOk.c 53 (ok_no) ?_
  refine hAllOk.c 54 (ok_goto (off := 8) (by decide +kernel) (by decide +kernel)) ?_
  refine hAllOk.c 55 (ok_no) ?_
  refine hAllOk.c 56 (ok_no) ?_
  refine hAllOk.c 57 (ok_aload (by decide +kernel) rfl) ?_
  refine hAllOk.c 58 (ok_no) ?_
  refine hAllOk.c 59 (ok_getfieldN (idx := 66) (N := 10) (T := TX0) rfl inTb0 (by decide) rfl wd_n_31 (by decide +kernel) rfl) ?_
  refine hAllOk.c 60 (ok_no) ?_
  refine hAllOk.c 61 (ok_no) ?_
  refine hAllOk.c 62 (ok_istore (by decide) (by decide +kernel) rfl) ?_
  refine hAllOk.c 63 (ok_no) ?_
  refine hAllOk.c 64 (ok_aload (by decide +kernel) rfl) ?_
  refine hAllOk.c 65 (ok_no) ?_
  refine hAllOk.c 66 (ok_iload_n (f := 2) rfl (by decide +kernel) rfl) ?_
  refine hAllOk.c 67 (ok_callVN (idx := 71) ⟨wd_t_332, wd_t_3, by decide +kernel, by decide +kernel⟩ rfl rfl wd_n_329 wd_t_331 wd_s_17 (by decide +kernel) rfl) ?_
  refine hAllOk.c 68 (ok_no) ?_
  refine hAllOk.c 69 (ok_no) ?_
  refine hAllOk.c 70 (ok_ifne (off := 29) (by decide +kernel) (by decide +kernel) rfl) ?_
  refine hAllOk.c 71 (ok_no) ?_
  refine hAllOk.c 72 (ok_no) ?_
  refine hAllOk.c 73 (ok_aload_n (f := 0) rfl (by decide +kernel) rfl) ?_
  refine hAllOk.c 74 (ok_iload (by decide +kernel) rfl) ?_
  refine hAllOk.c 75 (ok_no) ?_
  refine hAllOk.c 76 (ok_iconst (n := 2) (by decide +kernel) (by decide +kernel) rfl) ?_
  refine hAllOk.c 77 (ok_iload_n (f := 3) rfl (by decide +kernel) rfl) ?_
  refine hAllOk.c 78 (ok_aload (by decide +kernel) rfl) ?_
  refine hAllOk.c 79 (ok_no) ?_
  refine hAllOk.c 80 (ok_getfieldN (idx := 75) (N := 10) (T := TX0) rfl inTb0 (by decide) rfl wd_n_49 (by decide +kernel) rfl) ?_
  refine hAllOk.c 81 (ok_no) ?_
  refine hAllOk.c 82 (ok_no) ?_
  refine hAllOk.c 83 (ok_callV (idx := 78) ⟨wd_t_340, wd_t_6, by decide +kernel, by decide +kernel⟩ rfl rfl wd_t_337 wd_t_339 wd_s_18 (by decide +kernel) rfl) ?_
  refine hAllOk.c 84 (ok_no) ?_
  refine hAllOk.c 85 (ok_no) ?_
  refine hAllOk.c 86 (ok_iload (by decide +kernel) rfl) ?_
  refine hAllOk.c 87 (ok_no) ?_
  refine hAllOk.c 88 (ok_iload (by decide +kernel) rfl) ?_
  refine hAllOk.c 89 (ok_no) ?_
  refine hAllOk.c 90 (ok_callSN (idx := 82) ⟨wd_t_296, wd_t_1, by decide +kernel, by decide +kernel⟩ wd_n_345 wd_t_295 (by decide +kernel) rfl) ?_
  refine hAllOk.c 91 (ok_no) ?_
  refine hAllOk.c 92 (ok_no) ?_
  refine hAllOk.c 93 (ok_ior (by decide +kernel) rfl) ?_
  refine hAllOk.c 94 (ok_istore (by decide) (by decide +kernel) rfl) ?_
  refine hAllOk.c 95 (ok_no) ?_
  refine hAllOk.c 96 (ok_goto (off := 31) (by decide +kernel) (by decide +kernel)) ?_
  refine hAllOk.c 97 (ok_no) ?_
  refine hAllOk.c 98 (ok_no) ?_
  refine hAllOk.c 99 (ok_iload (by decide +kernel) rfl) ?_
  refine hAllOk.c 100 (ok_no) ?_
  refine hAllOk.c 101 (ok_iload (by decide +kernel) rfl) ?_
  refine hAllOk.c 102 (ok_no) ?_
  refine hAllOk.c 103 (ok_icge (off := 24) (by decide +kernel) (by decide +kernel) rfl) ?_
  refine hAllOk.c 104 (ok_no) ?_
  refine hAllOk.c 105 (ok_no) ?_
  refine hAllOk.c 106 (ok_aload_n (f := 0) rfl (by decide +kernel) rfl) ?_
  refine hAllOk.c 107 (ok_iload (by decide +kernel) rfl) ?_
  refine hAllOk.c 108 (ok_no) ?_
  refine hAllOk.c 109 (ok_iconst (n := 3) (by decide +kernel) (by decide +kernel) rfl) ?_
  refine hAllOk.c 110 (ok_iload_n (f := 3) rfl (by decide +kernel) rfl) ?_
  refine hAllOk.c 111 (ok_sipush (n := 4095) (by decide +kernel) (by decide +kernel) rfl) ?_
  refine hAllOk.c 112 (ok_no) ?_
  refine hAllOk.c 113 (ok_no) ?_
  refine hAllOk.c 114 (ok_callV (idx := 78) ⟨wd_t_340, wd_t_6, by decide +kernel, by decide +kernel⟩ rfl rfl wd_t_337 wd_t_339 wd_s_18 (by decide +kernel) rfl) ?_
  refine hAllOk.c 115 (ok_no) ?_
  refine hAllOk.c 116 (ok_no) ?_
  refine hAllOk.c 117 (ok_iload (by decide +kernel) rfl) ?_
  refine hAllOk.c 118 (ok_no) ?_
  refine hAllOk.c 119 (ok_iload (by decide +kernel) rfl) ?_
  refine hAllOk.c 120 (ok_no) ?_
  refine hAllOk.c 121 (ok_callSN (idx := 82) ⟨wd_t_296, wd_t_1, by decide +kernel, by decide +kernel⟩ wd_n_345 wd_t_295 (by decide +kernel) rfl) ?_
  refine hAllOk.c 122 (ok_no) ?_
  refine hAllOk.c 123 (ok_no) ?_
  refine hAllOk.c 124 (ok_ior (by decide +kernel) rfl) ?_
  refine hAllOk.c 125 (ok_istore (by decide) (by decide +kernel) rfl) ?_
  refine hAllOk.c 126 (ok_no) ?_
  refine hAllOk.c 127 (ok_iinc (n := 1) (by decide +kernel) (by decide) (by decide +kernel) rfl) ?_
  refine hAllOk.c 128 (ok_no) ?_
  refine hAllOk.c 129 (ok_no) ?_
  refine hAllOk.c 130 (ok_goto (off := (-114)) (by decide +kernel) (by decide +kernel)) ?_
  refine hAllOk.c 131 (ok_no) ?_
  refine hAllOk.c 132 (ok_no) ?_
  refine hAllOk.c 133 (ok_iload (by decide +kernel) rfl) ?_
  refine hAllOk.c 134 (ok_no) ?_
  refine hAllOk.c 135 (ok_ireturn (by decide +kernel)) ?_
  trivial
theorem wd_n_301 : Cond.methodLinkNest RX3 34 yX4_everybody "StableParty" ∈ tables_1 := List.mem_of_getElem? (i := 301) (by decide +kernel)
theorem wd_t_304 : Cond.code yX4_everybody prog_6_method_5_code 1 (some .int) ∈ hTb := hTb_t (List.mem_of_getElem? (i := 304) (by decide +kernel)) (by decide +kernel)
theorem wd_t_303 : Cond.instanceMethod yX4_everybody ∈ hTb := hTb_t (List.mem_of_getElem? (i := 303) (by decide +kernel)) (by decide +kernel)
theorem wd_s_13 : Cond.selects RX4 yX4_everybody yX4_everybody ∈ hTb := hTb_s (List.mem_of_getElem? (i := 13) (by decide +kernel)) (by decide +kernel)
theorem wd_t_305 : Cond.methodLink RX3 40 yX3_begin ∈ hTb := hTb_t (List.mem_of_getElem? (i := 305) (by decide +kernel)) (by decide +kernel)
theorem wd_t_308 : Cond.code yX3_begin prog_5_method_3_code 4 none ∈ hTb := hTb_t (List.mem_of_getElem? (i := 308) (by decide +kernel)) (by decide +kernel)
theorem wd_t_307 : Cond.instanceMethod yX3_begin ∈ hTb := hTb_t (List.mem_of_getElem? (i := 307) (by decide +kernel)) (by decide +kernel)
theorem wd_s_14 : Cond.selects RX3 yX3_begin yX3_begin ∈ hTb := hTb_s (List.mem_of_getElem? (i := 14) (by decide +kernel)) (by decide +kernel)
theorem wd_t_313 : Cond.methodLink RX3 44 yX3_sendAway ∈ hTb := hTb_t (List.mem_of_getElem? (i := 313) (by decide +kernel)) (by decide +kernel)
theorem wd_t_316 : Cond.code yX3_sendAway prog_5_method_4_code 10 (some .int) ∈ hTb := hTb_t (List.mem_of_getElem? (i := 316) (by decide +kernel)) (by decide +kernel)
theorem wd_t_315 : Cond.instanceMethod yX3_sendAway ∈ hTb := hTb_t (List.mem_of_getElem? (i := 315) (by decide +kernel)) (by decide +kernel)
theorem wd_s_15 : Cond.selects RX3 yX3_sendAway yX3_sendAway ∈ hTb := hTb_s (List.mem_of_getElem? (i := 15) (by decide +kernel)) (by decide +kernel)
def M_Se_findGreatest : hM := (yX3_findGreatest, prog_5_method_2_code, 7, (some .int), 5, 116)
def code_Se_findGreatest (K : hK) (B : Nat × Nat) (Q : hPost) : List hSem := [x_aload 1 0, x_aload 2 1, x_callV K 5 M_St_everybody 4 0, x_no, x_no, x_iload 6 2, x_const 7 (-1), x_ixor 8, x_iand 9, x_callV K 12 M_Se_begin 3 1, x_no, x_no, x_iload 13 2, x_istore 15 4, x_no, x_const 16 (0), x_istore 18 5, x_no, x_const 19 (1), x_istore 21 6, x_no, x_iload 23 6, x_no, x_aload 24 0, x_getfield 27 3 0, x_no, x_no, x_alen K 28, x_icge 96 31, x_no, x_no, x_iload 33 5, x_no, x_ifne 96 36, x_no, x_no, x_aload 37 0, x_getfield 40 3 0, x_no, x_no, x_iload 42 6, x_no, x_aload 43 0, x_aload 44 1, x_iload 46 4, x_no, x_iload 48 6, x_no, x_iload 49 3, x_callV K 52 M_Se_sendAway 3 4, x_no, x_no, x_iastore K 53, x_iload 55 4, x_no, x_aload 56 0, x_getfield 59 3 0, x_no, x_no, x_iload 61 6, x_no, x_iaload K 62, x_const 63 (-1), x_ixor 64, x_iand 65, x_istore 67 4, x_no, x_aload 68 0, x_iload 70 6, x_no, x_putfield 73 3 1 (.int), x_no, x_no, x_aload 74 0, x_getfield 77 3 0, x_no, x_no, x_iload 79 6, x_no, x_iaload K 80, x_ifne 87 83, x_no, x_no, x_const 84 (1), x_goto 88, x_no, x_no, x_const 88 (0), x_istore 90 5, x_no, x_iinc 93 6 (1), x_no, x_no, x_goto 21, x_no, x_no, x_iload 98 4, x_no, x_ireturn (some .int) Q]
set_option maxRecDepth 100000 in
set_option maxHeartbeats 4000000 in
theorem okc_Se_findGreatest (K : hK) (B : Nat × Nat) (Q : hPost) : hAllOk (hJ K M_Se_findGreatest B Q) 0 (code_Se_findGreatest K B Q) := by
  refine hAllOk.c 0 (ok_aload_n (f := 0) rfl (by decide +kernel) rfl) ?_
  refine hAllOk.c 1 (ok_aload_n (f := 1) rfl (by decide +kernel) rfl) ?_
  refine hAllOk.c 2 (ok_callVN (idx := 34) ⟨wd_t_304, wd_t_2, by decide +kernel, by decide +kernel⟩ rfl rfl wd_n_301 wd_t_303 wd_s_13 (by decide +kernel) rfl) ?_
  refine hAllOk.c 3 (ok_no) ?_
  refine hAllOk.c 4 (ok_no) ?_
  refine hAllOk.c 5 (ok_iload_n (f := 2) rfl (by decide +kernel) rfl) ?_
  refine hAllOk.c 6 (ok_iconst (n := -1) (by decide +kernel) (by decide +kernel) rfl) ?_
  refine hAllOk.c 7 (ok_ixor (by decide +kernel) rfl) ?_
  refine hAllOk.c 8 (ok_iand (by decide +kernel) rfl) ?_
  refine hAllOk.c 9 (ok_callV (idx := 40) ⟨wd_t_308, wd_t_6, by decide +kernel, by decide +kernel⟩ rfl rfl wd_t_305 wd_t_307 wd_s_14 (by decide +kernel) rfl) ?_
  refine hAllOk.c 10 (ok_no) ?_
  refine hAllOk.c 11 (ok_no) ?_
  refine hAllOk.c 12 (ok_iload_n (f := 2) rfl (by decide +kernel) rfl) ?_
  refine hAllOk.c 13 (ok_istore (by decide) (by decide +kernel) rfl) ?_
  refine hAllOk.c 14 (ok_no) ?_
  refine hAllOk.c 15 (ok_iconst (n := 0) (by decide +kernel) (by decide +kernel) rfl) ?_
  refine hAllOk.c 16 (ok_istore (by decide) (by decide +kernel) rfl) ?_
  refine hAllOk.c 17 (ok_no) ?_
  refine hAllOk.c 18 (ok_iconst (n := 1) (by decide +kernel) (by decide +kernel) rfl) ?_
  refine hAllOk.c 19 (ok_istore (by decide) (by decide +kernel) rfl) ?_
  refine hAllOk.c 20 (ok_no) ?_
  refine hAllOk.c 21 (ok_iload (by decide +kernel) rfl) ?_
  refine hAllOk.c 22 (ok_no) ?_
  refine hAllOk.c 23 (ok_aload_n (f := 0) rfl (by decide +kernel) rfl) ?_
  refine hAllOk.c 24 (ok_getfield (idx := 9) (N := 7) (T := TX3) rfl inTb3 (by decide) rfl wd_t_171 (by decide +kernel) rfl) ?_
  refine hAllOk.c 25 (ok_no) ?_
  refine hAllOk.c 26 (ok_no) ?_
  refine hAllOk.c 27 (ok_alen (by decide +kernel) rfl) ?_
  refine hAllOk.c 28 (ok_icge (off := 68) (by decide +kernel) (by decide +kernel) rfl) ?_
  refine hAllOk.c 29 (ok_no) ?_
  refine hAllOk.c 30 (ok_no) ?_
  refine hAllOk.c 31 (ok_iload (by decide +kernel) rfl) ?_
  refine hAllOk.c 32 (ok_no) ?_
  refine hAllOk.c 33 (ok_ifne (off := 63) (by decide +kernel) (by decide +kernel) rfl) ?_
  refine hAllOk.c 34 (ok_no) ?_
  refine hAllOk.c 35 (ok_no) ?_
  refine hAllOk.c 36 (ok_aload_n (f := 0) rfl (by decide +kernel) rfl) ?_
  refine hAllOk.c 37 (ok_getfield (idx := 9) (N := 7) (T := TX3) rfl inTb3 (by decide) rfl wd_t_171 (by decide +kernel) rfl) ?_
  refine hAllOk.c 38 (ok_no) ?_
  refine hAllOk.c 39 (ok_no) ?_
  refine hAllOk.c 40 (ok_iload (by decide +kernel) rfl) ?_
  refine hAllOk.c 41 (ok_no) ?_
  refine hAllOk.c 42 (ok_aload_n (f := 0) rfl (by decide +kernel) rfl) ?_
  refine hAllOk.c 43 (ok_aload_n (f := 1) rfl (by decide +kernel) rfl) ?_
  refine hAllOk.c 44 (ok_iload (by decide +kernel) rfl) ?_
  refine hAllOk.c 45 (ok_no) ?_
  refine hAllOk.c 46 (ok_iload (by decide +kernel) rfl) ?_
  refine hAllOk.c 47 (ok_no) ?_
  refine hAllOk.c 48 (ok_iload_n (f := 3) rfl (by decide +kernel) rfl) ?_
  refine hAllOk.c 49 (ok_callV (idx := 44) ⟨wd_t_316, wd_t_6, by decide +kernel, by decide +kernel⟩ rfl rfl wd_t_313 wd_t_315 wd_s_15 (by decide +kernel) rfl) ?_
  refine hAllOk.c 50 (ok_no) ?_
  refine hAllOk.c 51 (ok_no) ?_
  refine hAllOk.c 52 (ok_iastore (by decide +kernel) rfl) ?_
  refine hAllOk.c 53 (ok_iload (by decide +kernel) rfl) ?_
  refine hAllOk.c 54 (ok_no) ?_
  refine hAllOk.c 55 (ok_aload_n (f := 0) rfl (by decide +kernel) rfl) ?_
  refine hAllOk.c 56 (ok_getfield (idx := 9) (N := 7) (T := TX3) rfl inTb3 (by decide) rfl wd_t_171 (by decide +kernel) rfl) ?_
  refine hAllOk.c 57 (ok_no) ?_
  refine hAllOk.c 58 (ok_no) ?_
  refine hAllOk.c 59 (ok_iload (by decide +kernel) rfl) ?_
  refine hAllOk.c 60 (ok_no) ?_
  refine hAllOk.c 61 (ok_iaload (by decide +kernel) rfl) ?_
  refine hAllOk.c 62 (ok_iconst (n := -1) (by decide +kernel) (by decide +kernel) rfl) ?_
  refine hAllOk.c 63 (ok_ixor (by decide +kernel) rfl) ?_
  refine hAllOk.c 64 (ok_iand (by decide +kernel) rfl) ?_
  refine hAllOk.c 65 (ok_istore (by decide) (by decide +kernel) rfl) ?_
  refine hAllOk.c 66 (ok_no) ?_
  refine hAllOk.c 67 (ok_aload_n (f := 0) rfl (by decide +kernel) rfl) ?_
  refine hAllOk.c 68 (ok_iload (by decide +kernel) rfl) ?_
  refine hAllOk.c 69 (ok_no) ?_
  refine hAllOk.c 70 (ok_putfield (idx := 15) (N := 7) (T := TX3) tyX3_ok nmX3 rfl rfl inTb3 (by decide) rfl rfl wd_t_172 (by decide +kernel) rfl) ?_
  refine hAllOk.c 71 (ok_no) ?_
  refine hAllOk.c 72 (ok_no) ?_
  refine hAllOk.c 73 (ok_aload_n (f := 0) rfl (by decide +kernel) rfl) ?_
  refine hAllOk.c 74 (ok_getfield (idx := 9) (N := 7) (T := TX3) rfl inTb3 (by decide) rfl wd_t_171 (by decide +kernel) rfl) ?_
  refine hAllOk.c 75 (ok_no) ?_
  refine hAllOk.c 76 (ok_no) ?_
  refine hAllOk.c 77 (ok_iload (by decide +kernel) rfl) ?_
  refine hAllOk.c 78 (ok_no) ?_
  refine hAllOk.c 79 (ok_iaload (by decide +kernel) rfl) ?_
  refine hAllOk.c 80 (ok_ifne (off := 7) (by decide +kernel) (by decide +kernel) rfl) ?_
  refine hAllOk.c 81 (ok_no) ?_
  refine hAllOk.c 82 (ok_no) ?_
  refine hAllOk.c 83 (ok_iconst (n := 1) (by decide +kernel) (by decide +kernel) rfl) ?_
  refine hAllOk.c 84 (ok_goto (off := 4) (by decide +kernel) (by decide +kernel)) ?_
  refine hAllOk.c 85 (ok_no) ?_
  refine hAllOk.c 86 (ok_no) ?_
  refine hAllOk.c 87 (ok_iconst (n := 0) (by decide +kernel) (by decide +kernel) rfl) ?_
  refine hAllOk.c 88 (ok_istore (by decide) (by decide +kernel) rfl) ?_
  refine hAllOk.c 89 (ok_no) ?_
  refine hAllOk.c 90 (ok_iinc (n := 1) (by decide +kernel) (by decide) (by decide +kernel) rfl) ?_
  refine hAllOk.c 91 (ok_no) ?_
  refine hAllOk.c 92 (ok_no) ?_
  refine hAllOk.c 93 (ok_goto (off := (-72)) (by decide +kernel) (by decide +kernel)) ?_
  refine hAllOk.c 94 (ok_no) ?_
  refine hAllOk.c 95 (ok_no) ?_
  refine hAllOk.c 96 (ok_iload (by decide +kernel) rfl) ?_
  refine hAllOk.c 97 (ok_no) ?_
  refine hAllOk.c 98 (ok_ireturn (by decide +kernel)) ?_
  trivial
theorem wd_n_290 : Cond.methodLinkNest RX5 112 yX4_invitedGuests "StableParty" ∈ tables_1 := List.mem_of_getElem? (i := 290) (by decide +kernel)
theorem wd_t_293 : Cond.code yX4_invitedGuests prog_6_method_7_code 4 (some .int) ∈ hTb := hTb_t (List.mem_of_getElem? (i := 293) (by decide +kernel)) (by decide +kernel)
theorem wd_t_292 : Cond.instanceMethod yX4_invitedGuests ∈ hTb := hTb_t (List.mem_of_getElem? (i := 292) (by decide +kernel)) (by decide +kernel)
theorem wd_s_11 : Cond.selects RX4 yX4_invitedGuests yX4_invitedGuests ∈ hTb := hTb_s (List.mem_of_getElem? (i := 11) (by decide +kernel)) (by decide +kernel)
theorem wd_n_297 : Cond.methodLinkNest RX5 190 yX3_findGreatest "StableParty" ∈ tables_1 := List.mem_of_getElem? (i := 297) (by decide +kernel)
theorem wd_t_300 : Cond.code yX3_findGreatest prog_5_method_2_code 7 (some .int) ∈ hTb := hTb_t (List.mem_of_getElem? (i := 300) (by decide +kernel)) (by decide +kernel)
theorem wd_t_299 : Cond.instanceMethod yX3_findGreatest ∈ hTb := hTb_t (List.mem_of_getElem? (i := 299) (by decide +kernel)) (by decide +kernel)
theorem wd_s_12 : Cond.selects RX3 yX3_findGreatest yX3_findGreatest ∈ hTb := hTb_s (List.mem_of_getElem? (i := 12) (by decide +kernel)) (by decide +kernel)
def M_Pa_findGreatest : hM := (yX5_findGreatest, prog_1_method_30_code, 1, (some .int), 6, 142)
def code_Pa_findGreatest (K : hK) (B : Nat × Nat) (Q : hPost) : List hSem := [x_aload 1 0, x_getfield 4 5 7, x_no, x_no, x_aload 5 0, x_getfield 8 5 0, x_no, x_no, x_aload 9 0, x_getfield 12 5 0, x_no, x_no, x_callV K 15 M_St_invitedGuests 4 0, x_no, x_no, x_const 16 (-1), x_callV K 19 M_Se_findGreatest 3 3, x_no, x_no, x_ireturn (some .int) Q]
set_option maxRecDepth 100000 in
set_option maxHeartbeats 4000000 in
theorem okc_Pa_findGreatest (K : hK) (B : Nat × Nat) (Q : hPost) : hAllOk (hJ K M_Pa_findGreatest B Q) 0 (code_Pa_findGreatest K B Q) := by
  refine hAllOk.c 0 (ok_aload_n (f := 0) rfl (by decide +kernel) rfl) ?_
  refine hAllOk.c 1 (ok_getfield (idx := 48) (N := 8) (T := TX5) rfl inTb5 (by decide) rfl wd_t_201 (by decide +kernel) rfl) ?_
  refine hAllOk.c 2 (ok_no) ?_
  refine hAllOk.c 3 (ok_no) ?_
  refine hAllOk.c 4 (ok_aload_n (f := 0) rfl (by decide +kernel) rfl) ?_
  refine hAllOk.c 5 (ok_getfield (idx := 12) (N := 8) (T := TX5) rfl inTb5 (by decide) rfl wd_t_194 (by decide +kernel) rfl) ?_
  refine hAllOk.c 6 (ok_no) ?_
  refine hAllOk.c 7 (ok_no) ?_
  refine hAllOk.c 8 (ok_aload_n (f := 0) rfl (by decide +kernel) rfl) ?_
  refine hAllOk.c 9 (ok_getfield (idx := 12) (N := 8) (T := TX5) rfl inTb5 (by decide) rfl wd_t_194 (by decide +kernel) rfl) ?_
  refine hAllOk.c 10 (ok_no) ?_
  refine hAllOk.c 11 (ok_no) ?_
  refine hAllOk.c 12 (ok_callVN (idx := 112) ⟨wd_t_293, wd_t_2, by decide +kernel, by decide +kernel⟩ rfl rfl wd_n_290 wd_t_292 wd_s_11 (by decide +kernel) rfl) ?_
  refine hAllOk.c 13 (ok_no) ?_
  refine hAllOk.c 14 (ok_no) ?_
  refine hAllOk.c 15 (ok_iconst (n := -1) (by decide +kernel) (by decide +kernel) rfl) ?_
  refine hAllOk.c 16 (ok_callVN (idx := 190) ⟨wd_t_300, wd_t_6, by decide +kernel, by decide +kernel⟩ rfl rfl wd_n_297 wd_t_299 wd_s_12 (by decide +kernel) rfl) ?_
  refine hAllOk.c 17 (ok_no) ?_
  refine hAllOk.c 18 (ok_no) ?_
  refine hAllOk.c 19 (ok_ireturn (by decide +kernel)) ?_
  trivial
def M_Pa_isPart : hM := (yX5_isPart, prog_1_method_36_code, 2, (some .boolean), 0, 0)
def code_Pa_isPart (K : hK) (B : Nat × Nat) (Q : hPost) : List hSem := [x_iload 1 0, x_iload 2 1, x_const 3 (-1), x_ixor 4, x_iand 5, x_ifne 12 8, x_no, x_no, x_const 9 (1), x_goto 13, x_no, x_no, x_const 13 (0), x_ireturn (some .boolean) Q]
set_option maxRecDepth 100000 in
set_option maxHeartbeats 4000000 in
theorem okc_Pa_isPart (K : hK) (B : Nat × Nat) (Q : hPost) : hAllOk (hJ K M_Pa_isPart B Q) 0 (code_Pa_isPart K B Q) := by
  refine hAllOk.c 0 (ok_iload_n (f := 0) rfl (by decide +kernel) rfl) ?_
  refine hAllOk.c 1 (ok_iload_n (f := 1) rfl (by decide +kernel) rfl) ?_
  refine hAllOk.c 2 (ok_iconst (n := -1) (by decide +kernel) (by decide +kernel) rfl) ?_
  refine hAllOk.c 3 (ok_ixor (by decide +kernel) rfl) ?_
  refine hAllOk.c 4 (ok_iand (by decide +kernel) rfl) ?_
  refine hAllOk.c 5 (ok_ifne (off := 7) (by decide +kernel) (by decide +kernel) rfl) ?_
  refine hAllOk.c 6 (ok_no) ?_
  refine hAllOk.c 7 (ok_no) ?_
  refine hAllOk.c 8 (ok_iconst (n := 1) (by decide +kernel) (by decide +kernel) rfl) ?_
  refine hAllOk.c 9 (ok_goto (off := 4) (by decide +kernel) (by decide +kernel)) ?_
  refine hAllOk.c 10 (ok_no) ?_
  refine hAllOk.c 11 (ok_no) ?_
  refine hAllOk.c 12 (ok_iconst (n := 0) (by decide +kernel) (by decide +kernel) rfl) ?_
  refine hAllOk.c 13 (ok_ireturn (by decide +kernel)) ?_
  trivial
theorem wd_n_362 : Cond.methodLinkNest RX4 89 yX5_isIn "StableParty" ∈ tables_1 := List.mem_of_getElem? (i := 362) (by decide +kernel)
theorem wd_n_35 : Cond.fieldLinkNest RX4 112 RX0 "weight" "I" "StableParty" ∈ tables_1 := List.mem_of_getElem? (i := 35) (by decide +kernel)
def M_St_sumOfWeights : hM := (yX4_sumOfWeights, prog_6_method_15_code, 5, (some .int), 2, 41)
def code_St_sumOfWeights (K : hK) (B : Nat × Nat) (Q : hPost) : List hSem := [x_const 1 (0), x_istore 2 2, x_const 3 (0), x_istore 4 3, x_iload 5 3, x_const 7 (12), x_no, x_icge 44 10, x_no, x_no, x_aload 11 0, x_iload 12 3, x_callV K 15 M_St_find 4 1, x_no, x_no, x_astore 17 4, x_no, x_aload 19 4, x_no, x_ifnull 38 22, x_no, x_no, x_iload 23 1, x_iload 24 3, x_callS K 27 M_Pa_isIn 2, x_no, x_no, x_ifeq 38 30, x_no, x_no, x_iload 31 2, x_aload 33 4, x_no, x_getfield 36 0 1, x_no, x_no, x_iadd 37, x_istore 38 2, x_iinc 41 3 (1), x_no, x_no, x_goto 4, x_no, x_no, x_iload 45 2, x_ireturn (some .int) Q]
set_option maxRecDepth 100000 in
set_option maxHeartbeats 4000000 in
theorem okc_St_sumOfWeights (K : hK) (B : Nat × Nat) (Q : hPost) : hAllOk (hJ K M_St_sumOfWeights B Q) 0 (code_St_sumOfWeights K B Q) := by
  refine hAllOk.c 0 (ok_iconst (n := 0) (by decide +kernel) (by decide +kernel) rfl) ?_
  refine hAllOk.c 1 (ok_istore_n (f := 2) rfl (by decide) (by decide +kernel) rfl) ?_
  refine hAllOk.c 2 (ok_iconst (n := 0) (by decide +kernel) (by decide +kernel) rfl) ?_
  refine hAllOk.c 3 (ok_istore_n (f := 3) rfl (by decide) (by decide +kernel) rfl) ?_
  refine hAllOk.c 4 (ok_iload_n (f := 3) rfl (by decide +kernel) rfl) ?_
  refine hAllOk.c 5 (ok_bipush (n := 12) (by decide +kernel) (by decide +kernel) rfl) ?_
  refine hAllOk.c 6 (ok_no) ?_
  refine hAllOk.c 7 (ok_icge (off := 37) (by decide +kernel) (by decide +kernel) rfl) ?_
  refine hAllOk.c 8 (ok_no) ?_
  refine hAllOk.c 9 (ok_no) ?_
  refine hAllOk.c 10 (ok_aload_n (f := 0) rfl (by decide +kernel) rfl) ?_
  refine hAllOk.c 11 (ok_iload_n (f := 3) rfl (by decide +kernel) rfl) ?_
  refine hAllOk.c 12 (ok_callV (idx := 51) ⟨wd_t_246, wd_t_2, by decide +kernel, by decide +kernel⟩ rfl rfl wd_t_243 wd_t_245 wd_s_4 (by decide +kernel) rfl) ?_
  refine hAllOk.c 13 (ok_no) ?_
  refine hAllOk.c 14 (ok_no) ?_
  refine hAllOk.c 15 (ok_astore (by decide) (by decide +kernel) rfl) ?_
  refine hAllOk.c 16 (ok_no) ?_
  refine hAllOk.c 17 (ok_aload (by decide +kernel) rfl) ?_
  refine hAllOk.c 18 (ok_no) ?_
  refine hAllOk.c 19 (ok_ifnull (off := 19) (by decide +kernel) (by decide +kernel) rfl) ?_
  refine hAllOk.c 20 (ok_no) ?_
  refine hAllOk.c 21 (ok_no) ?_
  refine hAllOk.c 22 (ok_iload_n (f := 1) rfl (by decide +kernel) rfl) ?_
  refine hAllOk.c 23 (ok_iload_n (f := 3) rfl (by decide +kernel) rfl) ?_
  refine hAllOk.c 24 (ok_callSN (idx := 89) ⟨wd_t_311, wd_t_1, by decide +kernel, by decide +kernel⟩ wd_n_362 wd_t_310 (by decide +kernel) rfl) ?_
  refine hAllOk.c 25 (ok_no) ?_
  refine hAllOk.c 26 (ok_no) ?_
  refine hAllOk.c 27 (ok_ifeq (off := 11) (by decide +kernel) (by decide +kernel) rfl) ?_
  refine hAllOk.c 28 (ok_no) ?_
  refine hAllOk.c 29 (ok_no) ?_
  refine hAllOk.c 30 (ok_iload_n (f := 2) rfl (by decide +kernel) rfl) ?_
  refine hAllOk.c 31 (ok_aload (by decide +kernel) rfl) ?_
  refine hAllOk.c 32 (ok_no) ?_
  refine hAllOk.c 33 (ok_getfieldN (idx := 112) (N := 10) (T := TX0) rfl inTb0 (by decide) rfl wd_n_35 (by decide +kernel) rfl) ?_
  refine hAllOk.c 34 (ok_no) ?_
  refine hAllOk.c 35 (ok_no) ?_
  refine hAllOk.c 36 (ok_iadd (by decide +kernel) rfl) ?_
  refine hAllOk.c 37 (ok_istore_n (f := 2) rfl (by decide) (by decide +kernel) rfl) ?_
  refine hAllOk.c 38 (ok_iinc (n := 1) (by decide +kernel) (by decide) (by decide +kernel) rfl) ?_
  refine hAllOk.c 39 (ok_no) ?_
  refine hAllOk.c 40 (ok_no) ?_
  refine hAllOk.c 41 (ok_goto (off := (-37)) (by decide +kernel) (by decide +kernel)) ?_
  refine hAllOk.c 42 (ok_no) ?_
  refine hAllOk.c 43 (ok_no) ?_
  refine hAllOk.c 44 (ok_iload_n (f := 2) rfl (by decide +kernel) rfl) ?_
  refine hAllOk.c 45 (ok_ireturn (by decide +kernel)) ?_
  trivial
theorem wd_t_353 : Cond.methodLink RX4 81 yJ6_bitCount_0f7a4 ∈ hTb := hTb_t (List.mem_of_getElem? (i := 353) (by decide +kernel)) (by decide +kernel)
theorem wd_t_358 : Cond.methodLink RX4 109 yX4_sumOfWeights ∈ hTb := hTb_t (List.mem_of_getElem? (i := 358) (by decide +kernel)) (by decide +kernel)
theorem wd_t_361 : Cond.code yX4_sumOfWeights prog_6_method_15_code 5 (some .int) ∈ hTb := hTb_t (List.mem_of_getElem? (i := 361) (by decide +kernel)) (by decide +kernel)
theorem wd_t_360 : Cond.instanceMethod yX4_sumOfWeights ∈ hTb := hTb_t (List.mem_of_getElem? (i := 360) (by decide +kernel)) (by decide +kernel)
theorem wd_s_21 : Cond.selects RX4 yX4_sumOfWeights yX4_sumOfWeights ∈ hTb := hTb_s (List.mem_of_getElem? (i := 21) (by decide +kernel)) (by decide +kernel)
def M_St_isBetter : hM := (yX4_isBetter, prog_6_method_14_code, 4, (some .boolean), 3, 65)
def code_St_isBetter (K : hK) (B : Nat × Nat) (Q : hPost) : List hSem := [x_iload 1 1, x_callS K 4 M_In_bitCount 1, x_no, x_no, x_iload 5 2, x_callS K 8 M_In_bitCount 1, x_no, x_no, x_isub 9, x_istore 10 3, x_iload 11 3, x_ifgt 31 14, x_no, x_no, x_iload 15 3, x_ifne 35 18, x_no, x_no, x_aload 19 0, x_iload 20 1, x_callV K 23 M_St_sumOfWeights 4 1, x_no, x_no, x_aload 24 0, x_iload 25 2, x_callV K 28 M_St_sumOfWeights 4 1, x_no, x_no, x_icle 35 31, x_no, x_no, x_const 32 (1), x_goto 36, x_no, x_no, x_const 36 (0), x_ireturn (some .boolean) Q]
set_option maxRecDepth 100000 in
set_option maxHeartbeats 4000000 in
theorem okc_St_isBetter (K : hK) (B : Nat × Nat) (Q : hPost) : hAllOk (hJ K M_St_isBetter B Q) 0 (code_St_isBetter K B Q) := by
  refine hAllOk.c 0 (ok_iload_n (f := 1) rfl (by decide +kernel) rfl) ?_
  refine hAllOk.c 1 (ok_callS (idx := 81) ⟨wd_t_319, wd_t_7, by decide +kernel, by decide +kernel⟩ wd_t_353 wd_t_318 (by decide +kernel) rfl) ?_
  refine hAllOk.c 2 (ok_no) ?_
  refine hAllOk.c 3 (ok_no) ?_
  refine hAllOk.c 4 (ok_iload_n (f := 2) rfl (by decide +kernel) rfl) ?_
  refine hAllOk.c 5 (ok_callS (idx := 81) ⟨wd_t_319, wd_t_7, by decide +kernel, by decide +kernel⟩ wd_t_353 wd_t_318 (by decide +kernel) rfl) ?_
  refine hAllOk.c 6 (ok_no) ?_
  refine hAllOk.c 7 (ok_no) ?_
  refine hAllOk.c 8 (ok_isub (by decide +kernel) rfl) ?_
  refine hAllOk.c 9 (ok_istore_n (f := 3) rfl (by decide) (by decide +kernel) rfl) ?_
  refine hAllOk.c 10 (ok_iload_n (f := 3) rfl (by decide +kernel) rfl) ?_
  refine hAllOk.c 11 (ok_ifgt (off := 20) (by decide +kernel) (by decide +kernel) rfl) ?_
  refine hAllOk.c 12 (ok_no) ?_
  refine hAllOk.c 13 (ok_no) ?_
  refine hAllOk.c 14 (ok_iload_n (f := 3) rfl (by decide +kernel) rfl) ?_
  refine hAllOk.c 15 (ok_ifne (off := 20) (by decide +kernel) (by decide +kernel) rfl) ?_
  refine hAllOk.c 16 (ok_no) ?_
  refine hAllOk.c 17 (ok_no) ?_
  refine hAllOk.c 18 (ok_aload_n (f := 0) rfl (by decide +kernel) rfl) ?_
  refine hAllOk.c 19 (ok_iload_n (f := 1) rfl (by decide +kernel) rfl) ?_
  refine hAllOk.c 20 (ok_callV (idx := 109) ⟨wd_t_361, wd_t_2, by decide +kernel, by decide +kernel⟩ rfl rfl wd_t_358 wd_t_360 wd_s_21 (by decide +kernel) rfl) ?_
  refine hAllOk.c 21 (ok_no) ?_
  refine hAllOk.c 22 (ok_no) ?_
  refine hAllOk.c 23 (ok_aload_n (f := 0) rfl (by decide +kernel) rfl) ?_
  refine hAllOk.c 24 (ok_iload_n (f := 2) rfl (by decide +kernel) rfl) ?_
  refine hAllOk.c 25 (ok_callV (idx := 109) ⟨wd_t_361, wd_t_2, by decide +kernel, by decide +kernel⟩ rfl rfl wd_t_358 wd_t_360 wd_s_21 (by decide +kernel) rfl) ?_
  refine hAllOk.c 26 (ok_no) ?_
  refine hAllOk.c 27 (ok_no) ?_
  refine hAllOk.c 28 (ok_icle (off := 7) (by decide +kernel) (by decide +kernel) rfl) ?_
  refine hAllOk.c 29 (ok_no) ?_
  refine hAllOk.c 30 (ok_no) ?_
  refine hAllOk.c 31 (ok_iconst (n := 1) (by decide +kernel) (by decide +kernel) rfl) ?_
  refine hAllOk.c 32 (ok_goto (off := 4) (by decide +kernel) (by decide +kernel)) ?_
  refine hAllOk.c 33 (ok_no) ?_
  refine hAllOk.c 34 (ok_no) ?_
  refine hAllOk.c 35 (ok_iconst (n := 0) (by decide +kernel) (by decide +kernel) rfl) ?_
  refine hAllOk.c 36 (ok_ireturn (by decide +kernel)) ?_
  trivial
theorem wd_t_367 : Cond.methodLink RX4 86 yX4_feeOf ∈ hTb := hTb_t (List.mem_of_getElem? (i := 367) (by decide +kernel)) (by decide +kernel)
theorem wd_n_32 : Cond.fieldLinkNest RX4 93 RX0 "limit" "I" "StableParty" ∈ tables_1 := List.mem_of_getElem? (i := 32) (by decide +kernel)
theorem wd_n_368 : Cond.methodLinkNest RX4 96 yX0_isContentWith "StableParty" ∈ tables_1 := List.mem_of_getElem? (i := 368) (by decide +kernel)
def M_St_isStable : hM := (yX4_isStable, prog_6_method_10_code, 5, (some .boolean), 3, 69)
def code_St_isStable (K : hK) (B : Nat × Nat) (Q : hPost) : List hSem := [x_aload 1 0, x_iload 2 1, x_callS K 5 M_In_bitCount 1, x_no, x_no, x_callV K 8 M_St_feeOf 4 1, x_no, x_no, x_istore 9 2, x_const 10 (0), x_istore 11 3, x_iload 12 3, x_const 14 (12), x_no, x_icge 71 17, x_no, x_no, x_iload 18 1, x_iload 19 3, x_callS K 22 M_Pa_isIn 2, x_no, x_no, x_ifeq 65 25, x_no, x_no, x_aload 26 0, x_iload 27 3, x_callV K 30 M_St_find 4 1, x_no, x_no, x_astore 32 4, x_no, x_aload 34 4, x_no, x_ifnull 63 37, x_no, x_no, x_aload 39 4, x_no, x_getfield 42 0 2, x_no, x_no, x_ifeq 63 45, x_no, x_no, x_aload 47 4, x_no, x_getfield 50 0 0, x_no, x_no, x_iload 51 2, x_iclt 63 54, x_no, x_no, x_aload 56 4, x_no, x_iload 57 1, x_callV K 60 M_Gu_isContentWith 0 1, x_no, x_no, x_ifne 65 63, x_no, x_no, x_const 64 (0), x_ireturn (some .boolean) Q, x_iinc 68 3 (1), x_no, x_no, x_goto 11, x_no, x_no, x_const 72 (1), x_ireturn (some .boolean) Q]
set_option maxRecDepth 100000 in
set_option maxHeartbeats 4000000 in
theorem okc_St_isStable (K : hK) (B : Nat × Nat) (Q : hPost) : hAllOk (hJ K M_St_isStable B Q) 0 (code_St_isStable K B Q) := by
  refine hAllOk.c 0 (ok_aload_n (f := 0) rfl (by decide +kernel) rfl) ?_
  refine hAllOk.c 1 (ok_iload_n (f := 1) rfl (by decide +kernel) rfl) ?_
  refine hAllOk.c 2 (ok_callS (idx := 81) ⟨wd_t_319, wd_t_7, by decide +kernel, by decide +kernel⟩ wd_t_353 wd_t_318 (by decide +kernel) rfl) ?_
  refine hAllOk.c 3 (ok_no) ?_
  refine hAllOk.c 4 (ok_no) ?_
  refine hAllOk.c 5 (ok_callV (idx := 86) ⟨wd_t_326, wd_t_2, by decide +kernel, by decide +kernel⟩ rfl rfl wd_t_367 wd_t_325 wd_s_16 (by decide +kernel) rfl) ?_
  refine hAllOk.c 6 (ok_no) ?_
  refine hAllOk.c 7 (ok_no) ?_
  refine hAllOk.c 8 (ok_istore_n (f := 2) rfl (by decide) (by decide +kernel) rfl) ?_
  refine hAllOk.c 9 (ok_iconst (n := 0) (by decide +kernel) (by decide +kernel) rfl) ?_
  refine hAllOk.c 10 (ok_istore_n (f := 3) rfl (by decide) (by decide +kernel) rfl) ?_
  refine hAllOk.c 11 (ok_iload_n (f := 3) rfl (by decide +kernel) rfl) ?_
  refine hAllOk.c 12 (ok_bipush (n := 12) (by decide +kernel) (by decide +kernel) rfl) ?_
  refine hAllOk.c 13 (ok_no) ?_
  refine hAllOk.c 14 (ok_icge (off := 57) (by decide +kernel) (by decide +kernel) rfl) ?_
  refine hAllOk.c 15 (ok_no) ?_
  refine hAllOk.c 16 (ok_no) ?_
  refine hAllOk.c 17 (ok_iload_n (f := 1) rfl (by decide +kernel) rfl) ?_
  refine hAllOk.c 18 (ok_iload_n (f := 3) rfl (by decide +kernel) rfl) ?_
  refine hAllOk.c 19 (ok_callSN (idx := 89) ⟨wd_t_311, wd_t_1, by decide +kernel, by decide +kernel⟩ wd_n_362 wd_t_310 (by decide +kernel) rfl) ?_
  refine hAllOk.c 20 (ok_no) ?_
  refine hAllOk.c 21 (ok_no) ?_
  refine hAllOk.c 22 (ok_ifeq (off := 43) (by decide +kernel) (by decide +kernel) rfl) ?_
  refine hAllOk.c 23 (ok_no) ?_
  refine hAllOk.c 24 (ok_no) ?_
  refine hAllOk.c 25 (ok_aload_n (f := 0) rfl (by decide +kernel) rfl) ?_
  refine hAllOk.c 26 (ok_iload_n (f := 3) rfl (by decide +kernel) rfl) ?_
  refine hAllOk.c 27 (ok_callV (idx := 51) ⟨wd_t_246, wd_t_2, by decide +kernel, by decide +kernel⟩ rfl rfl wd_t_243 wd_t_245 wd_s_4 (by decide +kernel) rfl) ?_
  refine hAllOk.c 28 (ok_no) ?_
  refine hAllOk.c 29 (ok_no) ?_
  refine hAllOk.c 30 (ok_astore (by decide) (by decide +kernel) rfl) ?_
  refine hAllOk.c 31 (ok_no) ?_
  refine hAllOk.c 32 (ok_aload (by decide +kernel) rfl) ?_
  refine hAllOk.c 33 (ok_no) ?_
  refine hAllOk.c 34 (ok_ifnull (off := 29) (by decide +kernel) (by decide +kernel) rfl) ?_
  refine hAllOk.c 35 (ok_no) ?_
  refine hAllOk.c 36 (ok_no) ?_
  refine hAllOk.c 37 (ok_aload (by decide +kernel) rfl) ?_
  refine hAllOk.c 38 (ok_no) ?_
  refine hAllOk.c 39 (ok_getfieldN (idx := 75) (N := 10) (T := TX0) rfl inTb0 (by decide) rfl wd_n_38 (by decide +kernel) rfl) ?_
  refine hAllOk.c 40 (ok_no) ?_
  refine hAllOk.c 41 (ok_no) ?_
  refine hAllOk.c 42 (ok_ifeq (off := 21) (by decide +kernel) (by decide +kernel) rfl) ?_
  refine hAllOk.c 43 (ok_no) ?_
  refine hAllOk.c 44 (ok_no) ?_
  refine hAllOk.c 45 (ok_aload (by decide +kernel) rfl) ?_
  refine hAllOk.c 46 (ok_no) ?_
  refine hAllOk.c 47 (ok_getfieldN (idx := 93) (N := 10) (T := TX0) rfl inTb0 (by decide) rfl wd_n_32 (by decide +kernel) rfl) ?_
  refine hAllOk.c 48 (ok_no) ?_
  refine hAllOk.c 49 (ok_no) ?_
  refine hAllOk.c 50 (ok_iload_n (f := 2) rfl (by decide +kernel) rfl) ?_
  refine hAllOk.c 51 (ok_iclt (off := 12) (by decide +kernel) (by decide +kernel) rfl) ?_
  refine hAllOk.c 52 (ok_no) ?_
  refine hAllOk.c 53 (ok_no) ?_
  refine hAllOk.c 54 (ok_aload (by decide +kernel) rfl) ?_
  refine hAllOk.c 55 (ok_no) ?_
  refine hAllOk.c 56 (ok_iload_n (f := 1) rfl (by decide +kernel) rfl) ?_
  refine hAllOk.c 57 (ok_callVN (idx := 96) ⟨wd_t_332, wd_t_3, by decide +kernel, by decide +kernel⟩ rfl rfl wd_n_368 wd_t_331 wd_s_17 (by decide +kernel) rfl) ?_
  refine hAllOk.c 58 (ok_no) ?_
  refine hAllOk.c 59 (ok_no) ?_
  refine hAllOk.c 60 (ok_ifne (off := 5) (by decide +kernel) (by decide +kernel) rfl) ?_
  refine hAllOk.c 61 (ok_no) ?_
  refine hAllOk.c 62 (ok_no) ?_
  refine hAllOk.c 63 (ok_iconst (n := 0) (by decide +kernel) (by decide +kernel) rfl) ?_
  refine hAllOk.c 64 (ok_ireturn (by decide +kernel)) ?_
  refine hAllOk.c 65 (ok_iinc (n := 1) (by decide +kernel) (by decide) (by decide +kernel) rfl) ?_
  refine hAllOk.c 66 (ok_no) ?_
  refine hAllOk.c 67 (ok_no) ?_
  refine hAllOk.c 68 (ok_goto (off := (-57)) (by decide +kernel) (by decide +kernel)) ?_
  refine hAllOk.c 69 (ok_no) ?_
  refine hAllOk.c 70 (ok_no) ?_
  refine hAllOk.c 71 (ok_iconst (n := 1) (by decide +kernel) (by decide +kernel) rfl) ?_
  refine hAllOk.c 72 (ok_ireturn (by decide +kernel)) ?_
  trivial
theorem wd_n_350 : Cond.methodLinkNest RX4 100 yX5_isPart "StableParty" ∈ tables_1 := List.mem_of_getElem? (i := 350) (by decide +kernel)
theorem wd_t_352 : Cond.code yX5_isPart prog_1_method_36_code 2 (some .boolean) ∈ hTb := hTb_t (List.mem_of_getElem? (i := 352) (by decide +kernel)) (by decide +kernel)
theorem wd_t_351 : Cond.static yX5_isPart ∈ hTb := hTb_t (List.mem_of_getElem? (i := 351) (by decide +kernel)) (by decide +kernel)
theorem wd_t_354 : Cond.methodLink RX4 106 yX4_isBetter ∈ hTb := hTb_t (List.mem_of_getElem? (i := 354) (by decide +kernel)) (by decide +kernel)
theorem wd_t_357 : Cond.code yX4_isBetter prog_6_method_14_code 4 (some .boolean) ∈ hTb := hTb_t (List.mem_of_getElem? (i := 357) (by decide +kernel)) (by decide +kernel)
theorem wd_t_356 : Cond.instanceMethod yX4_isBetter ∈ hTb := hTb_t (List.mem_of_getElem? (i := 356) (by decide +kernel)) (by decide +kernel)
theorem wd_s_20 : Cond.selects RX4 yX4_isBetter yX4_isBetter ∈ hTb := hTb_s (List.mem_of_getElem? (i := 20) (by decide +kernel)) (by decide +kernel)
theorem wd_t_363 : Cond.methodLink RX4 103 yX4_isStable ∈ hTb := hTb_t (List.mem_of_getElem? (i := 363) (by decide +kernel)) (by decide +kernel)
theorem wd_t_366 : Cond.code yX4_isStable prog_6_method_10_code 5 (some .boolean) ∈ hTb := hTb_t (List.mem_of_getElem? (i := 366) (by decide +kernel)) (by decide +kernel)
theorem wd_t_365 : Cond.instanceMethod yX4_isStable ∈ hTb := hTb_t (List.mem_of_getElem? (i := 365) (by decide +kernel)) (by decide +kernel)
theorem wd_s_22 : Cond.selects RX4 yX4_isStable yX4_isStable ∈ hTb := hTb_s (List.mem_of_getElem? (i := 22) (by decide +kernel)) (by decide +kernel)
def M_St_bestPart : hM := (yX4_bestPart, prog_6_method_13_code, 4, (some .int), 4, 93)
def code_St_bestPart (K : hK) (B : Nat × Nat) (Q : hPost) : List hSem := [x_const 1 (0), x_istore 2 2, x_const 3 (1), x_istore 4 3, x_iload 5 3, x_iload 6 1, x_icgt 55 9, x_no, x_no, x_iload 10 3, x_iload 11 1, x_callS K 14 M_Pa_isPart 2, x_no, x_no, x_ifeq 49 17, x_no, x_no, x_iload 18 3, x_callS K 21 M_In_bitCount 1, x_no, x_no, x_aload 22 0, x_getfield 25 4 2, x_no, x_no, x_const 26 (2), x_iaload K 27, x_icgt 49 30, x_no, x_no, x_aload 31 0, x_iload 32 3, x_iload 33 2, x_callV K 36 M_St_isBetter 4 2, x_no, x_no, x_ifeq 49 39, x_no, x_no, x_aload 40 0, x_iload 41 3, x_callV K 44 M_St_isStable 4 1, x_no, x_no, x_ifeq 49 47, x_no, x_no, x_iload 48 3, x_istore 49 2, x_iinc 52 3 (1), x_no, x_no, x_goto 4, x_no, x_no, x_iload 56 2, x_ireturn (some .int) Q]
set_option maxRecDepth 100000 in
set_option maxHeartbeats 4000000 in
theorem okc_St_bestPart (K : hK) (B : Nat × Nat) (Q : hPost) : hAllOk (hJ K M_St_bestPart B Q) 0 (code_St_bestPart K B Q) := by
  refine hAllOk.c 0 (ok_iconst (n := 0) (by decide +kernel) (by decide +kernel) rfl) ?_
  refine hAllOk.c 1 (ok_istore_n (f := 2) rfl (by decide) (by decide +kernel) rfl) ?_
  refine hAllOk.c 2 (ok_iconst (n := 1) (by decide +kernel) (by decide +kernel) rfl) ?_
  refine hAllOk.c 3 (ok_istore_n (f := 3) rfl (by decide) (by decide +kernel) rfl) ?_
  refine hAllOk.c 4 (ok_iload_n (f := 3) rfl (by decide +kernel) rfl) ?_
  refine hAllOk.c 5 (ok_iload_n (f := 1) rfl (by decide +kernel) rfl) ?_
  refine hAllOk.c 6 (ok_icgt (off := 49) (by decide +kernel) (by decide +kernel) rfl) ?_
  refine hAllOk.c 7 (ok_no) ?_
  refine hAllOk.c 8 (ok_no) ?_
  refine hAllOk.c 9 (ok_iload_n (f := 3) rfl (by decide +kernel) rfl) ?_
  refine hAllOk.c 10 (ok_iload_n (f := 1) rfl (by decide +kernel) rfl) ?_
  refine hAllOk.c 11 (ok_callSN (idx := 100) ⟨wd_t_352, wd_t_1, by decide +kernel, by decide +kernel⟩ wd_n_350 wd_t_351 (by decide +kernel) rfl) ?_
  refine hAllOk.c 12 (ok_no) ?_
  refine hAllOk.c 13 (ok_no) ?_
  refine hAllOk.c 14 (ok_ifeq (off := 35) (by decide +kernel) (by decide +kernel) rfl) ?_
  refine hAllOk.c 15 (ok_no) ?_
  refine hAllOk.c 16 (ok_no) ?_
  refine hAllOk.c 17 (ok_iload_n (f := 3) rfl (by decide +kernel) rfl) ?_
  refine hAllOk.c 18 (ok_callS (idx := 81) ⟨wd_t_319, wd_t_7, by decide +kernel, by decide +kernel⟩ wd_t_353 wd_t_318 (by decide +kernel) rfl) ?_
  refine hAllOk.c 19 (ok_no) ?_
  refine hAllOk.c 20 (ok_no) ?_
  refine hAllOk.c 21 (ok_aload_n (f := 0) rfl (by decide +kernel) rfl) ?_
  refine hAllOk.c 22 (ok_getfield (idx := 21) (N := 10) (T := TX4) rfl inTb4 (by decide) rfl wd_t_79 (by decide +kernel) rfl) ?_
  refine hAllOk.c 23 (ok_no) ?_
  refine hAllOk.c 24 (ok_no) ?_
  refine hAllOk.c 25 (ok_iconst (n := 2) (by decide +kernel) (by decide +kernel) rfl) ?_
  refine hAllOk.c 26 (ok_iaload (by decide +kernel) rfl) ?_
  refine hAllOk.c 27 (ok_icgt (off := 22) (by decide +kernel) (by decide +kernel) rfl) ?_
  refine hAllOk.c 28 (ok_no) ?_
  refine hAllOk.c 29 (ok_no) ?_
  refine hAllOk.c 30 (ok_aload_n (f := 0) rfl (by decide +kernel) rfl) ?_
  refine hAllOk.c 31 (ok_iload_n (f := 3) rfl (by decide +kernel) rfl) ?_
  refine hAllOk.c 32 (ok_iload_n (f := 2) rfl (by decide +kernel) rfl) ?_
  refine hAllOk.c 33 (ok_callV (idx := 106) ⟨wd_t_357, wd_t_2, by decide +kernel, by decide +kernel⟩ rfl rfl wd_t_354 wd_t_356 wd_s_20 (by decide +kernel) rfl) ?_
  refine hAllOk.c 34 (ok_no) ?_
  refine hAllOk.c 35 (ok_no) ?_
  refine hAllOk.c 36 (ok_ifeq (off := 13) (by decide +kernel) (by decide +kernel) rfl) ?_
  refine hAllOk.c 37 (ok_no) ?_
  refine hAllOk.c 38 (ok_no) ?_
  refine hAllOk.c 39 (ok_aload_n (f := 0) rfl (by decide +kernel) rfl) ?_
  refine hAllOk.c 40 (ok_iload_n (f := 3) rfl (by decide +kernel) rfl) ?_
  refine hAllOk.c 41 (ok_callV (idx := 103) ⟨wd_t_366, wd_t_2, by decide +kernel, by decide +kernel⟩ rfl rfl wd_t_363 wd_t_365 wd_s_22 (by decide +kernel) rfl) ?_
  refine hAllOk.c 42 (ok_no) ?_
  refine hAllOk.c 43 (ok_no) ?_
  refine hAllOk.c 44 (ok_ifeq (off := 5) (by decide +kernel) (by decide +kernel) rfl) ?_
  refine hAllOk.c 45 (ok_no) ?_
  refine hAllOk.c 46 (ok_no) ?_
  refine hAllOk.c 47 (ok_iload_n (f := 3) rfl (by decide +kernel) rfl) ?_
  refine hAllOk.c 48 (ok_istore_n (f := 2) rfl (by decide) (by decide +kernel) rfl) ?_
  refine hAllOk.c 49 (ok_iinc (n := 1) (by decide +kernel) (by decide) (by decide +kernel) rfl) ?_
  refine hAllOk.c 50 (ok_no) ?_
  refine hAllOk.c 51 (ok_no) ?_
  refine hAllOk.c 52 (ok_goto (off := (-48)) (by decide +kernel) (by decide +kernel)) ?_
  refine hAllOk.c 53 (ok_no) ?_
  refine hAllOk.c 54 (ok_no) ?_
  refine hAllOk.c 55 (ok_iload_n (f := 2) rfl (by decide +kernel) rfl) ?_
  refine hAllOk.c 56 (ok_ireturn (by decide +kernel)) ?_
  trivial
theorem wd_t_286 : Cond.methodLink RX5 173 yX5_findGreatest ∈ hTb := hTb_t (List.mem_of_getElem? (i := 286) (by decide +kernel)) (by decide +kernel)
theorem wd_t_289 : Cond.code yX5_findGreatest prog_1_method_30_code 1 (some .int) ∈ hTb := hTb_t (List.mem_of_getElem? (i := 289) (by decide +kernel)) (by decide +kernel)
theorem wd_t_288 : Cond.instanceMethod yX5_findGreatest ∈ hTb := hTb_t (List.mem_of_getElem? (i := 288) (by decide +kernel)) (by decide +kernel)
theorem wd_s_10 : Cond.selects RX5 yX5_findGreatest yX5_findGreatest ∈ hTb := hTb_s (List.mem_of_getElem? (i := 10) (by decide +kernel)) (by decide +kernel)
theorem wd_n_80 : Cond.fieldLinkNest RX5 123 RX4 "settings" "[I" "StableParty" ∈ tables_1 := List.mem_of_getElem? (i := 80) (by decide +kernel)
theorem wd_n_346 : Cond.methodLinkNest RX5 211 yX4_bestPart "StableParty" ∈ tables_1 := List.mem_of_getElem? (i := 346) (by decide +kernel)
theorem wd_t_349 : Cond.code yX4_bestPart prog_6_method_13_code 4 (some .int) ∈ hTb := hTb_t (List.mem_of_getElem? (i := 349) (by decide +kernel)) (by decide +kernel)
theorem wd_t_348 : Cond.instanceMethod yX4_bestPart ∈ hTb := hTb_t (List.mem_of_getElem? (i := 348) (by decide +kernel)) (by decide +kernel)
theorem wd_s_19 : Cond.selects RX4 yX4_bestPart yX4_bestPart ∈ hTb := hTb_s (List.mem_of_getElem? (i := 19) (by decide +kernel)) (by decide +kernel)
def M_Pa_findChosen : hM := (yX5_findChosen, prog_1_method_31_code, 2, (some .int), 7, 162)
def code_Pa_findChosen (K : hK) (B : Nat × Nat) (Q : hPost) : List hSem := [x_aload 1 0, x_callV K 4 M_Pa_findGreatest 5 0, x_no, x_no, x_istore 5 1, x_iload 6 1, x_callS K 9 M_In_bitCount 1, x_no, x_no, x_aload 10 0, x_getfield 13 5 0, x_no, x_no, x_getfield 16 4 2, x_no, x_no, x_const 17 (2), x_iaload K 18, x_icgt 23 21, x_no, x_no, x_iload 22 1, x_ireturn (some .int) Q, x_aload 24 0, x_getfield 27 5 0, x_no, x_no, x_iload 28 1, x_callV K 31 M_St_bestPart 4 1, x_no, x_no, x_ireturn (some .int) Q]
set_option maxRecDepth 100000 in
set_option maxHeartbeats 4000000 in
theorem okc_Pa_findChosen (K : hK) (B : Nat × Nat) (Q : hPost) : hAllOk (hJ K M_Pa_findChosen B Q) 0 (code_Pa_findChosen K B Q) := by
  refine hAllOk.c 0 (ok_aload_n (f := 0) rfl (by decide +kernel) rfl) ?_
  refine hAllOk.c 1 (ok_callV (idx := 173) ⟨wd_t_289, wd_t_1, by decide +kernel, by decide +kernel⟩ rfl rfl wd_t_286 wd_t_288 wd_s_10 (by decide +kernel) rfl) ?_
  refine hAllOk.c 2 (ok_no) ?_
  refine hAllOk.c 3 (ok_no) ?_
  refine hAllOk.c 4 (ok_istore_n (f := 1) rfl (by decide) (by decide +kernel) rfl) ?_
  refine hAllOk.c 5 (ok_iload_n (f := 1) rfl (by decide +kernel) rfl) ?_
  refine hAllOk.c 6 (ok_callS (idx := 97) ⟨wd_t_319, wd_t_7, by decide +kernel, by decide +kernel⟩ wd_t_336 wd_t_318 (by decide +kernel) rfl) ?_
  refine hAllOk.c 7 (ok_no) ?_
  refine hAllOk.c 8 (ok_no) ?_
  refine hAllOk.c 9 (ok_aload_n (f := 0) rfl (by decide +kernel) rfl) ?_
  refine hAllOk.c 10 (ok_getfield (idx := 12) (N := 8) (T := TX5) rfl inTb5 (by decide) rfl wd_t_194 (by decide +kernel) rfl) ?_
  refine hAllOk.c 11 (ok_no) ?_
  refine hAllOk.c 12 (ok_no) ?_
  refine hAllOk.c 13 (ok_getfieldN (idx := 123) (N := 10) (T := TX4) rfl inTb4 (by decide) rfl wd_n_80 (by decide +kernel) rfl) ?_
  refine hAllOk.c 14 (ok_no) ?_
  refine hAllOk.c 15 (ok_no) ?_
  refine hAllOk.c 16 (ok_iconst (n := 2) (by decide +kernel) (by decide +kernel) rfl) ?_
  refine hAllOk.c 17 (ok_iaload (by decide +kernel) rfl) ?_
  refine hAllOk.c 18 (ok_icgt (off := 5) (by decide +kernel) (by decide +kernel) rfl) ?_
  refine hAllOk.c 19 (ok_no) ?_
  refine hAllOk.c 20 (ok_no) ?_
  refine hAllOk.c 21 (ok_iload_n (f := 1) rfl (by decide +kernel) rfl) ?_
  refine hAllOk.c 22 (ok_ireturn (by decide +kernel)) ?_
  refine hAllOk.c 23 (ok_aload_n (f := 0) rfl (by decide +kernel) rfl) ?_
  refine hAllOk.c 24 (ok_getfield (idx := 12) (N := 8) (T := TX5) rfl inTb5 (by decide) rfl wd_t_194 (by decide +kernel) rfl) ?_
  refine hAllOk.c 25 (ok_no) ?_
  refine hAllOk.c 26 (ok_no) ?_
  refine hAllOk.c 27 (ok_iload_n (f := 1) rfl (by decide +kernel) rfl) ?_
  refine hAllOk.c 28 (ok_callVN (idx := 211) ⟨wd_t_349, wd_t_2, by decide +kernel, by decide +kernel⟩ rfl rfl wd_n_346 wd_t_348 wd_s_19 (by decide +kernel) rfl) ?_
  refine hAllOk.c 29 (ok_no) ?_
  refine hAllOk.c 30 (ok_no) ?_
  refine hAllOk.c 31 (ok_ireturn (by decide +kernel)) ?_
  trivial
def M_St_smallestPart : hM := (yX4_smallestPart, prog_6_method_12_code, 6, (some .int), 4, 93)
def code_St_smallestPart (K : hK) (B : Nat × Nat) (Q : hPost) : List hSem := [x_const 2 (-5), x_no, x_istore 3 2, x_const 5 (13), x_no, x_istore 6 3, x_const 7 (1), x_istore 9 4, x_no, x_iload 11 4, x_no, x_iload 12 1, x_icgt 58 15, x_no, x_no, x_iload 17 4, x_no, x_callS K 20 M_In_bitCount 1, x_no, x_no, x_istore 22 5, x_no, x_iload 24 4, x_no, x_iload 25 1, x_callS K 28 M_Pa_isPart 2, x_no, x_no, x_ifeq 52 31, x_no, x_no, x_iload 33 5, x_no, x_iload 34 3, x_icge 52 37, x_no, x_no, x_aload 38 0, x_iload 40 4, x_no, x_callV K 43 M_St_isStable 4 1, x_no, x_no, x_ifeq 52 46, x_no, x_no, x_iload 48 4, x_no, x_istore 49 2, x_iload 51 5, x_no, x_istore 52 3, x_iinc 55 4 (1), x_no, x_no, x_goto 9, x_no, x_no, x_iload 59 2, x_ireturn (some .int) Q]
set_option maxRecDepth 100000 in
set_option maxHeartbeats 4000000 in
theorem okc_St_smallestPart (K : hK) (B : Nat × Nat) (Q : hPost) : hAllOk (hJ K M_St_smallestPart B Q) 0 (code_St_smallestPart K B Q) := by
  refine hAllOk.c 0 (ok_bipush (n := -5) (by decide +kernel) (by decide +kernel) rfl) ?_
  refine hAllOk.c 1 (ok_no) ?_
  refine hAllOk.c 2 (ok_istore_n (f := 2) rfl (by decide) (by decide +kernel) rfl) ?_
  refine hAllOk.c 3 (ok_bipush (n := 13) (by decide +kernel) (by decide +kernel) rfl) ?_
  refine hAllOk.c 4 (ok_no) ?_
  refine hAllOk.c 5 (ok_istore_n (f := 3) rfl (by decide) (by decide +kernel) rfl) ?_
  refine hAllOk.c 6 (ok_iconst (n := 1) (by decide +kernel) (by decide +kernel) rfl) ?_
  refine hAllOk.c 7 (ok_istore (by decide) (by decide +kernel) rfl) ?_
  refine hAllOk.c 8 (ok_no) ?_
  refine hAllOk.c 9 (ok_iload (by decide +kernel) rfl) ?_
  refine hAllOk.c 10 (ok_no) ?_
  refine hAllOk.c 11 (ok_iload_n (f := 1) rfl (by decide +kernel) rfl) ?_
  refine hAllOk.c 12 (ok_icgt (off := 46) (by decide +kernel) (by decide +kernel) rfl) ?_
  refine hAllOk.c 13 (ok_no) ?_
  refine hAllOk.c 14 (ok_no) ?_
  refine hAllOk.c 15 (ok_iload (by decide +kernel) rfl) ?_
  refine hAllOk.c 16 (ok_no) ?_
  refine hAllOk.c 17 (ok_callS (idx := 81) ⟨wd_t_319, wd_t_7, by decide +kernel, by decide +kernel⟩ wd_t_353 wd_t_318 (by decide +kernel) rfl) ?_
  refine hAllOk.c 18 (ok_no) ?_
  refine hAllOk.c 19 (ok_no) ?_
  refine hAllOk.c 20 (ok_istore (by decide) (by decide +kernel) rfl) ?_
  refine hAllOk.c 21 (ok_no) ?_
  refine hAllOk.c 22 (ok_iload (by decide +kernel) rfl) ?_
  refine hAllOk.c 23 (ok_no) ?_
  refine hAllOk.c 24 (ok_iload_n (f := 1) rfl (by decide +kernel) rfl) ?_
  refine hAllOk.c 25 (ok_callSN (idx := 100) ⟨wd_t_352, wd_t_1, by decide +kernel, by decide +kernel⟩ wd_n_350 wd_t_351 (by decide +kernel) rfl) ?_
  refine hAllOk.c 26 (ok_no) ?_
  refine hAllOk.c 27 (ok_no) ?_
  refine hAllOk.c 28 (ok_ifeq (off := 24) (by decide +kernel) (by decide +kernel) rfl) ?_
  refine hAllOk.c 29 (ok_no) ?_
  refine hAllOk.c 30 (ok_no) ?_
  refine hAllOk.c 31 (ok_iload (by decide +kernel) rfl) ?_
  refine hAllOk.c 32 (ok_no) ?_
  refine hAllOk.c 33 (ok_iload_n (f := 3) rfl (by decide +kernel) rfl) ?_
  refine hAllOk.c 34 (ok_icge (off := 18) (by decide +kernel) (by decide +kernel) rfl) ?_
  refine hAllOk.c 35 (ok_no) ?_
  refine hAllOk.c 36 (ok_no) ?_
  refine hAllOk.c 37 (ok_aload_n (f := 0) rfl (by decide +kernel) rfl) ?_
  refine hAllOk.c 38 (ok_iload (by decide +kernel) rfl) ?_
  refine hAllOk.c 39 (ok_no) ?_
  refine hAllOk.c 40 (ok_callV (idx := 103) ⟨wd_t_366, wd_t_2, by decide +kernel, by decide +kernel⟩ rfl rfl wd_t_363 wd_t_365 wd_s_22 (by decide +kernel) rfl) ?_
  refine hAllOk.c 41 (ok_no) ?_
  refine hAllOk.c 42 (ok_no) ?_
  refine hAllOk.c 43 (ok_ifeq (off := 9) (by decide +kernel) (by decide +kernel) rfl) ?_
  refine hAllOk.c 44 (ok_no) ?_
  refine hAllOk.c 45 (ok_no) ?_
  refine hAllOk.c 46 (ok_iload (by decide +kernel) rfl) ?_
  refine hAllOk.c 47 (ok_no) ?_
  refine hAllOk.c 48 (ok_istore_n (f := 2) rfl (by decide) (by decide +kernel) rfl) ?_
  refine hAllOk.c 49 (ok_iload (by decide +kernel) rfl) ?_
  refine hAllOk.c 50 (ok_no) ?_
  refine hAllOk.c 51 (ok_istore_n (f := 3) rfl (by decide) (by decide +kernel) rfl) ?_
  refine hAllOk.c 52 (ok_iinc (n := 1) (by decide +kernel) (by decide) (by decide +kernel) rfl) ?_
  refine hAllOk.c 53 (ok_no) ?_
  refine hAllOk.c 54 (ok_no) ?_
  refine hAllOk.c 55 (ok_goto (off := (-46)) (by decide +kernel) (by decide +kernel)) ?_
  refine hAllOk.c 56 (ok_no) ?_
  refine hAllOk.c 57 (ok_no) ?_
  refine hAllOk.c 58 (ok_iload_n (f := 2) rfl (by decide +kernel) rfl) ?_
  refine hAllOk.c 59 (ok_ireturn (by decide +kernel)) ?_
  trivial
theorem wd_t_282 : Cond.methodLink RX5 129 yX5_findChosen ∈ hTb := hTb_t (List.mem_of_getElem? (i := 282) (by decide +kernel)) (by decide +kernel)
theorem wd_t_285 : Cond.code yX5_findChosen prog_1_method_31_code 2 (some .int) ∈ hTb := hTb_t (List.mem_of_getElem? (i := 285) (by decide +kernel)) (by decide +kernel)
theorem wd_t_284 : Cond.instanceMethod yX5_findChosen ∈ hTb := hTb_t (List.mem_of_getElem? (i := 284) (by decide +kernel)) (by decide +kernel)
theorem wd_s_9 : Cond.selects RX5 yX5_findChosen yX5_findChosen ∈ hTb := hTb_s (List.mem_of_getElem? (i := 9) (by decide +kernel)) (by decide +kernel)
theorem wd_n_394 : Cond.methodLinkNest RX5 176 yX4_smallestPart "StableParty" ∈ tables_1 := List.mem_of_getElem? (i := 394) (by decide +kernel)
theorem wd_t_397 : Cond.code yX4_smallestPart prog_6_method_12_code 6 (some .int) ∈ hTb := hTb_t (List.mem_of_getElem? (i := 397) (by decide +kernel)) (by decide +kernel)
theorem wd_t_396 : Cond.instanceMethod yX4_smallestPart ∈ hTb := hTb_t (List.mem_of_getElem? (i := 396) (by decide +kernel)) (by decide +kernel)
theorem wd_s_25 : Cond.selects RX4 yX4_smallestPart yX4_smallestPart ∈ hTb := hTb_s (List.mem_of_getElem? (i := 25) (by decide +kernel)) (by decide +kernel)
theorem wd_n_84 : Cond.fieldLinkNest RX5 57 RX4 "fixed" "Z" "StableParty" ∈ tables_1 := List.mem_of_getElem? (i := 84) (by decide +kernel)
theorem wd_n_86 : Cond.fieldLinkNest RX5 135 RX4 "left" "I" "StableParty" ∈ tables_1 := List.mem_of_getElem? (i := 86) (by decide +kernel)
def M_Pa_company : hM := (yX5_company, prog_1_method_21_code, 2, (some .int), 8, 183)
def code_Pa_company (K : hK) (B : Nat × Nat) (Q : hPost) : List hSem := [x_iload 1 1, x_tab 77 [(0, 32), (1, 37), (2, 42), (3, 54)], x_no, x_no, x_no, x_no, x_no, x_no, x_no, x_no, x_no, x_no, x_no, x_no, x_no, x_no, x_no, x_no, x_no, x_no, x_no, x_no, x_no, x_no, x_no, x_no, x_no, x_no, x_no, x_no, x_no, x_no, x_aload 33 0, x_callV K 36 M_Pa_findGreatest 5 0, x_no, x_no, x_ireturn (some .int) Q, x_aload 38 0, x_callV K 41 M_Pa_findChosen 5 0, x_no, x_no, x_ireturn (some .int) Q, x_aload 43 0, x_getfield 46 5 0, x_no, x_no, x_aload 47 0, x_callV K 50 M_Pa_findGreatest 5 0, x_no, x_no, x_callV K 53 M_St_smallestPart 4 1, x_no, x_no, x_ireturn (some .int) Q, x_aload 55 0, x_getfield 58 5 0, x_no, x_no, x_getfield 61 4 4, x_no, x_no, x_ifeq 74 64, x_no, x_no, x_aload 65 0, x_getfield 68 5 0, x_no, x_no, x_getfield 71 4 5, x_no, x_no, x_goto 76, x_no, x_no, x_const 76 (-5), x_no, x_ireturn (some .int) Q, x_const 79 (-2), x_no, x_ireturn (some .int) Q]
set_option maxRecDepth 100000 in
set_option maxHeartbeats 4000000 in
theorem okc_Pa_company (K : hK) (B : Nat × Nat) (Q : hPost) : hAllOk (hJ K M_Pa_company B Q) 0 (code_Pa_company K B Q) := by
  refine hAllOk.c 0 (ok_iload_n (f := 1) rfl (by decide +kernel) rfl) ?_
  refine hAllOk.c 1 (ok_tab (dflt := 76) (lo := 0) (hi := 3) (offs := #[31, 36, 41, 53]) (len := 31) (by decide +kernel) (by decide +kernel) (by decide +kernel) (by decide +kernel)) ?_
  refine hAllOk.c 2 (ok_no) ?_
  refine hAllOk.c 3 (ok_no) ?_
  refine hAllOk.c 4 (ok_no) ?_
  refine hAllOk.c 5 (ok_no) ?_
  refine hAllOk.c 6 (ok_no) ?_
  refine hAllOk.c 7 (ok_no) ?_
  refine hAllOk.c 8 (ok_no) ?_
  refine hAllOk.c 9 (ok_no) ?_
  refine hAllOk.c 10 (ok_no) ?_
  refine hAllOk.c 11 (ok_no) ?_
  refine hAllOk.c 12 (ok_no) ?_
  refine hAllOk.c 13 (ok_no) ?_
  refine hAllOk.c 14 (ok_no) ?_
  refine hAllOk.c 15 (ok_no) ?_
  refine hAllOk.c 16 (ok_no) ?_
  refine hAllOk.c 17 (ok_no) ?_
  refine hAllOk.c 18 (ok_no) ?_
  refine hAllOk.c 19 (ok_no) ?_
  refine hAllOk.c 20 (ok_no) ?_
  refine hAllOk.c 21 (ok_no) ?_
  refine hAllOk.c 22 (ok_no) ?_
  refine hAllOk.c 23 (ok_no) ?_
  refine hAllOk.c 24 (ok_no) ?_
  refine hAllOk.c 25 (ok_no) ?_
  refine hAllOk.c 26 (ok_no) ?_
  refine hAllOk.c 27 (ok_no) ?_
  refine hAllOk.c 28 (ok_no) ?_
  refine hAllOk.c 29 (ok_no) ?_
  refine hAllOk.c 30 (ok_no) ?_
  refine hAllOk.c 31 (ok_no) ?_
  refine hAllOk.c 32 (ok_aload_n (f := 0) rfl (by decide +kernel) rfl) ?_
  refine hAllOk.c 33 (ok_callV (idx := 173) ⟨wd_t_289, wd_t_1, by decide +kernel, by decide +kernel⟩ rfl rfl wd_t_286 wd_t_288 wd_s_10 (by decide +kernel) rfl) ?_
  refine hAllOk.c 34 (ok_no) ?_
  refine hAllOk.c 35 (ok_no) ?_
  refine hAllOk.c 36 (ok_ireturn (by decide +kernel)) ?_
  refine hAllOk.c 37 (ok_aload_n (f := 0) rfl (by decide +kernel) rfl) ?_
  refine hAllOk.c 38 (ok_callV (idx := 129) ⟨wd_t_285, wd_t_1, by decide +kernel, by decide +kernel⟩ rfl rfl wd_t_282 wd_t_284 wd_s_9 (by decide +kernel) rfl) ?_
  refine hAllOk.c 39 (ok_no) ?_
  refine hAllOk.c 40 (ok_no) ?_
  refine hAllOk.c 41 (ok_ireturn (by decide +kernel)) ?_
  refine hAllOk.c 42 (ok_aload_n (f := 0) rfl (by decide +kernel) rfl) ?_
  refine hAllOk.c 43 (ok_getfield (idx := 12) (N := 8) (T := TX5) rfl inTb5 (by decide) rfl wd_t_194 (by decide +kernel) rfl) ?_
  refine hAllOk.c 44 (ok_no) ?_
  refine hAllOk.c 45 (ok_no) ?_
  refine hAllOk.c 46 (ok_aload_n (f := 0) rfl (by decide +kernel) rfl) ?_
  refine hAllOk.c 47 (ok_callV (idx := 173) ⟨wd_t_289, wd_t_1, by decide +kernel, by decide +kernel⟩ rfl rfl wd_t_286 wd_t_288 wd_s_10 (by decide +kernel) rfl) ?_
  refine hAllOk.c 48 (ok_no) ?_
  refine hAllOk.c 49 (ok_no) ?_
  refine hAllOk.c 50 (ok_callVN (idx := 176) ⟨wd_t_397, wd_t_2, by decide +kernel, by decide +kernel⟩ rfl rfl wd_n_394 wd_t_396 wd_s_25 (by decide +kernel) rfl) ?_
  refine hAllOk.c 51 (ok_no) ?_
  refine hAllOk.c 52 (ok_no) ?_
  refine hAllOk.c 53 (ok_ireturn (by decide +kernel)) ?_
  refine hAllOk.c 54 (ok_aload_n (f := 0) rfl (by decide +kernel) rfl) ?_
  refine hAllOk.c 55 (ok_getfield (idx := 12) (N := 8) (T := TX5) rfl inTb5 (by decide) rfl wd_t_194 (by decide +kernel) rfl) ?_
  refine hAllOk.c 56 (ok_no) ?_
  refine hAllOk.c 57 (ok_no) ?_
  refine hAllOk.c 58 (ok_getfieldN (idx := 57) (N := 10) (T := TX4) rfl inTb4 (by decide) rfl wd_n_84 (by decide +kernel) rfl) ?_
  refine hAllOk.c 59 (ok_no) ?_
  refine hAllOk.c 60 (ok_no) ?_
  refine hAllOk.c 61 (ok_ifeq (off := 13) (by decide +kernel) (by decide +kernel) rfl) ?_
  refine hAllOk.c 62 (ok_no) ?_
  refine hAllOk.c 63 (ok_no) ?_
  refine hAllOk.c 64 (ok_aload_n (f := 0) rfl (by decide +kernel) rfl) ?_
  refine hAllOk.c 65 (ok_getfield (idx := 12) (N := 8) (T := TX5) rfl inTb5 (by decide) rfl wd_t_194 (by decide +kernel) rfl) ?_
  refine hAllOk.c 66 (ok_no) ?_
  refine hAllOk.c 67 (ok_no) ?_
  refine hAllOk.c 68 (ok_getfieldN (idx := 135) (N := 10) (T := TX4) rfl inTb4 (by decide) rfl wd_n_86 (by decide +kernel) rfl) ?_
  refine hAllOk.c 69 (ok_no) ?_
  refine hAllOk.c 70 (ok_no) ?_
  refine hAllOk.c 71 (ok_goto (off := 5) (by decide +kernel) (by decide +kernel)) ?_
  refine hAllOk.c 72 (ok_no) ?_
  refine hAllOk.c 73 (ok_no) ?_
  refine hAllOk.c 74 (ok_bipush (n := -5) (by decide +kernel) (by decide +kernel) rfl) ?_
  refine hAllOk.c 75 (ok_no) ?_
  refine hAllOk.c 76 (ok_ireturn (by decide +kernel)) ?_
  refine hAllOk.c 77 (ok_bipush (n := -2) (by decide +kernel) (by decide +kernel) rfl) ?_
  refine hAllOk.c 78 (ok_no) ?_
  refine hAllOk.c 79 (ok_ireturn (by decide +kernel)) ?_
  trivial
def M_St_countParts : hM := (yX4_countParts, prog_6_method_11_code, 4, (some .int), 4, 93)
def code_St_countParts (K : hK) (B : Nat × Nat) (Q : hPost) : List hSem := [x_const 1 (0), x_istore 2 2, x_const 3 (0), x_istore 4 3, x_iload 5 3, x_iload 6 1, x_icgt 34 9, x_no, x_no, x_iload 10 3, x_iload 11 1, x_callS K 14 M_Pa_isPart 2, x_no, x_no, x_ifeq 28 17, x_no, x_no, x_aload 18 0, x_iload 19 3, x_callV K 22 M_St_isStable 4 1, x_no, x_no, x_ifeq 28 25, x_no, x_no, x_iinc 28 2 (1), x_no, x_no, x_iinc 31 3 (1), x_no, x_no, x_goto 4, x_no, x_no, x_iload 35 2, x_ireturn (some .int) Q]
set_option maxRecDepth 100000 in
set_option maxHeartbeats 4000000 in
theorem okc_St_countParts (K : hK) (B : Nat × Nat) (Q : hPost) : hAllOk (hJ K M_St_countParts B Q) 0 (code_St_countParts K B Q) := by
  refine hAllOk.c 0 (ok_iconst (n := 0) (by decide +kernel) (by decide +kernel) rfl) ?_
  refine hAllOk.c 1 (ok_istore_n (f := 2) rfl (by decide) (by decide +kernel) rfl) ?_
  refine hAllOk.c 2 (ok_iconst (n := 0) (by decide +kernel) (by decide +kernel) rfl) ?_
  refine hAllOk.c 3 (ok_istore_n (f := 3) rfl (by decide) (by decide +kernel) rfl) ?_
  refine hAllOk.c 4 (ok_iload_n (f := 3) rfl (by decide +kernel) rfl) ?_
  refine hAllOk.c 5 (ok_iload_n (f := 1) rfl (by decide +kernel) rfl) ?_
  refine hAllOk.c 6 (ok_icgt (off := 28) (by decide +kernel) (by decide +kernel) rfl) ?_
  refine hAllOk.c 7 (ok_no) ?_
  refine hAllOk.c 8 (ok_no) ?_
  refine hAllOk.c 9 (ok_iload_n (f := 3) rfl (by decide +kernel) rfl) ?_
  refine hAllOk.c 10 (ok_iload_n (f := 1) rfl (by decide +kernel) rfl) ?_
  refine hAllOk.c 11 (ok_callSN (idx := 100) ⟨wd_t_352, wd_t_1, by decide +kernel, by decide +kernel⟩ wd_n_350 wd_t_351 (by decide +kernel) rfl) ?_
  refine hAllOk.c 12 (ok_no) ?_
  refine hAllOk.c 13 (ok_no) ?_
  refine hAllOk.c 14 (ok_ifeq (off := 14) (by decide +kernel) (by decide +kernel) rfl) ?_
  refine hAllOk.c 15 (ok_no) ?_
  refine hAllOk.c 16 (ok_no) ?_
  refine hAllOk.c 17 (ok_aload_n (f := 0) rfl (by decide +kernel) rfl) ?_
  refine hAllOk.c 18 (ok_iload_n (f := 3) rfl (by decide +kernel) rfl) ?_
  refine hAllOk.c 19 (ok_callV (idx := 103) ⟨wd_t_366, wd_t_2, by decide +kernel, by decide +kernel⟩ rfl rfl wd_t_363 wd_t_365 wd_s_22 (by decide +kernel) rfl) ?_
  refine hAllOk.c 20 (ok_no) ?_
  refine hAllOk.c 21 (ok_no) ?_
  refine hAllOk.c 22 (ok_ifeq (off := 6) (by decide +kernel) (by decide +kernel) rfl) ?_
  refine hAllOk.c 23 (ok_no) ?_
  refine hAllOk.c 24 (ok_no) ?_
  refine hAllOk.c 25 (ok_iinc (n := 1) (by decide +kernel) (by decide) (by decide +kernel) rfl) ?_
  refine hAllOk.c 26 (ok_no) ?_
  refine hAllOk.c 27 (ok_no) ?_
  refine hAllOk.c 28 (ok_iinc (n := 1) (by decide +kernel) (by decide) (by decide +kernel) rfl) ?_
  refine hAllOk.c 29 (ok_no) ?_
  refine hAllOk.c 30 (ok_no) ?_
  refine hAllOk.c 31 (ok_goto (off := (-27)) (by decide +kernel) (by decide +kernel)) ?_
  refine hAllOk.c 32 (ok_no) ?_
  refine hAllOk.c 33 (ok_no) ?_
  refine hAllOk.c 34 (ok_iload_n (f := 2) rfl (by decide +kernel) rfl) ?_
  refine hAllOk.c 35 (ok_ireturn (by decide +kernel)) ?_
  trivial
theorem wd_n_402 : Cond.methodLinkNest RX5 179 yX4_countParts "StableParty" ∈ tables_1 := List.mem_of_getElem? (i := 402) (by decide +kernel)
theorem wd_t_405 : Cond.code yX4_countParts prog_6_method_11_code 4 (some .int) ∈ hTb := hTb_t (List.mem_of_getElem? (i := 405) (by decide +kernel)) (by decide +kernel)
theorem wd_t_404 : Cond.instanceMethod yX4_countParts ∈ hTb := hTb_t (List.mem_of_getElem? (i := 404) (by decide +kernel)) (by decide +kernel)
theorem wd_s_26 : Cond.selects RX4 yX4_countParts yX4_countParts ∈ hTb := hTb_s (List.mem_of_getElem? (i := 26) (by decide +kernel)) (by decide +kernel)
def M_Pa_companies : hM := (yX5_companies, prog_1_method_22_code, 1, (some .int), 7, 162)
def code_Pa_companies (K : hK) (B : Nat × Nat) (Q : hPost) : List hSem := [x_aload 1 0, x_getfield 4 5 0, x_no, x_no, x_aload 5 0, x_callV K 8 M_Pa_findGreatest 5 0, x_no, x_no, x_callV K 11 M_St_countParts 4 1, x_no, x_no, x_ireturn (some .int) Q]
set_option maxRecDepth 100000 in
set_option maxHeartbeats 4000000 in
theorem okc_Pa_companies (K : hK) (B : Nat × Nat) (Q : hPost) : hAllOk (hJ K M_Pa_companies B Q) 0 (code_Pa_companies K B Q) := by
  refine hAllOk.c 0 (ok_aload_n (f := 0) rfl (by decide +kernel) rfl) ?_
  refine hAllOk.c 1 (ok_getfield (idx := 12) (N := 8) (T := TX5) rfl inTb5 (by decide) rfl wd_t_194 (by decide +kernel) rfl) ?_
  refine hAllOk.c 2 (ok_no) ?_
  refine hAllOk.c 3 (ok_no) ?_
  refine hAllOk.c 4 (ok_aload_n (f := 0) rfl (by decide +kernel) rfl) ?_
  refine hAllOk.c 5 (ok_callV (idx := 173) ⟨wd_t_289, wd_t_1, by decide +kernel, by decide +kernel⟩ rfl rfl wd_t_286 wd_t_288 wd_s_10 (by decide +kernel) rfl) ?_
  refine hAllOk.c 6 (ok_no) ?_
  refine hAllOk.c 7 (ok_no) ?_
  refine hAllOk.c 8 (ok_callVN (idx := 179) ⟨wd_t_405, wd_t_2, by decide +kernel, by decide +kernel⟩ rfl rfl wd_n_402 wd_t_404 wd_s_26 (by decide +kernel) rfl) ?_
  refine hAllOk.c 9 (ok_no) ?_
  refine hAllOk.c 10 (ok_no) ?_
  refine hAllOk.c 11 (ok_ireturn (by decide +kernel)) ?_
  trivial
theorem wd_n_173 : Cond.fieldLinkNest RX5 184 RX3 "lastRound" "I" "StableParty" ∈ tables_1 := List.mem_of_getElem? (i := 173) (by decide +kernel)
def M_Pa_rounds : hM := (yX5_rounds, prog_1_method_24_code, 1, (some .int), 7, 162)
def code_Pa_rounds (K : hK) (B : Nat × Nat) (Q : hPost) : List hSem := [x_aload 1 0, x_callV K 4 M_Pa_findGreatest 5 0, x_no, x_no, x_pop 5, x_aload 6 0, x_getfield 9 5 7, x_no, x_no, x_getfield 12 3 1, x_no, x_no, x_ireturn (some .int) Q]
set_option maxRecDepth 100000 in
set_option maxHeartbeats 4000000 in
theorem okc_Pa_rounds (K : hK) (B : Nat × Nat) (Q : hPost) : hAllOk (hJ K M_Pa_rounds B Q) 0 (code_Pa_rounds K B Q) := by
  refine hAllOk.c 0 (ok_aload_n (f := 0) rfl (by decide +kernel) rfl) ?_
  refine hAllOk.c 1 (ok_callV (idx := 173) ⟨wd_t_289, wd_t_1, by decide +kernel, by decide +kernel⟩ rfl rfl wd_t_286 wd_t_288 wd_s_10 (by decide +kernel) rfl) ?_
  refine hAllOk.c 2 (ok_no) ?_
  refine hAllOk.c 3 (ok_no) ?_
  refine hAllOk.c 4 (ok_pop (by decide +kernel) rfl) ?_
  refine hAllOk.c 5 (ok_aload_n (f := 0) rfl (by decide +kernel) rfl) ?_
  refine hAllOk.c 6 (ok_getfield (idx := 48) (N := 8) (T := TX5) rfl inTb5 (by decide) rfl wd_t_201 (by decide +kernel) rfl) ?_
  refine hAllOk.c 7 (ok_no) ?_
  refine hAllOk.c 8 (ok_no) ?_
  refine hAllOk.c 9 (ok_getfieldN (idx := 184) (N := 7) (T := TX3) rfl inTb3 (by decide) rfl wd_n_173 (by decide +kernel) rfl) ?_
  refine hAllOk.c 10 (ok_no) ?_
  refine hAllOk.c 11 (ok_no) ?_
  refine hAllOk.c 12 (ok_ireturn (by decide +kernel)) ?_
  trivial
def M_Hi_moveOldestBehind : hM := (yX1_moveOldestBehind, prog_3_method_4_code, 3, none, 0, 0)
def code_Hi_moveOldestBehind (K : hK) (B : Nat × Nat) (Q : hPost) : List hSem := [x_aload 1 0, x_getfield 4 1 0, x_no, x_no, x_const 5 (0), x_aaload K 6 4, x_astore 7 1, x_const 8 (1), x_istore 9 2, x_iload 10 2, x_const 11 (4), x_icge 34 14, x_no, x_no, x_aload 15 0, x_getfield 18 1 0, x_no, x_no, x_iload 19 2, x_const 20 (1), x_isub 21, x_aload 22 0, x_getfield 25 1 0, x_no, x_no, x_iload 26 2, x_aaload K 27 4, x_aastore K 28 4, x_iinc 31 2 (1), x_no, x_no, x_goto 9, x_no, x_no, x_aload 35 0, x_getfield 38 1 0, x_no, x_no, x_const 39 (3), x_aload 40 1, x_aastore K 41 4, x_return Q]
set_option maxRecDepth 100000 in
set_option maxHeartbeats 4000000 in
theorem okc_Hi_moveOldestBehind (K : hK) (B : Nat × Nat) (Q : hPost) : hAllOk (hJ K M_Hi_moveOldestBehind B Q) 0 (code_Hi_moveOldestBehind K B Q) := by
  refine hAllOk.c 0 (ok_aload_n (f := 0) rfl (by decide +kernel) rfl) ?_
  refine hAllOk.c 1 (ok_getfield (idx := 11) (N := 2) (T := TX1) rfl inTb1 (by decide) rfl wd_t_124 (by decide +kernel) rfl) ?_
  refine hAllOk.c 2 (ok_no) ?_
  refine hAllOk.c 3 (ok_no) ?_
  refine hAllOk.c 4 (ok_iconst (n := 0) (by decide +kernel) (by decide +kernel) rfl) ?_
  refine hAllOk.c 5 (ok_aaload (by decide) (by decide +kernel) rfl) ?_
  refine hAllOk.c 6 (ok_astore_n (f := 1) rfl (by decide) (by decide +kernel) rfl) ?_
  refine hAllOk.c 7 (ok_iconst (n := 1) (by decide +kernel) (by decide +kernel) rfl) ?_
  refine hAllOk.c 8 (ok_istore_n (f := 2) rfl (by decide) (by decide +kernel) rfl) ?_
  refine hAllOk.c 9 (ok_iload_n (f := 2) rfl (by decide +kernel) rfl) ?_
  refine hAllOk.c 10 (ok_iconst (n := 4) (by decide +kernel) (by decide +kernel) rfl) ?_
  refine hAllOk.c 11 (ok_icge (off := 23) (by decide +kernel) (by decide +kernel) rfl) ?_
  refine hAllOk.c 12 (ok_no) ?_
  refine hAllOk.c 13 (ok_no) ?_
  refine hAllOk.c 14 (ok_aload_n (f := 0) rfl (by decide +kernel) rfl) ?_
  refine hAllOk.c 15 (ok_getfield (idx := 11) (N := 2) (T := TX1) rfl inTb1 (by decide) rfl wd_t_124 (by decide +kernel) rfl) ?_
  refine hAllOk.c 16 (ok_no) ?_
  refine hAllOk.c 17 (ok_no) ?_
  refine hAllOk.c 18 (ok_iload_n (f := 2) rfl (by decide +kernel) rfl) ?_
  refine hAllOk.c 19 (ok_iconst (n := 1) (by decide +kernel) (by decide +kernel) rfl) ?_
  refine hAllOk.c 20 (ok_isub (by decide +kernel) rfl) ?_
  refine hAllOk.c 21 (ok_aload_n (f := 0) rfl (by decide +kernel) rfl) ?_
  refine hAllOk.c 22 (ok_getfield (idx := 11) (N := 2) (T := TX1) rfl inTb1 (by decide) rfl wd_t_124 (by decide +kernel) rfl) ?_
  refine hAllOk.c 23 (ok_no) ?_
  refine hAllOk.c 24 (ok_no) ?_
  refine hAllOk.c 25 (ok_iload_n (f := 2) rfl (by decide +kernel) rfl) ?_
  refine hAllOk.c 26 (ok_aaload (by decide) (by decide +kernel) rfl) ?_
  refine hAllOk.c 27 (ok_aastore (by decide) (by decide +kernel) rfl) ?_
  refine hAllOk.c 28 (ok_iinc (n := 1) (by decide +kernel) (by decide) (by decide +kernel) rfl) ?_
  refine hAllOk.c 29 (ok_no) ?_
  refine hAllOk.c 30 (ok_no) ?_
  refine hAllOk.c 31 (ok_goto (off := (-22)) (by decide +kernel) (by decide +kernel)) ?_
  refine hAllOk.c 32 (ok_no) ?_
  refine hAllOk.c 33 (ok_no) ?_
  refine hAllOk.c 34 (ok_aload_n (f := 0) rfl (by decide +kernel) rfl) ?_
  refine hAllOk.c 35 (ok_getfield (idx := 11) (N := 2) (T := TX1) rfl inTb1 (by decide) rfl wd_t_124 (by decide +kernel) rfl) ?_
  refine hAllOk.c 36 (ok_no) ?_
  refine hAllOk.c 37 (ok_no) ?_
  refine hAllOk.c 38 (ok_iconst (n := 3) (by decide +kernel) (by decide +kernel) rfl) ?_
  refine hAllOk.c 39 (ok_aload_n (f := 1) rfl (by decide +kernel) rfl) ?_
  refine hAllOk.c 40 (ok_aastore (by decide) (by decide +kernel) rfl) ?_
  refine hAllOk.c 41 (ok_return rfl (by decide +kernel)) ?_
  trivial
def M_Hi_at : hM := (yX1_at, prog_3_method_5_code, 2, (some (.object "StableParty$State")), 0, 0)
def code_Hi_at (K : hK) (B : Nat × Nat) (Q : hPost) : List hSem := [x_iload 1 1, x_iflt 22 4, x_no, x_no, x_iload 5 1, x_aload 6 0, x_getfield 9 1 0, x_no, x_no, x_alen K 10, x_icge 22 13, x_no, x_no, x_aload 14 0, x_getfield 17 1 0, x_no, x_no, x_iload 18 1, x_aaload K 19 4, x_goto 23, x_no, x_no, x_null 23, x_areturn Q]
set_option maxRecDepth 100000 in
set_option maxHeartbeats 4000000 in
theorem okc_Hi_at (K : hK) (B : Nat × Nat) (Q : hPost) : hAllOk (hJ K M_Hi_at B Q) 0 (code_Hi_at K B Q) := by
  refine hAllOk.c 0 (ok_iload_n (f := 1) rfl (by decide +kernel) rfl) ?_
  refine hAllOk.c 1 (ok_iflt (off := 21) (by decide +kernel) (by decide +kernel) rfl) ?_
  refine hAllOk.c 2 (ok_no) ?_
  refine hAllOk.c 3 (ok_no) ?_
  refine hAllOk.c 4 (ok_iload_n (f := 1) rfl (by decide +kernel) rfl) ?_
  refine hAllOk.c 5 (ok_aload_n (f := 0) rfl (by decide +kernel) rfl) ?_
  refine hAllOk.c 6 (ok_getfield (idx := 11) (N := 2) (T := TX1) rfl inTb1 (by decide) rfl wd_t_124 (by decide +kernel) rfl) ?_
  refine hAllOk.c 7 (ok_no) ?_
  refine hAllOk.c 8 (ok_no) ?_
  refine hAllOk.c 9 (ok_alen (by decide +kernel) rfl) ?_
  refine hAllOk.c 10 (ok_icge (off := 12) (by decide +kernel) (by decide +kernel) rfl) ?_
  refine hAllOk.c 11 (ok_no) ?_
  refine hAllOk.c 12 (ok_no) ?_
  refine hAllOk.c 13 (ok_aload_n (f := 0) rfl (by decide +kernel) rfl) ?_
  refine hAllOk.c 14 (ok_getfield (idx := 11) (N := 2) (T := TX1) rfl inTb1 (by decide) rfl wd_t_124 (by decide +kernel) rfl) ?_
  refine hAllOk.c 15 (ok_no) ?_
  refine hAllOk.c 16 (ok_no) ?_
  refine hAllOk.c 17 (ok_iload_n (f := 1) rfl (by decide +kernel) rfl) ?_
  refine hAllOk.c 18 (ok_aaload (by decide) (by decide +kernel) rfl) ?_
  refine hAllOk.c 19 (ok_goto (off := 4) (by decide +kernel) (by decide +kernel)) ?_
  refine hAllOk.c 20 (ok_no) ?_
  refine hAllOk.c 21 (ok_no) ?_
  refine hAllOk.c 22 (ok_null (by decide +kernel) rfl) ?_
  refine hAllOk.c 23 (ok_areturn rfl (by decide +kernel)) ?_
  trivial
theorem wd_t_47 : Cond.fieldLink RX0 33 RX0 "letters" "I" ∈ hTb := hTb_t (List.mem_of_getElem? (i := 47) (by decide +kernel)) (by decide +kernel)
def M_Gu_copyCondition : hM := (yX0_copyCondition, prog_2_method_6_code, 5, none, 0, 0)
def code_Gu_copyCondition (K : hK) (B : Nat × Nat) (Q : hPost) : List hSem := [x_aload 1 0, x_iload 2 1, x_putfield 5 0 7 (.int), x_no, x_no, x_aload 6 0, x_iload 7 3, x_putfield 10 0 8 (.int), x_no, x_no, x_const 11 (0), x_istore 13 4, x_no, x_iload 15 4, x_no, x_iload 16 3, x_icge 53 19, x_no, x_no, x_iload 21 4, x_no, x_aload 22 2, x_alen K 23, x_icge 53 26, x_no, x_no, x_iload 28 4, x_no, x_aload 29 0, x_getfield 32 0 9, x_no, x_no, x_alen K 33, x_icge 53 36, x_no, x_no, x_aload 37 0, x_getfield 40 0 9, x_no, x_no, x_iload 42 4, x_no, x_aload 43 2, x_iload 45 4, x_no, x_iaload K 46, x_iastore K 47, x_iinc 50 4 (1), x_no, x_no, x_goto 13, x_no, x_no, x_return Q]
set_option maxRecDepth 100000 in
set_option maxHeartbeats 4000000 in
theorem okc_Gu_copyCondition (K : hK) (B : Nat × Nat) (Q : hPost) : hAllOk (hJ K M_Gu_copyCondition B Q) 0 (code_Gu_copyCondition K B Q) := by
  refine hAllOk.c 0 (ok_aload_n (f := 0) rfl (by decide +kernel) rfl) ?_
  refine hAllOk.c 1 (ok_iload_n (f := 1) rfl (by decide +kernel) rfl) ?_
  refine hAllOk.c 2 (ok_putfield (idx := 33) (N := 10) (T := TX0) tyX0_ok nmX0 rfl rfl inTb0 (by decide) rfl rfl wd_t_47 (by decide +kernel) rfl) ?_
  refine hAllOk.c 3 (ok_no) ?_
  refine hAllOk.c 4 (ok_no) ?_
  refine hAllOk.c 5 (ok_aload_n (f := 0) rfl (by decide +kernel) rfl) ?_
  refine hAllOk.c 6 (ok_iload_n (f := 3) rfl (by decide +kernel) rfl) ?_
  refine hAllOk.c 7 (ok_putfield (idx := 45) (N := 10) (T := TX0) tyX0_ok nmX0 rfl rfl inTb0 (by decide) rfl rfl wd_t_50 (by decide +kernel) rfl) ?_
  refine hAllOk.c 8 (ok_no) ?_
  refine hAllOk.c 9 (ok_no) ?_
  refine hAllOk.c 10 (ok_iconst (n := 0) (by decide +kernel) (by decide +kernel) rfl) ?_
  refine hAllOk.c 11 (ok_istore (by decide) (by decide +kernel) rfl) ?_
  refine hAllOk.c 12 (ok_no) ?_
  refine hAllOk.c 13 (ok_iload (by decide +kernel) rfl) ?_
  refine hAllOk.c 14 (ok_no) ?_
  refine hAllOk.c 15 (ok_iload_n (f := 3) rfl (by decide +kernel) rfl) ?_
  refine hAllOk.c 16 (ok_icge (off := 37) (by decide +kernel) (by decide +kernel) rfl) ?_
  refine hAllOk.c 17 (ok_no) ?_
  refine hAllOk.c 18 (ok_no) ?_
  refine hAllOk.c 19 (ok_iload (by decide +kernel) rfl) ?_
  refine hAllOk.c 20 (ok_no) ?_
  refine hAllOk.c 21 (ok_aload_n (f := 2) rfl (by decide +kernel) rfl) ?_
  refine hAllOk.c 22 (ok_alen (by decide +kernel) rfl) ?_
  refine hAllOk.c 23 (ok_icge (off := 30) (by decide +kernel) (by decide +kernel) rfl) ?_
  refine hAllOk.c 24 (ok_no) ?_
  refine hAllOk.c 25 (ok_no) ?_
  refine hAllOk.c 26 (ok_iload (by decide +kernel) rfl) ?_
  refine hAllOk.c 27 (ok_no) ?_
  refine hAllOk.c 28 (ok_aload_n (f := 0) rfl (by decide +kernel) rfl) ?_
  refine hAllOk.c 29 (ok_getfield (idx := 9) (N := 10) (T := TX0) rfl inTb0 (by decide) rfl wd_t_51 (by decide +kernel) rfl) ?_
  refine hAllOk.c 30 (ok_no) ?_
  refine hAllOk.c 31 (ok_no) ?_
  refine hAllOk.c 32 (ok_alen (by decide +kernel) rfl) ?_
  refine hAllOk.c 33 (ok_icge (off := 20) (by decide +kernel) (by decide +kernel) rfl) ?_
  refine hAllOk.c 34 (ok_no) ?_
  refine hAllOk.c 35 (ok_no) ?_
  refine hAllOk.c 36 (ok_aload_n (f := 0) rfl (by decide +kernel) rfl) ?_
  refine hAllOk.c 37 (ok_getfield (idx := 9) (N := 10) (T := TX0) rfl inTb0 (by decide) rfl wd_t_51 (by decide +kernel) rfl) ?_
  refine hAllOk.c 38 (ok_no) ?_
  refine hAllOk.c 39 (ok_no) ?_
  refine hAllOk.c 40 (ok_iload (by decide +kernel) rfl) ?_
  refine hAllOk.c 41 (ok_no) ?_
  refine hAllOk.c 42 (ok_aload_n (f := 2) rfl (by decide +kernel) rfl) ?_
  refine hAllOk.c 43 (ok_iload (by decide +kernel) rfl) ?_
  refine hAllOk.c 44 (ok_no) ?_
  refine hAllOk.c 45 (ok_iaload (by decide +kernel) rfl) ?_
  refine hAllOk.c 46 (ok_iastore (by decide +kernel) rfl) ?_
  refine hAllOk.c 47 (ok_iinc (n := 1) (by decide +kernel) (by decide) (by decide +kernel) rfl) ?_
  refine hAllOk.c 48 (ok_no) ?_
  refine hAllOk.c 49 (ok_no) ?_
  refine hAllOk.c 50 (ok_goto (off := (-37)) (by decide +kernel) (by decide +kernel)) ?_
  refine hAllOk.c 51 (ok_no) ?_
  refine hAllOk.c 52 (ok_no) ?_
  refine hAllOk.c 53 (ok_return rfl (by decide +kernel)) ?_
  trivial
theorem wd_t_29 : Cond.fieldLink RX0 15 RX0 "limit" "I" ∈ hTb := hTb_t (List.mem_of_getElem? (i := 29) (by decide +kernel)) (by decide +kernel)
theorem wd_t_33 : Cond.fieldLink RX0 19 RX0 "weight" "I" ∈ hTb := hTb_t (List.mem_of_getElem? (i := 33) (by decide +kernel)) (by decide +kernel)
theorem wd_t_36 : Cond.fieldLink RX0 22 RX0 "invited" "Z" ∈ hTb := hTb_t (List.mem_of_getElem? (i := 36) (by decide +kernel)) (by decide +kernel)
theorem wd_t_39 : Cond.fieldLink RX0 30 RX0 "charges" "I" ∈ hTb := hTb_t (List.mem_of_getElem? (i := 39) (by decide +kernel)) (by decide +kernel)
theorem wd_t_41 : Cond.fieldLink RX0 36 RX0 "paid" "I" ∈ hTb := hTb_t (List.mem_of_getElem? (i := 41) (by decide +kernel)) (by decide +kernel)
theorem wd_t_43 : Cond.fieldLink RX0 39 RX0 "gotBack" "I" ∈ hTb := hTb_t (List.mem_of_getElem? (i := 43) (by decide +kernel)) (by decide +kernel)
theorem wd_t_45 : Cond.fieldLink RX0 42 RX0 "seat" "I" ∈ hTb := hTb_t (List.mem_of_getElem? (i := 45) (by decide +kernel)) (by decide +kernel)
theorem wd_t_251 : Cond.methodLink RX0 52 yX0_copyCondition ∈ hTb := hTb_t (List.mem_of_getElem? (i := 251) (by decide +kernel)) (by decide +kernel)
theorem wd_t_254 : Cond.code yX0_copyCondition prog_2_method_6_code 5 none ∈ hTb := hTb_t (List.mem_of_getElem? (i := 254) (by decide +kernel)) (by decide +kernel)
theorem wd_t_253 : Cond.instanceMethod yX0_copyCondition ∈ hTb := hTb_t (List.mem_of_getElem? (i := 253) (by decide +kernel)) (by decide +kernel)
theorem wd_s_6 : Cond.selects RX0 yX0_copyCondition yX0_copyCondition ∈ hTb := hTb_s (List.mem_of_getElem? (i := 6) (by decide +kernel)) (by decide +kernel)
def M_Gu_copyFrom : hM := (yX0_copyFrom, prog_2_method_4_code, 2, none, 1, 24)
def code_Gu_copyFrom (K : hK) (B : Nat × Nat) (Q : hPost) : List hSem := [x_aload 1 0, x_aload 2 1, x_getfield 5 0 0, x_no, x_no, x_putfield 8 0 0 (.int), x_no, x_no, x_aload 9 0, x_aload 10 1, x_getfield 13 0 1, x_no, x_no, x_putfield 16 0 1 (.int), x_no, x_no, x_aload 17 0, x_aload 18 1, x_getfield 21 0 2, x_no, x_no, x_putfield 24 0 2 (.boolean), x_no, x_no, x_aload 25 0, x_aload 26 1, x_getfield 29 0 3, x_no, x_no, x_putfield 32 0 3 (.int), x_no, x_no, x_aload 33 0, x_aload 34 1, x_getfield 37 0 4, x_no, x_no, x_putfield 40 0 4 (.int), x_no, x_no, x_aload 41 0, x_aload 42 1, x_getfield 45 0 5, x_no, x_no, x_putfield 48 0 5 (.int), x_no, x_no, x_aload 49 0, x_aload 50 1, x_getfield 53 0 6, x_no, x_no, x_putfield 56 0 6 (.int), x_no, x_no, x_aload 57 0, x_aload 58 1, x_getfield 61 0 7, x_no, x_no, x_aload 62 1, x_getfield 65 0 9, x_no, x_no, x_aload 66 1, x_getfield 69 0 8, x_no, x_no, x_callV K 72 M_Gu_copyCondition 0 3, x_no, x_no, x_return Q]
set_option maxRecDepth 100000 in
set_option maxHeartbeats 4000000 in
theorem okc_Gu_copyFrom (K : hK) (B : Nat × Nat) (Q : hPost) : hAllOk (hJ K M_Gu_copyFrom B Q) 0 (code_Gu_copyFrom K B Q) := by
  refine hAllOk.c 0 (ok_aload_n (f := 0) rfl (by decide +kernel) rfl) ?_
  refine hAllOk.c 1 (ok_aload_n (f := 1) rfl (by decide +kernel) rfl) ?_
  refine hAllOk.c 2 (ok_getfield (idx := 15) (N := 10) (T := TX0) rfl inTb0 (by decide) rfl wd_t_29 (by decide +kernel) rfl) ?_
  refine hAllOk.c 3 (ok_no) ?_
  refine hAllOk.c 4 (ok_no) ?_
  refine hAllOk.c 5 (ok_putfield (idx := 15) (N := 10) (T := TX0) tyX0_ok nmX0 rfl rfl inTb0 (by decide) rfl rfl wd_t_29 (by decide +kernel) rfl) ?_
  refine hAllOk.c 6 (ok_no) ?_
  refine hAllOk.c 7 (ok_no) ?_
  refine hAllOk.c 8 (ok_aload_n (f := 0) rfl (by decide +kernel) rfl) ?_
  refine hAllOk.c 9 (ok_aload_n (f := 1) rfl (by decide +kernel) rfl) ?_
  refine hAllOk.c 10 (ok_getfield (idx := 19) (N := 10) (T := TX0) rfl inTb0 (by decide) rfl wd_t_33 (by decide +kernel) rfl) ?_
  refine hAllOk.c 11 (ok_no) ?_
  refine hAllOk.c 12 (ok_no) ?_
  refine hAllOk.c 13 (ok_putfield (idx := 19) (N := 10) (T := TX0) tyX0_ok nmX0 rfl rfl inTb0 (by decide) rfl rfl wd_t_33 (by decide +kernel) rfl) ?_
  refine hAllOk.c 14 (ok_no) ?_
  refine hAllOk.c 15 (ok_no) ?_
  refine hAllOk.c 16 (ok_aload_n (f := 0) rfl (by decide +kernel) rfl) ?_
  refine hAllOk.c 17 (ok_aload_n (f := 1) rfl (by decide +kernel) rfl) ?_
  refine hAllOk.c 18 (ok_getfield (idx := 22) (N := 10) (T := TX0) rfl inTb0 (by decide) rfl wd_t_36 (by decide +kernel) rfl) ?_
  refine hAllOk.c 19 (ok_no) ?_
  refine hAllOk.c 20 (ok_no) ?_
  refine hAllOk.c 21 (ok_putfield (idx := 22) (N := 10) (T := TX0) tyX0_ok nmX0 rfl rfl inTb0 (by decide) rfl rfl wd_t_36 (by decide +kernel) rfl) ?_
  refine hAllOk.c 22 (ok_no) ?_
  refine hAllOk.c 23 (ok_no) ?_
  refine hAllOk.c 24 (ok_aload_n (f := 0) rfl (by decide +kernel) rfl) ?_
  refine hAllOk.c 25 (ok_aload_n (f := 1) rfl (by decide +kernel) rfl) ?_
  refine hAllOk.c 26 (ok_getfield (idx := 30) (N := 10) (T := TX0) rfl inTb0 (by decide) rfl wd_t_39 (by decide +kernel) rfl) ?_
  refine hAllOk.c 27 (ok_no) ?_
  refine hAllOk.c 28 (ok_no) ?_
  refine hAllOk.c 29 (ok_putfield (idx := 30) (N := 10) (T := TX0) tyX0_ok nmX0 rfl rfl inTb0 (by decide) rfl rfl wd_t_39 (by decide +kernel) rfl) ?_
  refine hAllOk.c 30 (ok_no) ?_
  refine hAllOk.c 31 (ok_no) ?_
  refine hAllOk.c 32 (ok_aload_n (f := 0) rfl (by decide +kernel) rfl) ?_
  refine hAllOk.c 33 (ok_aload_n (f := 1) rfl (by decide +kernel) rfl) ?_
  refine hAllOk.c 34 (ok_getfield (idx := 36) (N := 10) (T := TX0) rfl inTb0 (by decide) rfl wd_t_41 (by decide +kernel) rfl) ?_
  refine hAllOk.c 35 (ok_no) ?_
  refine hAllOk.c 36 (ok_no) ?_
  refine hAllOk.c 37 (ok_putfield (idx := 36) (N := 10) (T := TX0) tyX0_ok nmX0 rfl rfl inTb0 (by decide) rfl rfl wd_t_41 (by decide +kernel) rfl) ?_
  refine hAllOk.c 38 (ok_no) ?_
  refine hAllOk.c 39 (ok_no) ?_
  refine hAllOk.c 40 (ok_aload_n (f := 0) rfl (by decide +kernel) rfl) ?_
  refine hAllOk.c 41 (ok_aload_n (f := 1) rfl (by decide +kernel) rfl) ?_
  refine hAllOk.c 42 (ok_getfield (idx := 39) (N := 10) (T := TX0) rfl inTb0 (by decide) rfl wd_t_43 (by decide +kernel) rfl) ?_
  refine hAllOk.c 43 (ok_no) ?_
  refine hAllOk.c 44 (ok_no) ?_
  refine hAllOk.c 45 (ok_putfield (idx := 39) (N := 10) (T := TX0) tyX0_ok nmX0 rfl rfl inTb0 (by decide) rfl rfl wd_t_43 (by decide +kernel) rfl) ?_
  refine hAllOk.c 46 (ok_no) ?_
  refine hAllOk.c 47 (ok_no) ?_
  refine hAllOk.c 48 (ok_aload_n (f := 0) rfl (by decide +kernel) rfl) ?_
  refine hAllOk.c 49 (ok_aload_n (f := 1) rfl (by decide +kernel) rfl) ?_
  refine hAllOk.c 50 (ok_getfield (idx := 42) (N := 10) (T := TX0) rfl inTb0 (by decide) rfl wd_t_45 (by decide +kernel) rfl) ?_
  refine hAllOk.c 51 (ok_no) ?_
  refine hAllOk.c 52 (ok_no) ?_
  refine hAllOk.c 53 (ok_putfield (idx := 42) (N := 10) (T := TX0) tyX0_ok nmX0 rfl rfl inTb0 (by decide) rfl rfl wd_t_45 (by decide +kernel) rfl) ?_
  refine hAllOk.c 54 (ok_no) ?_
  refine hAllOk.c 55 (ok_no) ?_
  refine hAllOk.c 56 (ok_aload_n (f := 0) rfl (by decide +kernel) rfl) ?_
  refine hAllOk.c 57 (ok_aload_n (f := 1) rfl (by decide +kernel) rfl) ?_
  refine hAllOk.c 58 (ok_getfield (idx := 33) (N := 10) (T := TX0) rfl inTb0 (by decide) rfl wd_t_47 (by decide +kernel) rfl) ?_
  refine hAllOk.c 59 (ok_no) ?_
  refine hAllOk.c 60 (ok_no) ?_
  refine hAllOk.c 61 (ok_aload_n (f := 1) rfl (by decide +kernel) rfl) ?_
  refine hAllOk.c 62 (ok_getfield (idx := 9) (N := 10) (T := TX0) rfl inTb0 (by decide) rfl wd_t_51 (by decide +kernel) rfl) ?_
  refine hAllOk.c 63 (ok_no) ?_
  refine hAllOk.c 64 (ok_no) ?_
  refine hAllOk.c 65 (ok_aload_n (f := 1) rfl (by decide +kernel) rfl) ?_
  refine hAllOk.c 66 (ok_getfield (idx := 45) (N := 10) (T := TX0) rfl inTb0 (by decide) rfl wd_t_50 (by decide +kernel) rfl) ?_
  refine hAllOk.c 67 (ok_no) ?_
  refine hAllOk.c 68 (ok_no) ?_
  refine hAllOk.c 69 (ok_callV (idx := 52) ⟨wd_t_254, wd_t_3, by decide +kernel, by decide +kernel⟩ rfl rfl wd_t_251 wd_t_253 wd_s_6 (by decide +kernel) rfl) ?_
  refine hAllOk.c 70 (ok_no) ?_
  refine hAllOk.c 71 (ok_no) ?_
  refine hAllOk.c 72 (ok_return rfl (by decide +kernel)) ?_
  trivial
theorem wd_n_247 : Cond.methodLinkNest RX4 55 yX0_copyFrom "StableParty" ∈ tables_1 := List.mem_of_getElem? (i := 247) (by decide +kernel)
theorem wd_t_250 : Cond.code yX0_copyFrom prog_2_method_4_code 2 none ∈ hTb := hTb_t (List.mem_of_getElem? (i := 250) (by decide +kernel)) (by decide +kernel)
theorem wd_t_249 : Cond.instanceMethod yX0_copyFrom ∈ hTb := hTb_t (List.mem_of_getElem? (i := 249) (by decide +kernel)) (by decide +kernel)
theorem wd_s_5 : Cond.selects RX0 yX0_copyFrom yX0_copyFrom ∈ hTb := hTb_s (List.mem_of_getElem? (i := 5) (by decide +kernel)) (by decide +kernel)
def M_St_copyFrom : hM := (yX4_copyFrom, prog_6_method_2_code, 5, none, 2, 45)
def code_St_copyFrom (K : hK) (B : Nat × Nat) (Q : hPost) : List hSem := [x_aload 1 0, x_aload 2 1, x_getfield 5 4 1, x_no, x_no, x_putfield 8 4 1 (.int), x_no, x_no, x_const 9 (0), x_istore 10 2, x_iload 11 2, x_const 13 (12), x_no, x_icge 50 16, x_no, x_no, x_aload 17 0, x_iload 18 2, x_callV K 21 M_St_find 4 1, x_no, x_no, x_astore 22 3, x_aload 23 1, x_iload 24 2, x_callV K 27 M_St_find 4 1, x_no, x_no, x_astore 29 4, x_no, x_aload 30 3, x_ifnull 44 33, x_no, x_no, x_aload 35 4, x_no, x_ifnull 44 38, x_no, x_no, x_aload 39 3, x_aload 41 4, x_no, x_callV K 44 M_Gu_copyFrom 0 1, x_no, x_no, x_iinc 47 2 (1), x_no, x_no, x_goto 10, x_no, x_no, x_const 51 (0), x_istore 52 2, x_iload 53 2, x_const 54 (5), x_icge 75 57, x_no, x_no, x_aload 58 0, x_getfield 61 4 2, x_no, x_no, x_iload 62 2, x_aload 63 1, x_getfield 66 4 2, x_no, x_no, x_iload 67 2, x_iaload K 68, x_iastore K 69, x_iinc 72 2 (1), x_no, x_no, x_goto 52, x_no, x_no, x_aload 76 0, x_aload 77 1, x_getfield 80 4 3, x_no, x_no, x_putfield 83 4 3 (.int), x_no, x_no, x_aload 84 0, x_aload 85 1, x_getfield 88 4 4, x_no, x_no, x_putfield 91 4 4 (.boolean), x_no, x_no, x_aload 92 0, x_aload 93 1, x_getfield 96 4 5, x_no, x_no, x_putfield 99 4 5 (.int), x_no, x_no, x_aload 100 0, x_aload 101 1, x_getfield 104 4 6, x_no, x_no, x_putfield 107 4 6 (.int), x_no, x_no, x_aload 108 0, x_aload 109 1, x_getfield 112 4 7, x_no, x_no, x_putfield 115 4 7 (.int), x_no, x_no, x_aload 116 0, x_aload 117 1, x_getfield 120 4 8, x_no, x_no, x_putfield 123 4 8 (.int), x_no, x_no, x_aload 124 0, x_aload 125 1, x_getfield 128 4 9, x_no, x_no, x_putfield 131 4 9 (.int), x_no, x_no, x_return Q]
set_option maxRecDepth 100000 in
set_option maxHeartbeats 4000000 in
theorem okc_St_copyFrom (K : hK) (B : Nat × Nat) (Q : hPost) : hAllOk (hJ K M_St_copyFrom B Q) 0 (code_St_copyFrom K B Q) := by
  refine hAllOk.c 0 (ok_aload_n (f := 0) rfl (by decide +kernel) rfl) ?_
  refine hAllOk.c 1 (ok_aload_n (f := 1) rfl (by decide +kernel) rfl) ?_
  refine hAllOk.c 2 (ok_getfield (idx := 17) (N := 10) (T := TX4) rfl inTb4 (by decide) rfl wd_t_77 (by decide +kernel) rfl) ?_
  refine hAllOk.c 3 (ok_no) ?_
  refine hAllOk.c 4 (ok_no) ?_
  refine hAllOk.c 5 (ok_putfield (idx := 17) (N := 10) (T := TX4) tyX4_ok nmX4 rfl rfl inTb4 (by decide) rfl rfl wd_t_77 (by decide +kernel) rfl) ?_
  refine hAllOk.c 6 (ok_no) ?_
  refine hAllOk.c 7 (ok_no) ?_
  refine hAllOk.c 8 (ok_iconst (n := 0) (by decide +kernel) (by decide +kernel) rfl) ?_
  refine hAllOk.c 9 (ok_istore_n (f := 2) rfl (by decide) (by decide +kernel) rfl) ?_
  refine hAllOk.c 10 (ok_iload_n (f := 2) rfl (by decide +kernel) rfl) ?_
  refine hAllOk.c 11 (ok_bipush (n := 12) (by decide +kernel) (by decide +kernel) rfl) ?_
  refine hAllOk.c 12 (ok_no) ?_
  refine hAllOk.c 13 (ok_icge (off := 37) (by decide +kernel) (by decide +kernel) rfl) ?_
  refine hAllOk.c 14 (ok_no) ?_
  refine hAllOk.c 15 (ok_no) ?_
  refine hAllOk.c 16 (ok_aload_n (f := 0) rfl (by decide +kernel) rfl) ?_
  refine hAllOk.c 17 (ok_iload_n (f := 2) rfl (by decide +kernel) rfl) ?_
  refine hAllOk.c 18 (ok_callV (idx := 51) ⟨wd_t_246, wd_t_2, by decide +kernel, by decide +kernel⟩ rfl rfl wd_t_243 wd_t_245 wd_s_4 (by decide +kernel) rfl) ?_
  refine hAllOk.c 19 (ok_no) ?_
  refine hAllOk.c 20 (ok_no) ?_
  refine hAllOk.c 21 (ok_astore_n (f := 3) rfl (by decide) (by decide +kernel) rfl) ?_
  refine hAllOk.c 22 (ok_aload_n (f := 1) rfl (by decide +kernel) rfl) ?_
  refine hAllOk.c 23 (ok_iload_n (f := 2) rfl (by decide +kernel) rfl) ?_
  refine hAllOk.c 24 (ok_callV (idx := 51) ⟨wd_t_246, wd_t_2, by decide +kernel, by decide +kernel⟩ rfl rfl wd_t_243 wd_t_245 wd_s_4 (by decide +kernel) rfl) ?_
  refine hAllOk.c 25 (ok_no) ?_
  refine hAllOk.c 26 (ok_no) ?_
  refine hAllOk.c 27 (ok_astore (by decide) (by decide +kernel) rfl) ?_
  refine hAllOk.c 28 (ok_no) ?_
  refine hAllOk.c 29 (ok_aload_n (f := 3) rfl (by decide +kernel) rfl) ?_
  refine hAllOk.c 30 (ok_ifnull (off := 14) (by decide +kernel) (by decide +kernel) rfl) ?_
  refine hAllOk.c 31 (ok_no) ?_
  refine hAllOk.c 32 (ok_no) ?_
  refine hAllOk.c 33 (ok_aload (by decide +kernel) rfl) ?_
  refine hAllOk.c 34 (ok_no) ?_
  refine hAllOk.c 35 (ok_ifnull (off := 9) (by decide +kernel) (by decide +kernel) rfl) ?_
  refine hAllOk.c 36 (ok_no) ?_
  refine hAllOk.c 37 (ok_no) ?_
  refine hAllOk.c 38 (ok_aload_n (f := 3) rfl (by decide +kernel) rfl) ?_
  refine hAllOk.c 39 (ok_aload (by decide +kernel) rfl) ?_
  refine hAllOk.c 40 (ok_no) ?_
  refine hAllOk.c 41 (ok_callVN (idx := 55) ⟨wd_t_250, wd_t_3, by decide +kernel, by decide +kernel⟩ rfl rfl wd_n_247 wd_t_249 wd_s_5 (by decide +kernel) rfl) ?_
  refine hAllOk.c 42 (ok_no) ?_
  refine hAllOk.c 43 (ok_no) ?_
  refine hAllOk.c 44 (ok_iinc (n := 1) (by decide +kernel) (by decide) (by decide +kernel) rfl) ?_
  refine hAllOk.c 45 (ok_no) ?_
  refine hAllOk.c 46 (ok_no) ?_
  refine hAllOk.c 47 (ok_goto (off := (-37)) (by decide +kernel) (by decide +kernel)) ?_
  refine hAllOk.c 48 (ok_no) ?_
  refine hAllOk.c 49 (ok_no) ?_
  refine hAllOk.c 50 (ok_iconst (n := 0) (by decide +kernel) (by decide +kernel) rfl) ?_
  refine hAllOk.c 51 (ok_istore_n (f := 2) rfl (by decide) (by decide +kernel) rfl) ?_
  refine hAllOk.c 52 (ok_iload_n (f := 2) rfl (by decide +kernel) rfl) ?_
  refine hAllOk.c 53 (ok_iconst (n := 5) (by decide +kernel) (by decide +kernel) rfl) ?_
  refine hAllOk.c 54 (ok_icge (off := 21) (by decide +kernel) (by decide +kernel) rfl) ?_
  refine hAllOk.c 55 (ok_no) ?_
  refine hAllOk.c 56 (ok_no) ?_
  refine hAllOk.c 57 (ok_aload_n (f := 0) rfl (by decide +kernel) rfl) ?_
  refine hAllOk.c 58 (ok_getfield (idx := 21) (N := 10) (T := TX4) rfl inTb4 (by decide) rfl wd_t_79 (by decide +kernel) rfl) ?_
  refine hAllOk.c 59 (ok_no) ?_
  refine hAllOk.c 60 (ok_no) ?_
  refine hAllOk.c 61 (ok_iload_n (f := 2) rfl (by decide +kernel) rfl) ?_
  refine hAllOk.c 62 (ok_aload_n (f := 1) rfl (by decide +kernel) rfl) ?_
  refine hAllOk.c 63 (ok_getfield (idx := 21) (N := 10) (T := TX4) rfl inTb4 (by decide) rfl wd_t_79 (by decide +kernel) rfl) ?_
  refine hAllOk.c 64 (ok_no) ?_
  refine hAllOk.c 65 (ok_no) ?_
  refine hAllOk.c 66 (ok_iload_n (f := 2) rfl (by decide +kernel) rfl) ?_
  refine hAllOk.c 67 (ok_iaload (by decide +kernel) rfl) ?_
  refine hAllOk.c 68 (ok_iastore (by decide +kernel) rfl) ?_
  refine hAllOk.c 69 (ok_iinc (n := 1) (by decide +kernel) (by decide) (by decide +kernel) rfl) ?_
  refine hAllOk.c 70 (ok_no) ?_
  refine hAllOk.c 71 (ok_no) ?_
  refine hAllOk.c 72 (ok_goto (off := (-20)) (by decide +kernel) (by decide +kernel)) ?_
  refine hAllOk.c 73 (ok_no) ?_
  refine hAllOk.c 74 (ok_no) ?_
  refine hAllOk.c 75 (ok_aload_n (f := 0) rfl (by decide +kernel) rfl) ?_
  refine hAllOk.c 76 (ok_aload_n (f := 1) rfl (by decide +kernel) rfl) ?_
  refine hAllOk.c 77 (ok_getfield (idx := 25) (N := 10) (T := TX4) rfl inTb4 (by decide) rfl wd_t_81 (by decide +kernel) rfl) ?_
  refine hAllOk.c 78 (ok_no) ?_
  refine hAllOk.c 79 (ok_no) ?_
  refine hAllOk.c 80 (ok_putfield (idx := 25) (N := 10) (T := TX4) tyX4_ok nmX4 rfl rfl inTb4 (by decide) rfl rfl wd_t_81 (by decide +kernel) rfl) ?_
  refine hAllOk.c 81 (ok_no) ?_
  refine hAllOk.c 82 (ok_no) ?_
  refine hAllOk.c 83 (ok_aload_n (f := 0) rfl (by decide +kernel) rfl) ?_
  refine hAllOk.c 84 (ok_aload_n (f := 1) rfl (by decide +kernel) rfl) ?_
  refine hAllOk.c 85 (ok_getfield (idx := 28) (N := 10) (T := TX4) rfl inTb4 (by decide) rfl wd_t_83 (by decide +kernel) rfl) ?_
  refine hAllOk.c 86 (ok_no) ?_
  refine hAllOk.c 87 (ok_no) ?_
  refine hAllOk.c 88 (ok_putfield (idx := 28) (N := 10) (T := TX4) tyX4_ok nmX4 rfl rfl inTb4 (by decide) rfl rfl wd_t_83 (by decide +kernel) rfl) ?_
  refine hAllOk.c 89 (ok_no) ?_
  refine hAllOk.c 90 (ok_no) ?_
  refine hAllOk.c 91 (ok_aload_n (f := 0) rfl (by decide +kernel) rfl) ?_
  refine hAllOk.c 92 (ok_aload_n (f := 1) rfl (by decide +kernel) rfl) ?_
  refine hAllOk.c 93 (ok_getfield (idx := 32) (N := 10) (T := TX4) rfl inTb4 (by decide) rfl wd_t_85 (by decide +kernel) rfl) ?_
  refine hAllOk.c 94 (ok_no) ?_
  refine hAllOk.c 95 (ok_no) ?_
  refine hAllOk.c 96 (ok_putfield (idx := 32) (N := 10) (T := TX4) tyX4_ok nmX4 rfl rfl inTb4 (by decide) rfl rfl wd_t_85 (by decide +kernel) rfl) ?_
  refine hAllOk.c 97 (ok_no) ?_
  refine hAllOk.c 98 (ok_no) ?_
  refine hAllOk.c 99 (ok_aload_n (f := 0) rfl (by decide +kernel) rfl) ?_
  refine hAllOk.c 100 (ok_aload_n (f := 1) rfl (by decide +kernel) rfl) ?_
  refine hAllOk.c 101 (ok_getfield (idx := 35) (N := 10) (T := TX4) rfl inTb4 (by decide) rfl wd_t_87 (by decide +kernel) rfl) ?_
  refine hAllOk.c 102 (ok_no) ?_
  refine hAllOk.c 103 (ok_no) ?_
  refine hAllOk.c 104 (ok_putfield (idx := 35) (N := 10) (T := TX4) tyX4_ok nmX4 rfl rfl inTb4 (by decide) rfl rfl wd_t_87 (by decide +kernel) rfl) ?_
  refine hAllOk.c 105 (ok_no) ?_
  refine hAllOk.c 106 (ok_no) ?_
  refine hAllOk.c 107 (ok_aload_n (f := 0) rfl (by decide +kernel) rfl) ?_
  refine hAllOk.c 108 (ok_aload_n (f := 1) rfl (by decide +kernel) rfl) ?_
  refine hAllOk.c 109 (ok_getfield (idx := 38) (N := 10) (T := TX4) rfl inTb4 (by decide) rfl wd_t_88 (by decide +kernel) rfl) ?_
  refine hAllOk.c 110 (ok_no) ?_
  refine hAllOk.c 111 (ok_no) ?_
  refine hAllOk.c 112 (ok_putfield (idx := 38) (N := 10) (T := TX4) tyX4_ok nmX4 rfl rfl inTb4 (by decide) rfl rfl wd_t_88 (by decide +kernel) rfl) ?_
  refine hAllOk.c 113 (ok_no) ?_
  refine hAllOk.c 114 (ok_no) ?_
  refine hAllOk.c 115 (ok_aload_n (f := 0) rfl (by decide +kernel) rfl) ?_
  refine hAllOk.c 116 (ok_aload_n (f := 1) rfl (by decide +kernel) rfl) ?_
  refine hAllOk.c 117 (ok_getfield (idx := 41) (N := 10) (T := TX4) rfl inTb4 (by decide) rfl wd_t_90 (by decide +kernel) rfl) ?_
  refine hAllOk.c 118 (ok_no) ?_
  refine hAllOk.c 119 (ok_no) ?_
  refine hAllOk.c 120 (ok_putfield (idx := 41) (N := 10) (T := TX4) tyX4_ok nmX4 rfl rfl inTb4 (by decide) rfl rfl wd_t_90 (by decide +kernel) rfl) ?_
  refine hAllOk.c 121 (ok_no) ?_
  refine hAllOk.c 122 (ok_no) ?_
  refine hAllOk.c 123 (ok_aload_n (f := 0) rfl (by decide +kernel) rfl) ?_
  refine hAllOk.c 124 (ok_aload_n (f := 1) rfl (by decide +kernel) rfl) ?_
  refine hAllOk.c 125 (ok_getfield (idx := 44) (N := 10) (T := TX4) rfl inTb4 (by decide) rfl wd_t_92 (by decide +kernel) rfl) ?_
  refine hAllOk.c 126 (ok_no) ?_
  refine hAllOk.c 127 (ok_no) ?_
  refine hAllOk.c 128 (ok_putfield (idx := 44) (N := 10) (T := TX4) tyX4_ok nmX4 rfl rfl inTb4 (by decide) rfl rfl wd_t_92 (by decide +kernel) rfl) ?_
  refine hAllOk.c 129 (ok_no) ?_
  refine hAllOk.c 130 (ok_no) ?_
  refine hAllOk.c 131 (ok_return rfl (by decide +kernel)) ?_
  trivial
theorem wd_t_231 : Cond.methodLink RX1 22 yX1_moveOldestBehind ∈ hTb := hTb_t (List.mem_of_getElem? (i := 231) (by decide +kernel)) (by decide +kernel)
theorem wd_t_234 : Cond.code yX1_moveOldestBehind prog_3_method_4_code 3 none ∈ hTb := hTb_t (List.mem_of_getElem? (i := 234) (by decide +kernel)) (by decide +kernel)
theorem wd_t_233 : Cond.instanceMethod yX1_moveOldestBehind ∈ hTb := hTb_t (List.mem_of_getElem? (i := 233) (by decide +kernel)) (by decide +kernel)
theorem wd_s_1 : Cond.selects RX1 yX1_moveOldestBehind yX1_moveOldestBehind ∈ hTb := hTb_s (List.mem_of_getElem? (i := 1) (by decide +kernel)) (by decide +kernel)
theorem wd_t_235 : Cond.methodLink RX1 25 yX1_at ∈ hTb := hTb_t (List.mem_of_getElem? (i := 235) (by decide +kernel)) (by decide +kernel)
theorem wd_t_238 : Cond.code yX1_at prog_3_method_5_code 2 (some (.object "StableParty$State")) ∈ hTb := hTb_t (List.mem_of_getElem? (i := 238) (by decide +kernel)) (by decide +kernel)
theorem wd_t_237 : Cond.instanceMethod yX1_at ∈ hTb := hTb_t (List.mem_of_getElem? (i := 237) (by decide +kernel)) (by decide +kernel)
theorem wd_s_2 : Cond.selects RX1 yX1_at yX1_at ∈ hTb := hTb_s (List.mem_of_getElem? (i := 2) (by decide +kernel)) (by decide +kernel)
theorem wd_n_239 : Cond.methodLinkNest RX1 29 yX4_copyFrom "StableParty" ∈ tables_1 := List.mem_of_getElem? (i := 239) (by decide +kernel)
theorem wd_t_242 : Cond.code yX4_copyFrom prog_6_method_2_code 5 none ∈ hTb := hTb_t (List.mem_of_getElem? (i := 242) (by decide +kernel)) (by decide +kernel)
theorem wd_t_241 : Cond.instanceMethod yX4_copyFrom ∈ hTb := hTb_t (List.mem_of_getElem? (i := 241) (by decide +kernel)) (by decide +kernel)
theorem wd_s_3 : Cond.selects RX4 yX4_copyFrom yX4_copyFrom ∈ hTb := hTb_s (List.mem_of_getElem? (i := 3) (by decide +kernel)) (by decide +kernel)
def M_Hi_record : hM := (yX1_record, prog_3_method_2_code, 3, none, 3, 69)
def code_Hi_record (K : hK) (B : Nat × Nat) (Q : hPost) : List hSem := [x_aload 1 0, x_getfield 4 1 1, x_no, x_no, x_const 5 (4), x_iclt 17 8, x_no, x_no, x_aload 9 0, x_callV K 12 M_Hi_moveOldestBehind 1 0, x_no, x_no, x_aload 13 0, x_const 14 (3), x_putfield 17 1 1 (.int), x_no, x_no, x_aload 18 0, x_aload 19 0, x_getfield 22 1 1, x_no, x_no, x_callV K 25 M_Hi_at 1 1, x_no, x_no, x_astore 26 2, x_aload 27 2, x_ifnull 45 30, x_no, x_no, x_aload 31 2, x_aload 32 1, x_callV K 35 M_St_copyFrom 4 1, x_no, x_no, x_aload 36 0, x_dup 37, x_getfield 40 1 1, x_no, x_no, x_const 41 (1), x_iadd 42, x_putfield 45 1 1 (.int), x_no, x_no, x_return Q]
set_option maxRecDepth 100000 in
set_option maxHeartbeats 4000000 in
theorem okc_Hi_record (K : hK) (B : Nat × Nat) (Q : hPost) : hAllOk (hJ K M_Hi_record B Q) 0 (code_Hi_record K B Q) := by
  refine hAllOk.c 0 (ok_aload_n (f := 0) rfl (by decide +kernel) rfl) ?_
  refine hAllOk.c 1 (ok_getfield (idx := 17) (N := 2) (T := TX1) rfl inTb1 (by decide) rfl wd_t_125 (by decide +kernel) rfl) ?_
  refine hAllOk.c 2 (ok_no) ?_
  refine hAllOk.c 3 (ok_no) ?_
  refine hAllOk.c 4 (ok_iconst (n := 4) (by decide +kernel) (by decide +kernel) rfl) ?_
  refine hAllOk.c 5 (ok_iclt (off := 12) (by decide +kernel) (by decide +kernel) rfl) ?_
  refine hAllOk.c 6 (ok_no) ?_
  refine hAllOk.c 7 (ok_no) ?_
  refine hAllOk.c 8 (ok_aload_n (f := 0) rfl (by decide +kernel) rfl) ?_
  refine hAllOk.c 9 (ok_callV (idx := 22) ⟨wd_t_234, wd_t_4, by decide +kernel, by decide +kernel⟩ rfl rfl wd_t_231 wd_t_233 wd_s_1 (by decide +kernel) rfl) ?_
  refine hAllOk.c 10 (ok_no) ?_
  refine hAllOk.c 11 (ok_no) ?_
  refine hAllOk.c 12 (ok_aload_n (f := 0) rfl (by decide +kernel) rfl) ?_
  refine hAllOk.c 13 (ok_iconst (n := 3) (by decide +kernel) (by decide +kernel) rfl) ?_
  refine hAllOk.c 14 (ok_putfield (idx := 17) (N := 2) (T := TX1) tyX1_ok nmX1 rfl rfl inTb1 (by decide) rfl rfl wd_t_125 (by decide +kernel) rfl) ?_
  refine hAllOk.c 15 (ok_no) ?_
  refine hAllOk.c 16 (ok_no) ?_
  refine hAllOk.c 17 (ok_aload_n (f := 0) rfl (by decide +kernel) rfl) ?_
  refine hAllOk.c 18 (ok_aload_n (f := 0) rfl (by decide +kernel) rfl) ?_
  refine hAllOk.c 19 (ok_getfield (idx := 17) (N := 2) (T := TX1) rfl inTb1 (by decide) rfl wd_t_125 (by decide +kernel) rfl) ?_
  refine hAllOk.c 20 (ok_no) ?_
  refine hAllOk.c 21 (ok_no) ?_
  refine hAllOk.c 22 (ok_callV (idx := 25) ⟨wd_t_238, wd_t_4, by decide +kernel, by decide +kernel⟩ rfl rfl wd_t_235 wd_t_237 wd_s_2 (by decide +kernel) rfl) ?_
  refine hAllOk.c 23 (ok_no) ?_
  refine hAllOk.c 24 (ok_no) ?_
  refine hAllOk.c 25 (ok_astore_n (f := 2) rfl (by decide) (by decide +kernel) rfl) ?_
  refine hAllOk.c 26 (ok_aload_n (f := 2) rfl (by decide +kernel) rfl) ?_
  refine hAllOk.c 27 (ok_ifnull (off := 18) (by decide +kernel) (by decide +kernel) rfl) ?_
  refine hAllOk.c 28 (ok_no) ?_
  refine hAllOk.c 29 (ok_no) ?_
  refine hAllOk.c 30 (ok_aload_n (f := 2) rfl (by decide +kernel) rfl) ?_
  refine hAllOk.c 31 (ok_aload_n (f := 1) rfl (by decide +kernel) rfl) ?_
  refine hAllOk.c 32 (ok_callVN (idx := 29) ⟨wd_t_242, wd_t_2, by decide +kernel, by decide +kernel⟩ rfl rfl wd_n_239 wd_t_241 wd_s_3 (by decide +kernel) rfl) ?_
  refine hAllOk.c 33 (ok_no) ?_
  refine hAllOk.c 34 (ok_no) ?_
  refine hAllOk.c 35 (ok_aload_n (f := 0) rfl (by decide +kernel) rfl) ?_
  refine hAllOk.c 36 (ok_dup (by decide +kernel) rfl) ?_
  refine hAllOk.c 37 (ok_getfield (idx := 17) (N := 2) (T := TX1) rfl inTb1 (by decide) rfl wd_t_125 (by decide +kernel) rfl) ?_
  refine hAllOk.c 38 (ok_no) ?_
  refine hAllOk.c 39 (ok_no) ?_
  refine hAllOk.c 40 (ok_iconst (n := 1) (by decide +kernel) (by decide +kernel) rfl) ?_
  refine hAllOk.c 41 (ok_iadd (by decide +kernel) rfl) ?_
  refine hAllOk.c 42 (ok_putfield (idx := 17) (N := 2) (T := TX1) tyX1_ok nmX1 rfl rfl inTb1 (by decide) rfl rfl wd_t_125 (by decide +kernel) rfl) ?_
  refine hAllOk.c 43 (ok_no) ?_
  refine hAllOk.c 44 (ok_no) ?_
  refine hAllOk.c 45 (ok_return rfl (by decide +kernel)) ?_
  trivial
theorem wd_n_40 : Cond.fieldLinkNest RX4 78 RX0 "charges" "I" "StableParty" ∈ tables_1 := List.mem_of_getElem? (i := 40) (by decide +kernel)
theorem wd_n_42 : Cond.fieldLinkNest RX4 121 RX0 "paid" "I" "StableParty" ∈ tables_1 := List.mem_of_getElem? (i := 42) (by decide +kernel)
theorem wd_n_46 : Cond.fieldLinkNest RX4 118 RX0 "seat" "I" "StableParty" ∈ tables_1 := List.mem_of_getElem? (i := 46) (by decide +kernel)
def M_St_fixCompany : hM := (yX4_fixCompany, prog_6_method_18_code, 7, (some .int), 2, 41)
def code_St_fixCompany (K : hK) (B : Nat × Nat) (Q : hPost) : List hSem := [x_const 1 (0), x_istore 2 2, x_const 3 (0), x_istore 4 3, x_aload 5 0, x_const 6 (1), x_putfield 9 4 4 (.boolean), x_no, x_no, x_aload 10 0, x_iload 11 1, x_putfield 14 4 5 (.int), x_no, x_no, x_aload 15 0, x_aload 16 0, x_iload 17 1, x_callS K 20 M_In_bitCount 1, x_no, x_no, x_callV K 23 M_St_feeOf 4 1, x_no, x_no, x_putfield 26 4 6 (.int), x_no, x_no, x_aload 27 0, x_dup 28, x_getfield 31 4 7, x_no, x_no, x_const 32 (1), x_iadd 33, x_putfield 36 4 7 (.int), x_no, x_no, x_const 37 (0), x_istore 39 4, x_no, x_iload 41 4, x_no, x_const 43 (12), x_no, x_icge 118 46, x_no, x_no, x_aload 47 0, x_iload 49 4, x_no, x_callV K 52 M_St_find 4 1, x_no, x_no, x_astore 54 5, x_no, x_aload 56 5, x_no, x_ifnull 112 59, x_no, x_no, x_iload 60 1, x_iload 62 4, x_no, x_callS K 65 M_Pa_isIn 2, x_no, x_no, x_ifeq 112 68, x_no, x_no, x_aload 69 0, x_getfield 72 4 6, x_no, x_no, x_aload 74 5, x_no, x_getfield 77 0 3, x_no, x_no, x_iadd 78, x_istore 80 6, x_no, x_aload 82 5, x_no, x_dup 83, x_getfield 86 0 4, x_no, x_no, x_iload 88 6, x_no, x_iadd 89, x_putfield 92 0 4 (.int), x_no, x_no, x_aload 94 5, x_no, x_const 95 (0), x_putfield 98 0 3 (.int), x_no, x_no, x_aload 100 5, x_no, x_iload 101 3, x_putfield 104 0 6 (.int), x_no, x_no, x_iinc 107 3 (1), x_no, x_no, x_iload 108 2, x_iload 110 6, x_no, x_iadd 111, x_istore 112 2, x_iinc 115 4 (1), x_no, x_no, x_goto 39, x_no, x_no, x_iload 119 2, x_ireturn (some .int) Q]
set_option maxRecDepth 100000 in
set_option maxHeartbeats 4000000 in
theorem okc_St_fixCompany (K : hK) (B : Nat × Nat) (Q : hPost) : hAllOk (hJ K M_St_fixCompany B Q) 0 (code_St_fixCompany K B Q) := by
  refine hAllOk.c 0 (ok_iconst (n := 0) (by decide +kernel) (by decide +kernel) rfl) ?_
  refine hAllOk.c 1 (ok_istore_n (f := 2) rfl (by decide) (by decide +kernel) rfl) ?_
  refine hAllOk.c 2 (ok_iconst (n := 0) (by decide +kernel) (by decide +kernel) rfl) ?_
  refine hAllOk.c 3 (ok_istore_n (f := 3) rfl (by decide) (by decide +kernel) rfl) ?_
  refine hAllOk.c 4 (ok_aload_n (f := 0) rfl (by decide +kernel) rfl) ?_
  refine hAllOk.c 5 (ok_iconst (n := 1) (by decide +kernel) (by decide +kernel) rfl) ?_
  refine hAllOk.c 6 (ok_putfield (idx := 28) (N := 10) (T := TX4) tyX4_ok nmX4 rfl rfl inTb4 (by decide) rfl rfl wd_t_83 (by decide +kernel) rfl) ?_
  refine hAllOk.c 7 (ok_no) ?_
  refine hAllOk.c 8 (ok_no) ?_
  refine hAllOk.c 9 (ok_aload_n (f := 0) rfl (by decide +kernel) rfl) ?_
  refine hAllOk.c 10 (ok_iload_n (f := 1) rfl (by decide +kernel) rfl) ?_
  refine hAllOk.c 11 (ok_putfield (idx := 32) (N := 10) (T := TX4) tyX4_ok nmX4 rfl rfl inTb4 (by decide) rfl rfl wd_t_85 (by decide +kernel) rfl) ?_
  refine hAllOk.c 12 (ok_no) ?_
  refine hAllOk.c 13 (ok_no) ?_
  refine hAllOk.c 14 (ok_aload_n (f := 0) rfl (by decide +kernel) rfl) ?_
  refine hAllOk.c 15 (ok_aload_n (f := 0) rfl (by decide +kernel) rfl) ?_
  refine hAllOk.c 16 (ok_iload_n (f := 1) rfl (by decide +kernel) rfl) ?_
  refine hAllOk.c 17 (ok_callS (idx := 81) ⟨wd_t_319, wd_t_7, by decide +kernel, by decide +kernel⟩ wd_t_353 wd_t_318 (by decide +kernel) rfl) ?_
  refine hAllOk.c 18 (ok_no) ?_
  refine hAllOk.c 19 (ok_no) ?_
  refine hAllOk.c 20 (ok_callV (idx := 86) ⟨wd_t_326, wd_t_2, by decide +kernel, by decide +kernel⟩ rfl rfl wd_t_367 wd_t_325 wd_s_16 (by decide +kernel) rfl) ?_
  refine hAllOk.c 21 (ok_no) ?_
  refine hAllOk.c 22 (ok_no) ?_
  refine hAllOk.c 23 (ok_putfield (idx := 35) (N := 10) (T := TX4) tyX4_ok nmX4 rfl rfl inTb4 (by decide) rfl rfl wd_t_87 (by decide +kernel) rfl) ?_
  refine hAllOk.c 24 (ok_no) ?_
  refine hAllOk.c 25 (ok_no) ?_
  refine hAllOk.c 26 (ok_aload_n (f := 0) rfl (by decide +kernel) rfl) ?_
  refine hAllOk.c 27 (ok_dup (by decide +kernel) rfl) ?_
  refine hAllOk.c 28 (ok_getfield (idx := 38) (N := 10) (T := TX4) rfl inTb4 (by decide) rfl wd_t_88 (by decide +kernel) rfl) ?_
  refine hAllOk.c 29 (ok_no) ?_
  refine hAllOk.c 30 (ok_no) ?_
  refine hAllOk.c 31 (ok_iconst (n := 1) (by decide +kernel) (by decide +kernel) rfl) ?_
  refine hAllOk.c 32 (ok_iadd (by decide +kernel) rfl) ?_
  refine hAllOk.c 33 (ok_putfield (idx := 38) (N := 10) (T := TX4) tyX4_ok nmX4 rfl rfl inTb4 (by decide) rfl rfl wd_t_88 (by decide +kernel) rfl) ?_
  refine hAllOk.c 34 (ok_no) ?_
  refine hAllOk.c 35 (ok_no) ?_
  refine hAllOk.c 36 (ok_iconst (n := 0) (by decide +kernel) (by decide +kernel) rfl) ?_
  refine hAllOk.c 37 (ok_istore (by decide) (by decide +kernel) rfl) ?_
  refine hAllOk.c 38 (ok_no) ?_
  refine hAllOk.c 39 (ok_iload (by decide +kernel) rfl) ?_
  refine hAllOk.c 40 (ok_no) ?_
  refine hAllOk.c 41 (ok_bipush (n := 12) (by decide +kernel) (by decide +kernel) rfl) ?_
  refine hAllOk.c 42 (ok_no) ?_
  refine hAllOk.c 43 (ok_icge (off := 75) (by decide +kernel) (by decide +kernel) rfl) ?_
  refine hAllOk.c 44 (ok_no) ?_
  refine hAllOk.c 45 (ok_no) ?_
  refine hAllOk.c 46 (ok_aload_n (f := 0) rfl (by decide +kernel) rfl) ?_
  refine hAllOk.c 47 (ok_iload (by decide +kernel) rfl) ?_
  refine hAllOk.c 48 (ok_no) ?_
  refine hAllOk.c 49 (ok_callV (idx := 51) ⟨wd_t_246, wd_t_2, by decide +kernel, by decide +kernel⟩ rfl rfl wd_t_243 wd_t_245 wd_s_4 (by decide +kernel) rfl) ?_
  refine hAllOk.c 50 (ok_no) ?_
  refine hAllOk.c 51 (ok_no) ?_
  refine hAllOk.c 52 (ok_astore (by decide) (by decide +kernel) rfl) ?_
  refine hAllOk.c 53 (ok_no) ?_
  refine hAllOk.c 54 (ok_aload (by decide +kernel) rfl) ?_
  refine hAllOk.c 55 (ok_no) ?_
  refine hAllOk.c 56 (ok_ifnull (off := 56) (by decide +kernel) (by decide +kernel) rfl) ?_
  refine hAllOk.c 57 (ok_no) ?_
  refine hAllOk.c 58 (ok_no) ?_
  refine hAllOk.c 59 (ok_iload_n (f := 1) rfl (by decide +kernel) rfl) ?_
  refine hAllOk.c 60 (ok_iload (by decide +kernel) rfl) ?_
  refine hAllOk.c 61 (ok_no) ?_
  refine hAllOk.c 62 (ok_callSN (idx := 89) ⟨wd_t_311, wd_t_1, by decide +kernel, by decide +kernel⟩ wd_n_362 wd_t_310 (by decide +kernel) rfl) ?_
  refine hAllOk.c 63 (ok_no) ?_
  refine hAllOk.c 64 (ok_no) ?_
  refine hAllOk.c 65 (ok_ifeq (off := 47) (by decide +kernel) (by decide +kernel) rfl) ?_
  refine hAllOk.c 66 (ok_no) ?_
  refine hAllOk.c 67 (ok_no) ?_
  refine hAllOk.c 68 (ok_aload_n (f := 0) rfl (by decide +kernel) rfl) ?_
  refine hAllOk.c 69 (ok_getfield (idx := 35) (N := 10) (T := TX4) rfl inTb4 (by decide) rfl wd_t_87 (by decide +kernel) rfl) ?_
  refine hAllOk.c 70 (ok_no) ?_
  refine hAllOk.c 71 (ok_no) ?_
  refine hAllOk.c 72 (ok_aload (by decide +kernel) rfl) ?_
  refine hAllOk.c 73 (ok_no) ?_
  refine hAllOk.c 74 (ok_getfieldN (idx := 78) (N := 10) (T := TX0) rfl inTb0 (by decide) rfl wd_n_40 (by decide +kernel) rfl) ?_
  refine hAllOk.c 75 (ok_no) ?_
  refine hAllOk.c 76 (ok_no) ?_
  refine hAllOk.c 77 (ok_iadd (by decide +kernel) rfl) ?_
  refine hAllOk.c 78 (ok_istore (by decide) (by decide +kernel) rfl) ?_
  refine hAllOk.c 79 (ok_no) ?_
  refine hAllOk.c 80 (ok_aload (by decide +kernel) rfl) ?_
  refine hAllOk.c 81 (ok_no) ?_
  refine hAllOk.c 82 (ok_dup (by decide +kernel) rfl) ?_
  refine hAllOk.c 83 (ok_getfieldN (idx := 121) (N := 10) (T := TX0) rfl inTb0 (by decide) rfl wd_n_42 (by decide +kernel) rfl) ?_
  refine hAllOk.c 84 (ok_no) ?_
  refine hAllOk.c 85 (ok_no) ?_
  refine hAllOk.c 86 (ok_iload (by decide +kernel) rfl) ?_
  refine hAllOk.c 87 (ok_no) ?_
  refine hAllOk.c 88 (ok_iadd (by decide +kernel) rfl) ?_
  refine hAllOk.c 89 (ok_putfieldN (idx := 121) (N := 10) (T := TX0) tyX0_ok nmX0 rfl rfl inTb0 (by decide) rfl rfl wd_n_42 (by decide +kernel) rfl) ?_
  refine hAllOk.c 90 (ok_no) ?_
  refine hAllOk.c 91 (ok_no) ?_
  refine hAllOk.c 92 (ok_aload (by decide +kernel) rfl) ?_
  refine hAllOk.c 93 (ok_no) ?_
  refine hAllOk.c 94 (ok_iconst (n := 0) (by decide +kernel) (by decide +kernel) rfl) ?_
  refine hAllOk.c 95 (ok_putfieldN (idx := 78) (N := 10) (T := TX0) tyX0_ok nmX0 rfl rfl inTb0 (by decide) rfl rfl wd_n_40 (by decide +kernel) rfl) ?_
  refine hAllOk.c 96 (ok_no) ?_
  refine hAllOk.c 97 (ok_no) ?_
  refine hAllOk.c 98 (ok_aload (by decide +kernel) rfl) ?_
  refine hAllOk.c 99 (ok_no) ?_
  refine hAllOk.c 100 (ok_iload_n (f := 3) rfl (by decide +kernel) rfl) ?_
  refine hAllOk.c 101 (ok_putfieldN (idx := 118) (N := 10) (T := TX0) tyX0_ok nmX0 rfl rfl inTb0 (by decide) rfl rfl wd_n_46 (by decide +kernel) rfl) ?_
  refine hAllOk.c 102 (ok_no) ?_
  refine hAllOk.c 103 (ok_no) ?_
  refine hAllOk.c 104 (ok_iinc (n := 1) (by decide +kernel) (by decide) (by decide +kernel) rfl) ?_
  refine hAllOk.c 105 (ok_no) ?_
  refine hAllOk.c 106 (ok_no) ?_
  refine hAllOk.c 107 (ok_iload_n (f := 2) rfl (by decide +kernel) rfl) ?_
  refine hAllOk.c 108 (ok_iload (by decide +kernel) rfl) ?_
  refine hAllOk.c 109 (ok_no) ?_
  refine hAllOk.c 110 (ok_iadd (by decide +kernel) rfl) ?_
  refine hAllOk.c 111 (ok_istore_n (f := 2) rfl (by decide) (by decide +kernel) rfl) ?_
  refine hAllOk.c 112 (ok_iinc (n := 1) (by decide +kernel) (by decide) (by decide +kernel) rfl) ?_
  refine hAllOk.c 113 (ok_no) ?_
  refine hAllOk.c 114 (ok_no) ?_
  refine hAllOk.c 115 (ok_goto (off := (-76)) (by decide +kernel) (by decide +kernel)) ?_
  refine hAllOk.c 116 (ok_no) ?_
  refine hAllOk.c 117 (ok_no) ?_
  refine hAllOk.c 118 (ok_iload_n (f := 2) rfl (by decide +kernel) rfl) ?_
  refine hAllOk.c 119 (ok_ireturn (by decide +kernel)) ?_
  trivial
theorem wd_n_227 : Cond.methodLinkNest RX5 63 yX1_record "StableParty" ∈ tables_1 := List.mem_of_getElem? (i := 227) (by decide +kernel)
theorem wd_t_230 : Cond.code yX1_record prog_3_method_2_code 3 none ∈ hTb := hTb_t (List.mem_of_getElem? (i := 230) (by decide +kernel)) (by decide +kernel)
theorem wd_t_229 : Cond.instanceMethod yX1_record ∈ hTb := hTb_t (List.mem_of_getElem? (i := 229) (by decide +kernel)) (by decide +kernel)
theorem wd_s_0 : Cond.selects RX1 yX1_record yX1_record ∈ hTb := hTb_s (List.mem_of_getElem? (i := 0) (by decide +kernel)) (by decide +kernel)
theorem wd_n_369 : Cond.methodLinkNest RX5 132 yX4_fixCompany "StableParty" ∈ tables_1 := List.mem_of_getElem? (i := 369) (by decide +kernel)
theorem wd_t_372 : Cond.code yX4_fixCompany prog_6_method_18_code 7 (some .int) ∈ hTb := hTb_t (List.mem_of_getElem? (i := 372) (by decide +kernel)) (by decide +kernel)
theorem wd_t_371 : Cond.instanceMethod yX4_fixCompany ∈ hTb := hTb_t (List.mem_of_getElem? (i := 371) (by decide +kernel)) (by decide +kernel)
theorem wd_s_23 : Cond.selects RX4 yX4_fixCompany yX4_fixCompany ∈ hTb := hTb_s (List.mem_of_getElem? (i := 23) (by decide +kernel)) (by decide +kernel)
def M_Pa_fix : hM := (yX5_fix, prog_1_method_9_code, 2, (some .int), 8, 183)
def code_Pa_fix (K : hK) (B : Nat × Nat) (Q : hPost) : List hSem := [x_aload 1 0, x_getfield 4 5 0, x_no, x_no, x_getfield 7 4 4, x_no, x_no, x_ifeq 13 10, x_no, x_no, x_const 12 (-4), x_no, x_ireturn (some .int) Q, x_aload 14 0, x_callV K 17 M_Pa_findChosen 5 0, x_no, x_no, x_istore 18 1, x_iload 19 1, x_ifne 25 22, x_no, x_no, x_const 24 (-5), x_no, x_ireturn (some .int) Q, x_aload 26 0, x_getfield 29 5 1, x_no, x_no, x_aload 30 0, x_getfield 33 5 0, x_no, x_no, x_callV K 36 M_Hi_record 1 1, x_no, x_no, x_aload 37 0, x_getfield 40 5 0, x_no, x_no, x_iload 41 1, x_callV K 44 M_St_fixCompany 4 1, x_no, x_no, x_ireturn (some .int) Q]
set_option maxRecDepth 100000 in
set_option maxHeartbeats 4000000 in
theorem okc_Pa_fix (K : hK) (B : Nat × Nat) (Q : hPost) : hAllOk (hJ K M_Pa_fix B Q) 0 (code_Pa_fix K B Q) := by
  refine hAllOk.c 0 (ok_aload_n (f := 0) rfl (by decide +kernel) rfl) ?_
  refine hAllOk.c 1 (ok_getfield (idx := 12) (N := 8) (T := TX5) rfl inTb5 (by decide) rfl wd_t_194 (by decide +kernel) rfl) ?_
  refine hAllOk.c 2 (ok_no) ?_
  refine hAllOk.c 3 (ok_no) ?_
  refine hAllOk.c 4 (ok_getfieldN (idx := 57) (N := 10) (T := TX4) rfl inTb4 (by decide) rfl wd_n_84 (by decide +kernel) rfl) ?_
  refine hAllOk.c 5 (ok_no) ?_
  refine hAllOk.c 6 (ok_no) ?_
  refine hAllOk.c 7 (ok_ifeq (off := 6) (by decide +kernel) (by decide +kernel) rfl) ?_
  refine hAllOk.c 8 (ok_no) ?_
  refine hAllOk.c 9 (ok_no) ?_
  refine hAllOk.c 10 (ok_bipush (n := -4) (by decide +kernel) (by decide +kernel) rfl) ?_
  refine hAllOk.c 11 (ok_no) ?_
  refine hAllOk.c 12 (ok_ireturn (by decide +kernel)) ?_
  refine hAllOk.c 13 (ok_aload_n (f := 0) rfl (by decide +kernel) rfl) ?_
  refine hAllOk.c 14 (ok_callV (idx := 129) ⟨wd_t_285, wd_t_1, by decide +kernel, by decide +kernel⟩ rfl rfl wd_t_282 wd_t_284 wd_s_9 (by decide +kernel) rfl) ?_
  refine hAllOk.c 15 (ok_no) ?_
  refine hAllOk.c 16 (ok_no) ?_
  refine hAllOk.c 17 (ok_istore_n (f := 1) rfl (by decide) (by decide +kernel) rfl) ?_
  refine hAllOk.c 18 (ok_iload_n (f := 1) rfl (by decide +kernel) rfl) ?_
  refine hAllOk.c 19 (ok_ifne (off := 6) (by decide +kernel) (by decide +kernel) rfl) ?_
  refine hAllOk.c 20 (ok_no) ?_
  refine hAllOk.c 21 (ok_no) ?_
  refine hAllOk.c 22 (ok_bipush (n := -5) (by decide +kernel) (by decide +kernel) rfl) ?_
  refine hAllOk.c 23 (ok_no) ?_
  refine hAllOk.c 24 (ok_ireturn (by decide +kernel)) ?_
  refine hAllOk.c 25 (ok_aload_n (f := 0) rfl (by decide +kernel) rfl) ?_
  refine hAllOk.c 26 (ok_getfield (idx := 19) (N := 8) (T := TX5) rfl inTb5 (by decide) rfl wd_t_195 (by decide +kernel) rfl) ?_
  refine hAllOk.c 27 (ok_no) ?_
  refine hAllOk.c 28 (ok_no) ?_
  refine hAllOk.c 29 (ok_aload_n (f := 0) rfl (by decide +kernel) rfl) ?_
  refine hAllOk.c 30 (ok_getfield (idx := 12) (N := 8) (T := TX5) rfl inTb5 (by decide) rfl wd_t_194 (by decide +kernel) rfl) ?_
  refine hAllOk.c 31 (ok_no) ?_
  refine hAllOk.c 32 (ok_no) ?_
  refine hAllOk.c 33 (ok_callVN (idx := 63) ⟨wd_t_230, wd_t_4, by decide +kernel, by decide +kernel⟩ rfl rfl wd_n_227 wd_t_229 wd_s_0 (by decide +kernel) rfl) ?_
  refine hAllOk.c 34 (ok_no) ?_
  refine hAllOk.c 35 (ok_no) ?_
  refine hAllOk.c 36 (ok_aload_n (f := 0) rfl (by decide +kernel) rfl) ?_
  refine hAllOk.c 37 (ok_getfield (idx := 12) (N := 8) (T := TX5) rfl inTb5 (by decide) rfl wd_t_194 (by decide +kernel) rfl) ?_
  refine hAllOk.c 38 (ok_no) ?_
  refine hAllOk.c 39 (ok_no) ?_
  refine hAllOk.c 40 (ok_iload_n (f := 1) rfl (by decide +kernel) rfl) ?_
  refine hAllOk.c 41 (ok_callVN (idx := 132) ⟨wd_t_372, wd_t_2, by decide +kernel, by decide +kernel⟩ rfl rfl wd_n_369 wd_t_371 wd_s_23 (by decide +kernel) rfl) ?_
  refine hAllOk.c 42 (ok_no) ?_
  refine hAllOk.c 43 (ok_no) ?_
  refine hAllOk.c 44 (ok_ireturn (by decide +kernel)) ?_
  trivial
def M_Pa_isWithin : hM := (yX5_isWithin, prog_1_method_32_code, 3, (some .boolean), 0, 0)
def code_Pa_isWithin (K : hK) (B : Nat × Nat) (Q : hPost) : List hSem := [x_iload 1 0, x_iload 2 1, x_iclt 14 5, x_no, x_no, x_iload 6 0, x_iload 7 2, x_icgt 14 10, x_no, x_no, x_const 11 (1), x_goto 15, x_no, x_no, x_const 15 (0), x_ireturn (some .boolean) Q]
set_option maxRecDepth 100000 in
set_option maxHeartbeats 4000000 in
theorem okc_Pa_isWithin (K : hK) (B : Nat × Nat) (Q : hPost) : hAllOk (hJ K M_Pa_isWithin B Q) 0 (code_Pa_isWithin K B Q) := by
  refine hAllOk.c 0 (ok_iload_n (f := 0) rfl (by decide +kernel) rfl) ?_
  refine hAllOk.c 1 (ok_iload_n (f := 1) rfl (by decide +kernel) rfl) ?_
  refine hAllOk.c 2 (ok_iclt (off := 12) (by decide +kernel) (by decide +kernel) rfl) ?_
  refine hAllOk.c 3 (ok_no) ?_
  refine hAllOk.c 4 (ok_no) ?_
  refine hAllOk.c 5 (ok_iload_n (f := 0) rfl (by decide +kernel) rfl) ?_
  refine hAllOk.c 6 (ok_iload_n (f := 2) rfl (by decide +kernel) rfl) ?_
  refine hAllOk.c 7 (ok_icgt (off := 7) (by decide +kernel) (by decide +kernel) rfl) ?_
  refine hAllOk.c 8 (ok_no) ?_
  refine hAllOk.c 9 (ok_no) ?_
  refine hAllOk.c 10 (ok_iconst (n := 1) (by decide +kernel) (by decide +kernel) rfl) ?_
  refine hAllOk.c 11 (ok_goto (off := 4) (by decide +kernel) (by decide +kernel)) ?_
  refine hAllOk.c 12 (ok_no) ?_
  refine hAllOk.c 13 (ok_no) ?_
  refine hAllOk.c 14 (ok_iconst (n := 0) (by decide +kernel) (by decide +kernel) rfl) ?_
  refine hAllOk.c 15 (ok_ireturn (by decide +kernel)) ?_
  trivial
theorem wd_t_224 : Cond.methodLink RX5 53 yX5_isWithin ∈ hTb := hTb_t (List.mem_of_getElem? (i := 224) (by decide +kernel)) (by decide +kernel)
theorem wd_t_226 : Cond.code yX5_isWithin prog_1_method_32_code 3 (some .boolean) ∈ hTb := hTb_t (List.mem_of_getElem? (i := 226) (by decide +kernel)) (by decide +kernel)
theorem wd_t_225 : Cond.static yX5_isWithin ∈ hTb := hTb_t (List.mem_of_getElem? (i := 225) (by decide +kernel)) (by decide +kernel)
theorem wd_t_270 : Cond.fieldLink RX5 116 RX5 "LEAST_SETTINGS" "[I" ∈ hTb := hTb_t (List.mem_of_getElem? (i := 270) (by decide +kernel)) (by decide +kernel)
theorem wd_t_272 : Cond.fieldLink RX5 120 RX5 "MOST_SETTINGS" "[I" ∈ hTb := hTb_t (List.mem_of_getElem? (i := 272) (by decide +kernel)) (by decide +kernel)
def M_Pa_set : hM := (yX5_set, prog_1_method_7_code, 4, (some .int), 4, 91)
def code_Pa_set (K : hK) (B : Nat × Nat) (Q : hPost) : List hSem := [x_iload 1 1, x_const 2 (0), x_const 3 (4), x_callS K 6 M_Pa_isWithin 3, x_no, x_no, x_ifeq 26 9, x_no, x_no, x_iload 10 2, x_getstatic K 13 1, x_no, x_no, x_iload 14 1, x_iaload K 15, x_getstatic K 18 2, x_no, x_no, x_iload 19 1, x_iaload K 20, x_callS K 23 M_Pa_isWithin 3, x_no, x_no, x_ifne 29 26, x_no, x_no, x_const 28 (-2), x_no, x_ireturn (some .int) Q, x_aload 30 0, x_getfield 33 5 0, x_no, x_no, x_getfield 36 4 4, x_no, x_no, x_ifeq 42 39, x_no, x_no, x_const 41 (-4), x_no, x_ireturn (some .int) Q, x_aload 43 0, x_getfield 46 5 0, x_no, x_no, x_getfield 49 4 2, x_no, x_no, x_iload 50 1, x_iaload K 51, x_istore 52 3, x_iload 53 3, x_iload 54 2, x_icne 60 57, x_no, x_no, x_const 59 (-5), x_no, x_ireturn (some .int) Q, x_aload 61 0, x_getfield 64 5 1, x_no, x_no, x_aload 65 0, x_getfield 68 5 0, x_no, x_no, x_callV K 71 M_Hi_record 1 1, x_no, x_no, x_aload 72 0, x_getfield 75 5 0, x_no, x_no, x_getfield 78 4 2, x_no, x_no, x_iload 79 1, x_iload 80 2, x_iastore K 81, x_iload 82 3, x_ireturn (some .int) Q]
set_option maxRecDepth 100000 in
set_option maxHeartbeats 4000000 in
theorem okc_Pa_set (K : hK) (B : Nat × Nat) (Q : hPost) : hAllOk (hJ K M_Pa_set B Q) 0 (code_Pa_set K B Q) := by
  refine hAllOk.c 0 (ok_iload_n (f := 1) rfl (by decide +kernel) rfl) ?_
  refine hAllOk.c 1 (ok_iconst (n := 0) (by decide +kernel) (by decide +kernel) rfl) ?_
  refine hAllOk.c 2 (ok_iconst (n := 4) (by decide +kernel) (by decide +kernel) rfl) ?_
  refine hAllOk.c 3 (ok_callS (idx := 53) ⟨wd_t_226, wd_t_1, by decide +kernel, by decide +kernel⟩ wd_t_224 wd_t_225 (by decide +kernel) rfl) ?_
  refine hAllOk.c 4 (ok_no) ?_
  refine hAllOk.c 5 (ok_no) ?_
  refine hAllOk.c 6 (ok_ifeq (off := 20) (by decide +kernel) (by decide +kernel) rfl) ?_
  refine hAllOk.c 7 (ok_no) ?_
  refine hAllOk.c 8 (ok_no) ?_
  refine hAllOk.c 9 (ok_iload_n (f := 2) rfl (by decide +kernel) rfl) ?_
  refine hAllOk.c 10 (ok_getstatic (idx := 116) (by decide) wd_t_270 (by decide +kernel) rfl) ?_
  refine hAllOk.c 11 (ok_no) ?_
  refine hAllOk.c 12 (ok_no) ?_
  refine hAllOk.c 13 (ok_iload_n (f := 1) rfl (by decide +kernel) rfl) ?_
  refine hAllOk.c 14 (ok_iaload (by decide +kernel) rfl) ?_
  refine hAllOk.c 15 (ok_getstatic (idx := 120) (by decide) wd_t_272 (by decide +kernel) rfl) ?_
  refine hAllOk.c 16 (ok_no) ?_
  refine hAllOk.c 17 (ok_no) ?_
  refine hAllOk.c 18 (ok_iload_n (f := 1) rfl (by decide +kernel) rfl) ?_
  refine hAllOk.c 19 (ok_iaload (by decide +kernel) rfl) ?_
  refine hAllOk.c 20 (ok_callS (idx := 53) ⟨wd_t_226, wd_t_1, by decide +kernel, by decide +kernel⟩ wd_t_224 wd_t_225 (by decide +kernel) rfl) ?_
  refine hAllOk.c 21 (ok_no) ?_
  refine hAllOk.c 22 (ok_no) ?_
  refine hAllOk.c 23 (ok_ifne (off := 6) (by decide +kernel) (by decide +kernel) rfl) ?_
  refine hAllOk.c 24 (ok_no) ?_
  refine hAllOk.c 25 (ok_no) ?_
  refine hAllOk.c 26 (ok_bipush (n := -2) (by decide +kernel) (by decide +kernel) rfl) ?_
  refine hAllOk.c 27 (ok_no) ?_
  refine hAllOk.c 28 (ok_ireturn (by decide +kernel)) ?_
  refine hAllOk.c 29 (ok_aload_n (f := 0) rfl (by decide +kernel) rfl) ?_
  refine hAllOk.c 30 (ok_getfield (idx := 12) (N := 8) (T := TX5) rfl inTb5 (by decide) rfl wd_t_194 (by decide +kernel) rfl) ?_
  refine hAllOk.c 31 (ok_no) ?_
  refine hAllOk.c 32 (ok_no) ?_
  refine hAllOk.c 33 (ok_getfieldN (idx := 57) (N := 10) (T := TX4) rfl inTb4 (by decide) rfl wd_n_84 (by decide +kernel) rfl) ?_
  refine hAllOk.c 34 (ok_no) ?_
  refine hAllOk.c 35 (ok_no) ?_
  refine hAllOk.c 36 (ok_ifeq (off := 6) (by decide +kernel) (by decide +kernel) rfl) ?_
  refine hAllOk.c 37 (ok_no) ?_
  refine hAllOk.c 38 (ok_no) ?_
  refine hAllOk.c 39 (ok_bipush (n := -4) (by decide +kernel) (by decide +kernel) rfl) ?_
  refine hAllOk.c 40 (ok_no) ?_
  refine hAllOk.c 41 (ok_ireturn (by decide +kernel)) ?_
  refine hAllOk.c 42 (ok_aload_n (f := 0) rfl (by decide +kernel) rfl) ?_
  refine hAllOk.c 43 (ok_getfield (idx := 12) (N := 8) (T := TX5) rfl inTb5 (by decide) rfl wd_t_194 (by decide +kernel) rfl) ?_
  refine hAllOk.c 44 (ok_no) ?_
  refine hAllOk.c 45 (ok_no) ?_
  refine hAllOk.c 46 (ok_getfieldN (idx := 123) (N := 10) (T := TX4) rfl inTb4 (by decide) rfl wd_n_80 (by decide +kernel) rfl) ?_
  refine hAllOk.c 47 (ok_no) ?_
  refine hAllOk.c 48 (ok_no) ?_
  refine hAllOk.c 49 (ok_iload_n (f := 1) rfl (by decide +kernel) rfl) ?_
  refine hAllOk.c 50 (ok_iaload (by decide +kernel) rfl) ?_
  refine hAllOk.c 51 (ok_istore_n (f := 3) rfl (by decide) (by decide +kernel) rfl) ?_
  refine hAllOk.c 52 (ok_iload_n (f := 3) rfl (by decide +kernel) rfl) ?_
  refine hAllOk.c 53 (ok_iload_n (f := 2) rfl (by decide +kernel) rfl) ?_
  refine hAllOk.c 54 (ok_icne (off := 6) (by decide +kernel) (by decide +kernel) rfl) ?_
  refine hAllOk.c 55 (ok_no) ?_
  refine hAllOk.c 56 (ok_no) ?_
  refine hAllOk.c 57 (ok_bipush (n := -5) (by decide +kernel) (by decide +kernel) rfl) ?_
  refine hAllOk.c 58 (ok_no) ?_
  refine hAllOk.c 59 (ok_ireturn (by decide +kernel)) ?_
  refine hAllOk.c 60 (ok_aload_n (f := 0) rfl (by decide +kernel) rfl) ?_
  refine hAllOk.c 61 (ok_getfield (idx := 19) (N := 8) (T := TX5) rfl inTb5 (by decide) rfl wd_t_195 (by decide +kernel) rfl) ?_
  refine hAllOk.c 62 (ok_no) ?_
  refine hAllOk.c 63 (ok_no) ?_
  refine hAllOk.c 64 (ok_aload_n (f := 0) rfl (by decide +kernel) rfl) ?_
  refine hAllOk.c 65 (ok_getfield (idx := 12) (N := 8) (T := TX5) rfl inTb5 (by decide) rfl wd_t_194 (by decide +kernel) rfl) ?_
  refine hAllOk.c 66 (ok_no) ?_
  refine hAllOk.c 67 (ok_no) ?_
  refine hAllOk.c 68 (ok_callVN (idx := 63) ⟨wd_t_230, wd_t_4, by decide +kernel, by decide +kernel⟩ rfl rfl wd_n_227 wd_t_229 wd_s_0 (by decide +kernel) rfl) ?_
  refine hAllOk.c 69 (ok_no) ?_
  refine hAllOk.c 70 (ok_no) ?_
  refine hAllOk.c 71 (ok_aload_n (f := 0) rfl (by decide +kernel) rfl) ?_
  refine hAllOk.c 72 (ok_getfield (idx := 12) (N := 8) (T := TX5) rfl inTb5 (by decide) rfl wd_t_194 (by decide +kernel) rfl) ?_
  refine hAllOk.c 73 (ok_no) ?_
  refine hAllOk.c 74 (ok_no) ?_
  refine hAllOk.c 75 (ok_getfieldN (idx := 123) (N := 10) (T := TX4) rfl inTb4 (by decide) rfl wd_n_80 (by decide +kernel) rfl) ?_
  refine hAllOk.c 76 (ok_no) ?_
  refine hAllOk.c 77 (ok_no) ?_
  refine hAllOk.c 78 (ok_iload_n (f := 1) rfl (by decide +kernel) rfl) ?_
  refine hAllOk.c 79 (ok_iload_n (f := 2) rfl (by decide +kernel) rfl) ?_
  refine hAllOk.c 80 (ok_iastore (by decide +kernel) rfl) ?_
  refine hAllOk.c 81 (ok_iload_n (f := 3) rfl (by decide +kernel) rfl) ?_
  refine hAllOk.c 82 (ok_ireturn (by decide +kernel)) ?_
  trivial
def M_Pa_atomOf : hM := (yX5_atomOf, prog_1_method_38_code, 2, (some .int), 0, 0)
def code_Pa_atomOf (K : hK) (B : Nat × Nat) (Q : hPost) : List hSem := [x_iload 1 0, x_const 3 (12), x_no, x_ishl 4, x_iload 5 1, x_ior 6, x_ireturn (some .int) Q]
set_option maxRecDepth 100000 in
set_option maxHeartbeats 4000000 in
theorem okc_Pa_atomOf (K : hK) (B : Nat × Nat) (Q : hPost) : hAllOk (hJ K M_Pa_atomOf B Q) 0 (code_Pa_atomOf K B Q) := by
  refine hAllOk.c 0 (ok_iload_n (f := 0) rfl (by decide +kernel) rfl) ?_
  refine hAllOk.c 1 (ok_bipush (n := 12) (by decide +kernel) (by decide +kernel) rfl) ?_
  refine hAllOk.c 2 (ok_no) ?_
  refine hAllOk.c 3 (ok_ishl (by decide +kernel) rfl) ?_
  refine hAllOk.c 4 (ok_iload_n (f := 1) rfl (by decide +kernel) rfl) ?_
  refine hAllOk.c 5 (ok_ior (by decide +kernel) rfl) ?_
  refine hAllOk.c 6 (ok_ireturn (by decide +kernel)) ?_
  trivial
theorem wd_n_263 : Cond.methodLinkNest RX0 48 yX5_atomOf "StableParty" ∈ tables_1 := List.mem_of_getElem? (i := 263) (by decide +kernel)
theorem wd_t_265 : Cond.code yX5_atomOf prog_1_method_38_code 2 (some .int) ∈ hTb := hTb_t (List.mem_of_getElem? (i := 265) (by decide +kernel)) (by decide +kernel)
theorem wd_t_264 : Cond.static yX5_atomOf ∈ hTb := hTb_t (List.mem_of_getElem? (i := 264) (by decide +kernel)) (by decide +kernel)
def M_Gu_begin : hM := (yX0_begin, prog_2_method_3_code, 3, none, 1, 21)
def code_Gu_begin (K : hK) (B : Nat × Nat) (Q : hPost) : List hSem := [x_aload 1 0, x_iload 2 1, x_putfield 5 0 0 (.int), x_no, x_no, x_aload 6 0, x_iload 7 2, x_putfield 10 0 1 (.int), x_no, x_no, x_aload 11 0, x_const 12 (1), x_putfield 15 0 2 (.boolean), x_no, x_no, x_aload 16 0, x_const 17 (0), x_putfield 20 0 3 (.int), x_no, x_no, x_aload 21 0, x_const 22 (0), x_putfield 25 0 4 (.int), x_no, x_no, x_aload 26 0, x_const 27 (0), x_putfield 30 0 5 (.int), x_no, x_no, x_aload 31 0, x_const 33 (-5), x_no, x_putfield 36 0 6 (.int), x_no, x_no, x_aload 37 0, x_const 38 (0), x_putfield 41 0 7 (.int), x_no, x_no, x_aload 42 0, x_const 43 (1), x_putfield 46 0 8 (.int), x_no, x_no, x_aload 47 0, x_getfield 50 0 9, x_no, x_no, x_const 51 (0), x_const 52 (0), x_const 53 (0), x_callS K 56 M_Pa_atomOf 2, x_no, x_no, x_iastore K 57, x_return Q]
set_option maxRecDepth 100000 in
set_option maxHeartbeats 4000000 in
theorem okc_Gu_begin (K : hK) (B : Nat × Nat) (Q : hPost) : hAllOk (hJ K M_Gu_begin B Q) 0 (code_Gu_begin K B Q) := by
  refine hAllOk.c 0 (ok_aload_n (f := 0) rfl (by decide +kernel) rfl) ?_
  refine hAllOk.c 1 (ok_iload_n (f := 1) rfl (by decide +kernel) rfl) ?_
  refine hAllOk.c 2 (ok_putfield (idx := 15) (N := 10) (T := TX0) tyX0_ok nmX0 rfl rfl inTb0 (by decide) rfl rfl wd_t_29 (by decide +kernel) rfl) ?_
  refine hAllOk.c 3 (ok_no) ?_
  refine hAllOk.c 4 (ok_no) ?_
  refine hAllOk.c 5 (ok_aload_n (f := 0) rfl (by decide +kernel) rfl) ?_
  refine hAllOk.c 6 (ok_iload_n (f := 2) rfl (by decide +kernel) rfl) ?_
  refine hAllOk.c 7 (ok_putfield (idx := 19) (N := 10) (T := TX0) tyX0_ok nmX0 rfl rfl inTb0 (by decide) rfl rfl wd_t_33 (by decide +kernel) rfl) ?_
  refine hAllOk.c 8 (ok_no) ?_
  refine hAllOk.c 9 (ok_no) ?_
  refine hAllOk.c 10 (ok_aload_n (f := 0) rfl (by decide +kernel) rfl) ?_
  refine hAllOk.c 11 (ok_iconst (n := 1) (by decide +kernel) (by decide +kernel) rfl) ?_
  refine hAllOk.c 12 (ok_putfield (idx := 22) (N := 10) (T := TX0) tyX0_ok nmX0 rfl rfl inTb0 (by decide) rfl rfl wd_t_36 (by decide +kernel) rfl) ?_
  refine hAllOk.c 13 (ok_no) ?_
  refine hAllOk.c 14 (ok_no) ?_
  refine hAllOk.c 15 (ok_aload_n (f := 0) rfl (by decide +kernel) rfl) ?_
  refine hAllOk.c 16 (ok_iconst (n := 0) (by decide +kernel) (by decide +kernel) rfl) ?_
  refine hAllOk.c 17 (ok_putfield (idx := 30) (N := 10) (T := TX0) tyX0_ok nmX0 rfl rfl inTb0 (by decide) rfl rfl wd_t_39 (by decide +kernel) rfl) ?_
  refine hAllOk.c 18 (ok_no) ?_
  refine hAllOk.c 19 (ok_no) ?_
  refine hAllOk.c 20 (ok_aload_n (f := 0) rfl (by decide +kernel) rfl) ?_
  refine hAllOk.c 21 (ok_iconst (n := 0) (by decide +kernel) (by decide +kernel) rfl) ?_
  refine hAllOk.c 22 (ok_putfield (idx := 36) (N := 10) (T := TX0) tyX0_ok nmX0 rfl rfl inTb0 (by decide) rfl rfl wd_t_41 (by decide +kernel) rfl) ?_
  refine hAllOk.c 23 (ok_no) ?_
  refine hAllOk.c 24 (ok_no) ?_
  refine hAllOk.c 25 (ok_aload_n (f := 0) rfl (by decide +kernel) rfl) ?_
  refine hAllOk.c 26 (ok_iconst (n := 0) (by decide +kernel) (by decide +kernel) rfl) ?_
  refine hAllOk.c 27 (ok_putfield (idx := 39) (N := 10) (T := TX0) tyX0_ok nmX0 rfl rfl inTb0 (by decide) rfl rfl wd_t_43 (by decide +kernel) rfl) ?_
  refine hAllOk.c 28 (ok_no) ?_
  refine hAllOk.c 29 (ok_no) ?_
  refine hAllOk.c 30 (ok_aload_n (f := 0) rfl (by decide +kernel) rfl) ?_
  refine hAllOk.c 31 (ok_bipush (n := -5) (by decide +kernel) (by decide +kernel) rfl) ?_
  refine hAllOk.c 32 (ok_no) ?_
  refine hAllOk.c 33 (ok_putfield (idx := 42) (N := 10) (T := TX0) tyX0_ok nmX0 rfl rfl inTb0 (by decide) rfl rfl wd_t_45 (by decide +kernel) rfl) ?_
  refine hAllOk.c 34 (ok_no) ?_
  refine hAllOk.c 35 (ok_no) ?_
  refine hAllOk.c 36 (ok_aload_n (f := 0) rfl (by decide +kernel) rfl) ?_
  refine hAllOk.c 37 (ok_iconst (n := 0) (by decide +kernel) (by decide +kernel) rfl) ?_
  refine hAllOk.c 38 (ok_putfield (idx := 33) (N := 10) (T := TX0) tyX0_ok nmX0 rfl rfl inTb0 (by decide) rfl rfl wd_t_47 (by decide +kernel) rfl) ?_
  refine hAllOk.c 39 (ok_no) ?_
  refine hAllOk.c 40 (ok_no) ?_
  refine hAllOk.c 41 (ok_aload_n (f := 0) rfl (by decide +kernel) rfl) ?_
  refine hAllOk.c 42 (ok_iconst (n := 1) (by decide +kernel) (by decide +kernel) rfl) ?_
  refine hAllOk.c 43 (ok_putfield (idx := 45) (N := 10) (T := TX0) tyX0_ok nmX0 rfl rfl inTb0 (by decide) rfl rfl wd_t_50 (by decide +kernel) rfl) ?_
  refine hAllOk.c 44 (ok_no) ?_
  refine hAllOk.c 45 (ok_no) ?_
  refine hAllOk.c 46 (ok_aload_n (f := 0) rfl (by decide +kernel) rfl) ?_
  refine hAllOk.c 47 (ok_getfield (idx := 9) (N := 10) (T := TX0) rfl inTb0 (by decide) rfl wd_t_51 (by decide +kernel) rfl) ?_
  refine hAllOk.c 48 (ok_no) ?_
  refine hAllOk.c 49 (ok_no) ?_
  refine hAllOk.c 50 (ok_iconst (n := 0) (by decide +kernel) (by decide +kernel) rfl) ?_
  refine hAllOk.c 51 (ok_iconst (n := 0) (by decide +kernel) (by decide +kernel) rfl) ?_
  refine hAllOk.c 52 (ok_iconst (n := 0) (by decide +kernel) (by decide +kernel) rfl) ?_
  refine hAllOk.c 53 (ok_callSN (idx := 48) ⟨wd_t_265, wd_t_1, by decide +kernel, by decide +kernel⟩ wd_n_263 wd_t_264 (by decide +kernel) rfl) ?_
  refine hAllOk.c 54 (ok_no) ?_
  refine hAllOk.c 55 (ok_no) ?_
  refine hAllOk.c 56 (ok_iastore (by decide +kernel) rfl) ?_
  refine hAllOk.c 57 (ok_return rfl (by decide +kernel)) ?_
  trivial
theorem wd_n_259 : Cond.methodLinkNest RX4 59 yX0_begin "StableParty" ∈ tables_1 := List.mem_of_getElem? (i := 259) (by decide +kernel)
theorem wd_t_262 : Cond.code yX0_begin prog_2_method_3_code 3 none ∈ hTb := hTb_t (List.mem_of_getElem? (i := 262) (by decide +kernel)) (by decide +kernel)
theorem wd_t_261 : Cond.instanceMethod yX0_begin ∈ hTb := hTb_t (List.mem_of_getElem? (i := 261) (by decide +kernel)) (by decide +kernel)
theorem wd_s_8 : Cond.selects RX0 yX0_begin yX0_begin ∈ hTb := hTb_s (List.mem_of_getElem? (i := 8) (by decide +kernel)) (by decide +kernel)
def M_St_add : hM := (yX4_add, prog_6_method_4_code, 5, (some .int), 2, 43)
def code_St_add (K : hK) (B : Nat × Nat) (Q : hPost) : List hSem := [x_aload 1 0, x_getfield 4 4 1, x_no, x_no, x_istore 5 3, x_aload 6 0, x_dup 7, x_getfield 10 4 1, x_no, x_no, x_const 11 (1), x_iadd 12, x_putfield 15 4 1 (.int), x_no, x_no, x_aload 16 0, x_iload 17 3, x_callV K 20 M_St_find 4 1, x_no, x_no, x_astore 22 4, x_no, x_aload 24 4, x_no, x_ifnull 34 27, x_no, x_no, x_aload 29 4, x_no, x_iload 30 1, x_iload 31 2, x_callV K 34 M_Gu_begin 0 2, x_no, x_no, x_iload 35 3, x_ireturn (some .int) Q]
set_option maxRecDepth 100000 in
set_option maxHeartbeats 4000000 in
theorem okc_St_add (K : hK) (B : Nat × Nat) (Q : hPost) : hAllOk (hJ K M_St_add B Q) 0 (code_St_add K B Q) := by
  refine hAllOk.c 0 (ok_aload_n (f := 0) rfl (by decide +kernel) rfl) ?_
  refine hAllOk.c 1 (ok_getfield (idx := 17) (N := 10) (T := TX4) rfl inTb4 (by decide) rfl wd_t_77 (by decide +kernel) rfl) ?_
  refine hAllOk.c 2 (ok_no) ?_
  refine hAllOk.c 3 (ok_no) ?_
  refine hAllOk.c 4 (ok_istore_n (f := 3) rfl (by decide) (by decide +kernel) rfl) ?_
  refine hAllOk.c 5 (ok_aload_n (f := 0) rfl (by decide +kernel) rfl) ?_
  refine hAllOk.c 6 (ok_dup (by decide +kernel) rfl) ?_
  refine hAllOk.c 7 (ok_getfield (idx := 17) (N := 10) (T := TX4) rfl inTb4 (by decide) rfl wd_t_77 (by decide +kernel) rfl) ?_
  refine hAllOk.c 8 (ok_no) ?_
  refine hAllOk.c 9 (ok_no) ?_
  refine hAllOk.c 10 (ok_iconst (n := 1) (by decide +kernel) (by decide +kernel) rfl) ?_
  refine hAllOk.c 11 (ok_iadd (by decide +kernel) rfl) ?_
  refine hAllOk.c 12 (ok_putfield (idx := 17) (N := 10) (T := TX4) tyX4_ok nmX4 rfl rfl inTb4 (by decide) rfl rfl wd_t_77 (by decide +kernel) rfl) ?_
  refine hAllOk.c 13 (ok_no) ?_
  refine hAllOk.c 14 (ok_no) ?_
  refine hAllOk.c 15 (ok_aload_n (f := 0) rfl (by decide +kernel) rfl) ?_
  refine hAllOk.c 16 (ok_iload_n (f := 3) rfl (by decide +kernel) rfl) ?_
  refine hAllOk.c 17 (ok_callV (idx := 51) ⟨wd_t_246, wd_t_2, by decide +kernel, by decide +kernel⟩ rfl rfl wd_t_243 wd_t_245 wd_s_4 (by decide +kernel) rfl) ?_
  refine hAllOk.c 18 (ok_no) ?_
  refine hAllOk.c 19 (ok_no) ?_
  refine hAllOk.c 20 (ok_astore (by decide) (by decide +kernel) rfl) ?_
  refine hAllOk.c 21 (ok_no) ?_
  refine hAllOk.c 22 (ok_aload (by decide +kernel) rfl) ?_
  refine hAllOk.c 23 (ok_no) ?_
  refine hAllOk.c 24 (ok_ifnull (off := 10) (by decide +kernel) (by decide +kernel) rfl) ?_
  refine hAllOk.c 25 (ok_no) ?_
  refine hAllOk.c 26 (ok_no) ?_
  refine hAllOk.c 27 (ok_aload (by decide +kernel) rfl) ?_
  refine hAllOk.c 28 (ok_no) ?_
  refine hAllOk.c 29 (ok_iload_n (f := 1) rfl (by decide +kernel) rfl) ?_
  refine hAllOk.c 30 (ok_iload_n (f := 2) rfl (by decide +kernel) rfl) ?_
  refine hAllOk.c 31 (ok_callVN (idx := 59) ⟨wd_t_262, wd_t_3, by decide +kernel, by decide +kernel⟩ rfl rfl wd_n_259 wd_t_261 wd_s_8 (by decide +kernel) rfl) ?_
  refine hAllOk.c 32 (ok_no) ?_
  refine hAllOk.c 33 (ok_no) ?_
  refine hAllOk.c 34 (ok_iload_n (f := 3) rfl (by decide +kernel) rfl) ?_
  refine hAllOk.c 35 (ok_ireturn (by decide +kernel)) ?_
  trivial
theorem wd_t_223 : Cond.constant RX5 52 (99999) ∈ hTb := hTb_t (List.mem_of_getElem? (i := 223) (by decide +kernel)) (by decide +kernel)
theorem wd_n_78 : Cond.fieldLinkNest RX5 60 RX4 "guestCount" "I" "StableParty" ∈ tables_1 := List.mem_of_getElem? (i := 78) (by decide +kernel)
theorem wd_n_255 : Cond.methodLinkNest RX5 67 yX4_add "StableParty" ∈ tables_1 := List.mem_of_getElem? (i := 255) (by decide +kernel)
theorem wd_t_258 : Cond.code yX4_add prog_6_method_4_code 5 (some .int) ∈ hTb := hTb_t (List.mem_of_getElem? (i := 258) (by decide +kernel)) (by decide +kernel)
theorem wd_t_257 : Cond.instanceMethod yX4_add ∈ hTb := hTb_t (List.mem_of_getElem? (i := 257) (by decide +kernel)) (by decide +kernel)
theorem wd_s_7 : Cond.selects RX4 yX4_add yX4_add ∈ hTb := hTb_s (List.mem_of_getElem? (i := 7) (by decide +kernel)) (by decide +kernel)
def M_Pa_addGuest : hM := (yX5_addGuest, prog_1_method_2_code, 3, (some .int), 4, 91)
def code_Pa_addGuest (K : hK) (B : Nat × Nat) (Q : hPost) : List hSem := [x_iload 1 1, x_const 2 (0), x_const 4 (99999), x_no, x_callS K 7 M_Pa_isWithin 3, x_no, x_no, x_ifeq 20 10, x_no, x_no, x_iload 11 2, x_const 12 (1), x_const 14 (9), x_no, x_callS K 17 M_Pa_isWithin 3, x_no, x_no, x_ifne 23 20, x_no, x_no, x_const 22 (-2), x_no, x_ireturn (some .int) Q, x_aload 24 0, x_getfield 27 5 0, x_no, x_no, x_getfield 30 4 4, x_no, x_no, x_ifeq 36 33, x_no, x_no, x_const 35 (-4), x_no, x_ireturn (some .int) Q, x_aload 37 0, x_getfield 40 5 0, x_no, x_no, x_getfield 43 4 1, x_no, x_no, x_const 45 (12), x_no, x_iclt 51 48, x_no, x_no, x_const 50 (-3), x_no, x_ireturn (some .int) Q, x_aload 52 0, x_getfield 55 5 1, x_no, x_no, x_aload 56 0, x_getfield 59 5 0, x_no, x_no, x_callV K 62 M_Hi_record 1 1, x_no, x_no, x_aload 63 0, x_getfield 66 5 0, x_no, x_no, x_iload 67 1, x_iload 68 2, x_callV K 71 M_St_add 4 2, x_no, x_no, x_ireturn (some .int) Q]
set_option maxRecDepth 100000 in
set_option maxHeartbeats 4000000 in
theorem okc_Pa_addGuest (K : hK) (B : Nat × Nat) (Q : hPost) : hAllOk (hJ K M_Pa_addGuest B Q) 0 (code_Pa_addGuest K B Q) := by
  refine hAllOk.c 0 (ok_iload_n (f := 1) rfl (by decide +kernel) rfl) ?_
  refine hAllOk.c 1 (ok_iconst (n := 0) (by decide +kernel) (by decide +kernel) rfl) ?_
  refine hAllOk.c 2 (ok_ldc (i := 52) wd_t_223 (by decide +kernel) rfl) ?_
  refine hAllOk.c 3 (ok_no) ?_
  refine hAllOk.c 4 (ok_callS (idx := 53) ⟨wd_t_226, wd_t_1, by decide +kernel, by decide +kernel⟩ wd_t_224 wd_t_225 (by decide +kernel) rfl) ?_
  refine hAllOk.c 5 (ok_no) ?_
  refine hAllOk.c 6 (ok_no) ?_
  refine hAllOk.c 7 (ok_ifeq (off := 13) (by decide +kernel) (by decide +kernel) rfl) ?_
  refine hAllOk.c 8 (ok_no) ?_
  refine hAllOk.c 9 (ok_no) ?_
  refine hAllOk.c 10 (ok_iload_n (f := 2) rfl (by decide +kernel) rfl) ?_
  refine hAllOk.c 11 (ok_iconst (n := 1) (by decide +kernel) (by decide +kernel) rfl) ?_
  refine hAllOk.c 12 (ok_bipush (n := 9) (by decide +kernel) (by decide +kernel) rfl) ?_
  refine hAllOk.c 13 (ok_no) ?_
  refine hAllOk.c 14 (ok_callS (idx := 53) ⟨wd_t_226, wd_t_1, by decide +kernel, by decide +kernel⟩ wd_t_224 wd_t_225 (by decide +kernel) rfl) ?_
  refine hAllOk.c 15 (ok_no) ?_
  refine hAllOk.c 16 (ok_no) ?_
  refine hAllOk.c 17 (ok_ifne (off := 6) (by decide +kernel) (by decide +kernel) rfl) ?_
  refine hAllOk.c 18 (ok_no) ?_
  refine hAllOk.c 19 (ok_no) ?_
  refine hAllOk.c 20 (ok_bipush (n := -2) (by decide +kernel) (by decide +kernel) rfl) ?_
  refine hAllOk.c 21 (ok_no) ?_
  refine hAllOk.c 22 (ok_ireturn (by decide +kernel)) ?_
  refine hAllOk.c 23 (ok_aload_n (f := 0) rfl (by decide +kernel) rfl) ?_
  refine hAllOk.c 24 (ok_getfield (idx := 12) (N := 8) (T := TX5) rfl inTb5 (by decide) rfl wd_t_194 (by decide +kernel) rfl) ?_
  refine hAllOk.c 25 (ok_no) ?_
  refine hAllOk.c 26 (ok_no) ?_
  refine hAllOk.c 27 (ok_getfieldN (idx := 57) (N := 10) (T := TX4) rfl inTb4 (by decide) rfl wd_n_84 (by decide +kernel) rfl) ?_
  refine hAllOk.c 28 (ok_no) ?_
  refine hAllOk.c 29 (ok_no) ?_
  refine hAllOk.c 30 (ok_ifeq (off := 6) (by decide +kernel) (by decide +kernel) rfl) ?_
  refine hAllOk.c 31 (ok_no) ?_
  refine hAllOk.c 32 (ok_no) ?_
  refine hAllOk.c 33 (ok_bipush (n := -4) (by decide +kernel) (by decide +kernel) rfl) ?_
  refine hAllOk.c 34 (ok_no) ?_
  refine hAllOk.c 35 (ok_ireturn (by decide +kernel)) ?_
  refine hAllOk.c 36 (ok_aload_n (f := 0) rfl (by decide +kernel) rfl) ?_
  refine hAllOk.c 37 (ok_getfield (idx := 12) (N := 8) (T := TX5) rfl inTb5 (by decide) rfl wd_t_194 (by decide +kernel) rfl) ?_
  refine hAllOk.c 38 (ok_no) ?_
  refine hAllOk.c 39 (ok_no) ?_
  refine hAllOk.c 40 (ok_getfieldN (idx := 60) (N := 10) (T := TX4) rfl inTb4 (by decide) rfl wd_n_78 (by decide +kernel) rfl) ?_
  refine hAllOk.c 41 (ok_no) ?_
  refine hAllOk.c 42 (ok_no) ?_
  refine hAllOk.c 43 (ok_bipush (n := 12) (by decide +kernel) (by decide +kernel) rfl) ?_
  refine hAllOk.c 44 (ok_no) ?_
  refine hAllOk.c 45 (ok_iclt (off := 6) (by decide +kernel) (by decide +kernel) rfl) ?_
  refine hAllOk.c 46 (ok_no) ?_
  refine hAllOk.c 47 (ok_no) ?_
  refine hAllOk.c 48 (ok_bipush (n := -3) (by decide +kernel) (by decide +kernel) rfl) ?_
  refine hAllOk.c 49 (ok_no) ?_
  refine hAllOk.c 50 (ok_ireturn (by decide +kernel)) ?_
  refine hAllOk.c 51 (ok_aload_n (f := 0) rfl (by decide +kernel) rfl) ?_
  refine hAllOk.c 52 (ok_getfield (idx := 19) (N := 8) (T := TX5) rfl inTb5 (by decide) rfl wd_t_195 (by decide +kernel) rfl) ?_
  refine hAllOk.c 53 (ok_no) ?_
  refine hAllOk.c 54 (ok_no) ?_
  refine hAllOk.c 55 (ok_aload_n (f := 0) rfl (by decide +kernel) rfl) ?_
  refine hAllOk.c 56 (ok_getfield (idx := 12) (N := 8) (T := TX5) rfl inTb5 (by decide) rfl wd_t_194 (by decide +kernel) rfl) ?_
  refine hAllOk.c 57 (ok_no) ?_
  refine hAllOk.c 58 (ok_no) ?_
  refine hAllOk.c 59 (ok_callVN (idx := 63) ⟨wd_t_230, wd_t_4, by decide +kernel, by decide +kernel⟩ rfl rfl wd_n_227 wd_t_229 wd_s_0 (by decide +kernel) rfl) ?_
  refine hAllOk.c 60 (ok_no) ?_
  refine hAllOk.c 61 (ok_no) ?_
  refine hAllOk.c 62 (ok_aload_n (f := 0) rfl (by decide +kernel) rfl) ?_
  refine hAllOk.c 63 (ok_getfield (idx := 12) (N := 8) (T := TX5) rfl inTb5 (by decide) rfl wd_t_194 (by decide +kernel) rfl) ?_
  refine hAllOk.c 64 (ok_no) ?_
  refine hAllOk.c 65 (ok_no) ?_
  refine hAllOk.c 66 (ok_iload_n (f := 1) rfl (by decide +kernel) rfl) ?_
  refine hAllOk.c 67 (ok_iload_n (f := 2) rfl (by decide +kernel) rfl) ?_
  refine hAllOk.c 68 (ok_callVN (idx := 67) ⟨wd_t_258, wd_t_2, by decide +kernel, by decide +kernel⟩ rfl rfl wd_n_255 wd_t_257 wd_s_7 (by decide +kernel) rfl) ?_
  refine hAllOk.c 69 (ok_no) ?_
  refine hAllOk.c 70 (ok_no) ?_
  refine hAllOk.c 71 (ok_ireturn (by decide +kernel)) ?_
  trivial
def M_Pa_asNumber : hM := (yX5_asNumber, prog_1_method_33_code, 1, (some .int), 0, 0)
def code_Pa_asNumber (K : hK) (B : Nat × Nat) (Q : hPost) : List hSem := [x_iload 1 0, x_ifeq 8 4, x_no, x_no, x_const 5 (1), x_goto 9, x_no, x_no, x_const 9 (0), x_ireturn (some .int) Q]
set_option maxRecDepth 100000 in
set_option maxHeartbeats 4000000 in
theorem okc_Pa_asNumber (K : hK) (B : Nat × Nat) (Q : hPost) : hAllOk (hJ K M_Pa_asNumber B Q) 0 (code_Pa_asNumber K B Q) := by
  refine hAllOk.c 0 (ok_iload_n (f := 0) rfl (by decide +kernel) rfl) ?_
  refine hAllOk.c 1 (ok_ifeq (off := 7) (by decide +kernel) (by decide +kernel) rfl) ?_
  refine hAllOk.c 2 (ok_no) ?_
  refine hAllOk.c 3 (ok_no) ?_
  refine hAllOk.c 4 (ok_iconst (n := 1) (by decide +kernel) (by decide +kernel) rfl) ?_
  refine hAllOk.c 5 (ok_goto (off := 4) (by decide +kernel) (by decide +kernel)) ?_
  refine hAllOk.c 6 (ok_no) ?_
  refine hAllOk.c 7 (ok_no) ?_
  refine hAllOk.c 8 (ok_iconst (n := 0) (by decide +kernel) (by decide +kernel) rfl) ?_
  refine hAllOk.c 9 (ok_ireturn (by decide +kernel)) ?_
  trivial
theorem wd_n_425 : Cond.methodLinkNest RX0 26 yX5_asNumber "StableParty" ∈ tables_1 := List.mem_of_getElem? (i := 425) (by decide +kernel)
theorem wd_t_416 : Cond.code yX5_asNumber prog_1_method_33_code 1 (some .int) ∈ hTb := hTb_t (List.mem_of_getElem? (i := 416) (by decide +kernel)) (by decide +kernel)
theorem wd_t_415 : Cond.static yX5_asNumber ∈ hTb := hTb_t (List.mem_of_getElem? (i := 415) (by decide +kernel)) (by decide +kernel)
def M_Gu_tell : hM := (yX0_tell, prog_2_method_2_code, 2, (some .int), 1, 20)
def code_Gu_tell (K : hK) (B : Nat × Nat) (Q : hPost) : List hSem := [x_iload 1 1, x_tab 91 [(0, 48), (1, 53), (2, 58), (3, 66), (4, 71), (5, 76), (6, 81), (7, 86)], x_no, x_no, x_no, x_no, x_no, x_no, x_no, x_no, x_no, x_no, x_no, x_no, x_no, x_no, x_no, x_no, x_no, x_no, x_no, x_no, x_no, x_no, x_no, x_no, x_no, x_no, x_no, x_no, x_no, x_no, x_no, x_no, x_no, x_no, x_no, x_no, x_no, x_no, x_no, x_no, x_no, x_no, x_no, x_no, x_no, x_no, x_aload 49 0, x_getfield 52 0 0, x_no, x_no, x_ireturn (some .int) Q, x_aload 54 0, x_getfield 57 0 1, x_no, x_no, x_ireturn (some .int) Q, x_aload 59 0, x_getfield 62 0 2, x_no, x_no, x_callS K 65 M_Pa_asNumber 1, x_no, x_no, x_ireturn (some .int) Q, x_aload 67 0, x_getfield 70 0 3, x_no, x_no, x_ireturn (some .int) Q, x_aload 72 0, x_getfield 75 0 7, x_no, x_no, x_ireturn (some .int) Q, x_aload 77 0, x_getfield 80 0 4, x_no, x_no, x_ireturn (some .int) Q, x_aload 82 0, x_getfield 85 0 5, x_no, x_no, x_ireturn (some .int) Q, x_aload 87 0, x_getfield 90 0 6, x_no, x_no, x_ireturn (some .int) Q, x_const 93 (-2), x_no, x_ireturn (some .int) Q]
set_option maxRecDepth 100000 in
set_option maxHeartbeats 4000000 in
theorem okc_Gu_tell (K : hK) (B : Nat × Nat) (Q : hPost) : hAllOk (hJ K M_Gu_tell B Q) 0 (code_Gu_tell K B Q) := by
  refine hAllOk.c 0 (ok_iload_n (f := 1) rfl (by decide +kernel) rfl) ?_
  refine hAllOk.c 1 (ok_tab (dflt := 90) (lo := 0) (hi := 7) (offs := #[47, 52, 57, 65, 70, 75, 80, 85]) (len := 47) (by decide +kernel) (by decide +kernel) (by decide +kernel) (by decide +kernel)) ?_
  refine hAllOk.c 2 (ok_no) ?_
  refine hAllOk.c 3 (ok_no) ?_
  refine hAllOk.c 4 (ok_no) ?_
  refine hAllOk.c 5 (ok_no) ?_
  refine hAllOk.c 6 (ok_no) ?_
  refine hAllOk.c 7 (ok_no) ?_
  refine hAllOk.c 8 (ok_no) ?_
  refine hAllOk.c 9 (ok_no) ?_
  refine hAllOk.c 10 (ok_no) ?_
  refine hAllOk.c 11 (ok_no) ?_
  refine hAllOk.c 12 (ok_no) ?_
  refine hAllOk.c 13 (ok_no) ?_
  refine hAllOk.c 14 (ok_no) ?_
  refine hAllOk.c 15 (ok_no) ?_
  refine hAllOk.c 16 (ok_no) ?_
  refine hAllOk.c 17 (ok_no) ?_
  refine hAllOk.c 18 (ok_no) ?_
  refine hAllOk.c 19 (ok_no) ?_
  refine hAllOk.c 20 (ok_no) ?_
  refine hAllOk.c 21 (ok_no) ?_
  refine hAllOk.c 22 (ok_no) ?_
  refine hAllOk.c 23 (ok_no) ?_
  refine hAllOk.c 24 (ok_no) ?_
  refine hAllOk.c 25 (ok_no) ?_
  refine hAllOk.c 26 (ok_no) ?_
  refine hAllOk.c 27 (ok_no) ?_
  refine hAllOk.c 28 (ok_no) ?_
  refine hAllOk.c 29 (ok_no) ?_
  refine hAllOk.c 30 (ok_no) ?_
  refine hAllOk.c 31 (ok_no) ?_
  refine hAllOk.c 32 (ok_no) ?_
  refine hAllOk.c 33 (ok_no) ?_
  refine hAllOk.c 34 (ok_no) ?_
  refine hAllOk.c 35 (ok_no) ?_
  refine hAllOk.c 36 (ok_no) ?_
  refine hAllOk.c 37 (ok_no) ?_
  refine hAllOk.c 38 (ok_no) ?_
  refine hAllOk.c 39 (ok_no) ?_
  refine hAllOk.c 40 (ok_no) ?_
  refine hAllOk.c 41 (ok_no) ?_
  refine hAllOk.c 42 (ok_no) ?_
  refine hAllOk.c 43 (ok_no) ?_
  refine hAllOk.c 44 (ok_no) ?_
  refine hAllOk.c 45 (ok_no) ?_
  refine hAllOk.c 46 (ok_no) ?_
  refine hAllOk.c 47 (ok_no) ?_
  refine hAllOk.c 48 (ok_aload_n (f := 0) rfl (by decide +kernel) rfl) ?_
  refine hAllOk.c 49 (ok_getfield (idx := 15) (N := 10) (T := TX0) rfl inTb0 (by decide) rfl wd_t_29 (by decide +kernel) rfl) ?_
  refine hAllOk.c 50 (ok_no) ?_
  refine hAllOk.c 51 (ok_no) ?_
  refine hAllOk.c 52 (ok_ireturn (by decide +kernel)) ?_
  refine hAllOk.c 53 (ok_aload_n (f := 0) rfl (by decide +kernel) rfl) ?_
  refine hAllOk.c 54 (ok_getfield (idx := 19) (N := 10) (T := TX0) rfl inTb0 (by decide) rfl wd_t_33 (by decide +kernel) rfl) ?_
  refine hAllOk.c 55 (ok_no) ?_
  refine hAllOk.c 56 (ok_no) ?_
  refine hAllOk.c 57 (ok_ireturn (by decide +kernel)) ?_
  refine hAllOk.c 58 (ok_aload_n (f := 0) rfl (by decide +kernel) rfl) ?_
  refine hAllOk.c 59 (ok_getfield (idx := 22) (N := 10) (T := TX0) rfl inTb0 (by decide) rfl wd_t_36 (by decide +kernel) rfl) ?_
  refine hAllOk.c 60 (ok_no) ?_
  refine hAllOk.c 61 (ok_no) ?_
  refine hAllOk.c 62 (ok_callSN (idx := 26) ⟨wd_t_416, wd_t_1, by decide +kernel, by decide +kernel⟩ wd_n_425 wd_t_415 (by decide +kernel) rfl) ?_
  refine hAllOk.c 63 (ok_no) ?_
  refine hAllOk.c 64 (ok_no) ?_
  refine hAllOk.c 65 (ok_ireturn (by decide +kernel)) ?_
  refine hAllOk.c 66 (ok_aload_n (f := 0) rfl (by decide +kernel) rfl) ?_
  refine hAllOk.c 67 (ok_getfield (idx := 30) (N := 10) (T := TX0) rfl inTb0 (by decide) rfl wd_t_39 (by decide +kernel) rfl) ?_
  refine hAllOk.c 68 (ok_no) ?_
  refine hAllOk.c 69 (ok_no) ?_
  refine hAllOk.c 70 (ok_ireturn (by decide +kernel)) ?_
  refine hAllOk.c 71 (ok_aload_n (f := 0) rfl (by decide +kernel) rfl) ?_
  refine hAllOk.c 72 (ok_getfield (idx := 33) (N := 10) (T := TX0) rfl inTb0 (by decide) rfl wd_t_47 (by decide +kernel) rfl) ?_
  refine hAllOk.c 73 (ok_no) ?_
  refine hAllOk.c 74 (ok_no) ?_
  refine hAllOk.c 75 (ok_ireturn (by decide +kernel)) ?_
  refine hAllOk.c 76 (ok_aload_n (f := 0) rfl (by decide +kernel) rfl) ?_
  refine hAllOk.c 77 (ok_getfield (idx := 36) (N := 10) (T := TX0) rfl inTb0 (by decide) rfl wd_t_41 (by decide +kernel) rfl) ?_
  refine hAllOk.c 78 (ok_no) ?_
  refine hAllOk.c 79 (ok_no) ?_
  refine hAllOk.c 80 (ok_ireturn (by decide +kernel)) ?_
  refine hAllOk.c 81 (ok_aload_n (f := 0) rfl (by decide +kernel) rfl) ?_
  refine hAllOk.c 82 (ok_getfield (idx := 39) (N := 10) (T := TX0) rfl inTb0 (by decide) rfl wd_t_43 (by decide +kernel) rfl) ?_
  refine hAllOk.c 83 (ok_no) ?_
  refine hAllOk.c 84 (ok_no) ?_
  refine hAllOk.c 85 (ok_ireturn (by decide +kernel)) ?_
  refine hAllOk.c 86 (ok_aload_n (f := 0) rfl (by decide +kernel) rfl) ?_
  refine hAllOk.c 87 (ok_getfield (idx := 42) (N := 10) (T := TX0) rfl inTb0 (by decide) rfl wd_t_45 (by decide +kernel) rfl) ?_
  refine hAllOk.c 88 (ok_no) ?_
  refine hAllOk.c 89 (ok_no) ?_
  refine hAllOk.c 90 (ok_ireturn (by decide +kernel)) ?_
  refine hAllOk.c 91 (ok_bipush (n := -2) (by decide +kernel) (by decide +kernel) rfl) ?_
  refine hAllOk.c 92 (ok_no) ?_
  refine hAllOk.c 93 (ok_ireturn (by decide +kernel)) ?_
  trivial
theorem wd_n_421 : Cond.methodLinkNest RX4 115 yX0_tell "StableParty" ∈ tables_1 := List.mem_of_getElem? (i := 421) (by decide +kernel)
theorem wd_t_424 : Cond.code yX0_tell prog_2_method_2_code 2 (some .int) ∈ hTb := hTb_t (List.mem_of_getElem? (i := 424) (by decide +kernel)) (by decide +kernel)
theorem wd_t_423 : Cond.instanceMethod yX0_tell ∈ hTb := hTb_t (List.mem_of_getElem? (i := 423) (by decide +kernel)) (by decide +kernel)
theorem wd_s_28 : Cond.selects RX0 yX0_tell yX0_tell ∈ hTb := hTb_s (List.mem_of_getElem? (i := 28) (by decide +kernel)) (by decide +kernel)
def M_St_sumOf : hM := (yX4_sumOf, prog_6_method_16_code, 5, (some .int), 2, 41)
def code_St_sumOf (K : hK) (B : Nat × Nat) (Q : hPost) : List hSem := [x_const 1 (0), x_istore 2 2, x_const 3 (0), x_istore 4 3, x_iload 5 3, x_const 7 (12), x_no, x_icge 41 10, x_no, x_no, x_aload 11 0, x_iload 12 3, x_callV K 15 M_St_find 4 1, x_no, x_no, x_astore 17 4, x_no, x_iload 18 2, x_aload 20 4, x_no, x_ifnonnull 27 23, x_no, x_no, x_const 24 (0), x_goto 33, x_no, x_no, x_aload 29 4, x_no, x_iload 30 1, x_callV K 33 M_Gu_tell 0 1, x_no, x_no, x_iadd 34, x_istore 35 2, x_iinc 38 3 (1), x_no, x_no, x_goto 4, x_no, x_no, x_iload 42 2, x_ireturn (some .int) Q]
set_option maxRecDepth 100000 in
set_option maxHeartbeats 4000000 in
theorem okc_St_sumOf (K : hK) (B : Nat × Nat) (Q : hPost) : hAllOk (hJ K M_St_sumOf B Q) 0 (code_St_sumOf K B Q) := by
  refine hAllOk.c 0 (ok_iconst (n := 0) (by decide +kernel) (by decide +kernel) rfl) ?_
  refine hAllOk.c 1 (ok_istore_n (f := 2) rfl (by decide) (by decide +kernel) rfl) ?_
  refine hAllOk.c 2 (ok_iconst (n := 0) (by decide +kernel) (by decide +kernel) rfl) ?_
  refine hAllOk.c 3 (ok_istore_n (f := 3) rfl (by decide) (by decide +kernel) rfl) ?_
  refine hAllOk.c 4 (ok_iload_n (f := 3) rfl (by decide +kernel) rfl) ?_
  refine hAllOk.c 5 (ok_bipush (n := 12) (by decide +kernel) (by decide +kernel) rfl) ?_
  refine hAllOk.c 6 (ok_no) ?_
  refine hAllOk.c 7 (ok_icge (off := 34) (by decide +kernel) (by decide +kernel) rfl) ?_
  refine hAllOk.c 8 (ok_no) ?_
  refine hAllOk.c 9 (ok_no) ?_
  refine hAllOk.c 10 (ok_aload_n (f := 0) rfl (by decide +kernel) rfl) ?_
  refine hAllOk.c 11 (ok_iload_n (f := 3) rfl (by decide +kernel) rfl) ?_
  refine hAllOk.c 12 (ok_callV (idx := 51) ⟨wd_t_246, wd_t_2, by decide +kernel, by decide +kernel⟩ rfl rfl wd_t_243 wd_t_245 wd_s_4 (by decide +kernel) rfl) ?_
  refine hAllOk.c 13 (ok_no) ?_
  refine hAllOk.c 14 (ok_no) ?_
  refine hAllOk.c 15 (ok_astore (by decide) (by decide +kernel) rfl) ?_
  refine hAllOk.c 16 (ok_no) ?_
  refine hAllOk.c 17 (ok_iload_n (f := 2) rfl (by decide +kernel) rfl) ?_
  refine hAllOk.c 18 (ok_aload (by decide +kernel) rfl) ?_
  refine hAllOk.c 19 (ok_no) ?_
  refine hAllOk.c 20 (ok_ifnonnull (off := 7) (by decide +kernel) (by decide +kernel) rfl) ?_
  refine hAllOk.c 21 (ok_no) ?_
  refine hAllOk.c 22 (ok_no) ?_
  refine hAllOk.c 23 (ok_iconst (n := 0) (by decide +kernel) (by decide +kernel) rfl) ?_
  refine hAllOk.c 24 (ok_goto (off := 9) (by decide +kernel) (by decide +kernel)) ?_
  refine hAllOk.c 25 (ok_no) ?_
  refine hAllOk.c 26 (ok_no) ?_
  refine hAllOk.c 27 (ok_aload (by decide +kernel) rfl) ?_
  refine hAllOk.c 28 (ok_no) ?_
  refine hAllOk.c 29 (ok_iload_n (f := 1) rfl (by decide +kernel) rfl) ?_
  refine hAllOk.c 30 (ok_callVN (idx := 115) ⟨wd_t_424, wd_t_3, by decide +kernel, by decide +kernel⟩ rfl rfl wd_n_421 wd_t_423 wd_s_28 (by decide +kernel) rfl) ?_
  refine hAllOk.c 31 (ok_no) ?_
  refine hAllOk.c 32 (ok_no) ?_
  refine hAllOk.c 33 (ok_iadd (by decide +kernel) rfl) ?_
  refine hAllOk.c 34 (ok_istore_n (f := 2) rfl (by decide) (by decide +kernel) rfl) ?_
  refine hAllOk.c 35 (ok_iinc (n := 1) (by decide +kernel) (by decide) (by decide +kernel) rfl) ?_
  refine hAllOk.c 36 (ok_no) ?_
  refine hAllOk.c 37 (ok_no) ?_
  refine hAllOk.c 38 (ok_goto (off := (-34)) (by decide +kernel) (by decide +kernel)) ?_
  refine hAllOk.c 39 (ok_no) ?_
  refine hAllOk.c 40 (ok_no) ?_
  refine hAllOk.c 41 (ok_iload_n (f := 2) rfl (by decide +kernel) rfl) ?_
  refine hAllOk.c 42 (ok_ireturn (by decide +kernel)) ?_
  trivial
theorem wd_n_82 : Cond.fieldLinkNest RX5 126 RX4 "day" "I" "StableParty" ∈ tables_1 := List.mem_of_getElem? (i := 82) (by decide +kernel)
theorem wd_t_414 : Cond.methodLink RX5 163 yX5_asNumber ∈ hTb := hTb_t (List.mem_of_getElem? (i := 414) (by decide +kernel)) (by decide +kernel)
theorem wd_n_417 : Cond.methodLinkNest RX5 199 yX4_sumOf "StableParty" ∈ tables_1 := List.mem_of_getElem? (i := 417) (by decide +kernel)
theorem wd_t_420 : Cond.code yX4_sumOf prog_6_method_16_code 5 (some .int) ∈ hTb := hTb_t (List.mem_of_getElem? (i := 420) (by decide +kernel)) (by decide +kernel)
theorem wd_t_419 : Cond.instanceMethod yX4_sumOf ∈ hTb := hTb_t (List.mem_of_getElem? (i := 419) (by decide +kernel)) (by decide +kernel)
theorem wd_s_27 : Cond.selects RX4 yX4_sumOf yX4_sumOf ∈ hTb := hTb_s (List.mem_of_getElem? (i := 27) (by decide +kernel)) (by decide +kernel)
theorem wd_n_89 : Cond.fieldLinkNest RX5 202 RX4 "fixedSoFar" "I" "StableParty" ∈ tables_1 := List.mem_of_getElem? (i := 89) (by decide +kernel)
theorem wd_n_91 : Cond.fieldLinkNest RX5 205 RX4 "cancelledSoFar" "I" "StableParty" ∈ tables_1 := List.mem_of_getElem? (i := 91) (by decide +kernel)
theorem wd_n_93 : Cond.fieldLinkNest RX5 208 RX4 "followedSoFar" "I" "StableParty" ∈ tables_1 := List.mem_of_getElem? (i := 93) (by decide +kernel)
theorem wd_n_126 : Cond.fieldLinkNest RX5 148 RX1 "size" "I" "StableParty" ∈ tables_1 := List.mem_of_getElem? (i := 126) (by decide +kernel)
def M_Pa_count : hM := (yX5_count, prog_1_method_29_code, 2, (some .int), 3, 65)
def code_Pa_count (K : hK) (B : Nat × Nat) (Q : hPost) : List hSem := [x_iload 1 1, x_tab 237 [(0, 84), (1, 92), (2, 100), (3, 111), (4, 121), (5, 131), (6, 141), (7, 151), (8, 161), (9, 172), (10, 181), (11, 191), (12, 199), (13, 207), (14, 215), (15, 224), (16, 232)], x_no, x_no, x_no, x_no, x_no, x_no, x_no, x_no, x_no, x_no, x_no, x_no, x_no, x_no, x_no, x_no, x_no, x_no, x_no, x_no, x_no, x_no, x_no, x_no, x_no, x_no, x_no, x_no, x_no, x_no, x_no, x_no, x_no, x_no, x_no, x_no, x_no, x_no, x_no, x_no, x_no, x_no, x_no, x_no, x_no, x_no, x_no, x_no, x_no, x_no, x_no, x_no, x_no, x_no, x_no, x_no, x_no, x_no, x_no, x_no, x_no, x_no, x_no, x_no, x_no, x_no, x_no, x_no, x_no, x_no, x_no, x_no, x_no, x_no, x_no, x_no, x_no, x_no, x_no, x_no, x_no, x_no, x_aload 85 0, x_getfield 88 5 0, x_no, x_no, x_getfield 91 4 3, x_no, x_no, x_ireturn (some .int) Q, x_aload 93 0, x_getfield 96 5 0, x_no, x_no, x_getfield 99 4 1, x_no, x_no, x_ireturn (some .int) Q, x_aload 101 0, x_getfield 104 5 0, x_no, x_no, x_callV K 107 M_St_invitedGuests 4 0, x_no, x_no, x_callS K 110 M_In_bitCount 1, x_no, x_no, x_ireturn (some .int) Q, x_aload 112 0, x_getfield 115 5 0, x_no, x_no, x_getfield 118 4 2, x_no, x_no, x_const 119 (0), x_iaload K 120, x_ireturn (some .int) Q, x_aload 122 0, x_getfield 125 5 0, x_no, x_no, x_getfield 128 4 2, x_no, x_no, x_const 129 (1), x_iaload K 130, x_ireturn (some .int) Q, x_aload 132 0, x_getfield 135 5 0, x_no, x_no, x_getfield 138 4 2, x_no, x_no, x_const 139 (2), x_iaload K 140, x_ireturn (some .int) Q, x_aload 142 0, x_getfield 145 5 0, x_no, x_no, x_getfield 148 4 2, x_no, x_no, x_const 149 (3), x_iaload K 150, x_ireturn (some .int) Q, x_aload 152 0, x_getfield 155 5 0, x_no, x_no, x_getfield 158 4 2, x_no, x_no, x_const 159 (4), x_iaload K 160, x_ireturn (some .int) Q, x_aload 162 0, x_getfield 165 5 0, x_no, x_no, x_getfield 168 4 4, x_no, x_no, x_callS K 171 M_Pa_asNumber 1, x_no, x_no, x_ireturn (some .int) Q, x_aload 173 0, x_getfield 176 5 0, x_no, x_no, x_const 177 (5), x_callV K 180 M_St_sumOf 4 1, x_no, x_no, x_ireturn (some .int) Q, x_aload 182 0, x_getfield 185 5 0, x_no, x_no, x_const 187 (6), x_no, x_callV K 190 M_St_sumOf 4 1, x_no, x_no, x_ireturn (some .int) Q, x_aload 192 0, x_getfield 195 5 0, x_no, x_no, x_getfield 198 4 7, x_no, x_no, x_ireturn (some .int) Q, x_aload 200 0, x_getfield 203 5 0, x_no, x_no, x_getfield 206 4 8, x_no, x_no, x_ireturn (some .int) Q, x_aload 208 0, x_getfield 211 5 0, x_no, x_no, x_getfield 214 4 9, x_no, x_no, x_ireturn (some .int) Q, x_aload 216 0, x_getfield 219 5 0, x_no, x_no, x_const 220 (3), x_callV K 223 M_St_sumOf 4 1, x_no, x_no, x_ireturn (some .int) Q, x_aload 225 0, x_getfield 228 5 1, x_no, x_no, x_getfield 231 1 1, x_no, x_no, x_ireturn (some .int) Q, x_aload 233 0, x_getfield 236 5 5, x_no, x_no, x_ireturn (some .int) Q, x_const 239 (-2), x_no, x_ireturn (some .int) Q]
set_option maxRecDepth 100000 in
set_option maxHeartbeats 4000000 in
theorem okc_Pa_count (K : hK) (B : Nat × Nat) (Q : hPost) : hAllOk (hJ K M_Pa_count B Q) 0 (code_Pa_count K B Q) := by
  refine hAllOk.c 0 (ok_iload_n (f := 1) rfl (by decide +kernel) rfl) ?_
  refine hAllOk.c 1 (ok_tab (dflt := 236) (lo := 0) (hi := 16) (offs := #[83, 91, 99, 110, 120, 130, 140, 150, 160, 171, 180, 190, 198, 206, 214, 223, 231]) (len := 83) (by decide +kernel) (by decide +kernel) (by decide +kernel) (by decide +kernel)) ?_
  refine hAllOk.c 2 (ok_no) ?_
  refine hAllOk.c 3 (ok_no) ?_
  refine hAllOk.c 4 (ok_no) ?_
  refine hAllOk.c 5 (ok_no) ?_
  refine hAllOk.c 6 (ok_no) ?_
  refine hAllOk.c 7 (ok_no) ?_
  refine hAllOk.c 8 (ok_no) ?_
  refine hAllOk.c 9 (ok_no) ?_
  refine hAllOk.c 10 (ok_no) ?_
  refine hAllOk.c 11 (ok_no) ?_
  refine hAllOk.c 12 (ok_no) ?_
  refine hAllOk.c 13 (ok_no) ?_
  refine hAllOk.c 14 (ok_no) ?_
  refine hAllOk.c 15 (ok_no) ?_
  refine hAllOk.c 16 (ok_no) ?_
  refine hAllOk.c 17 (ok_no) ?_
  refine hAllOk.c 18 (ok_no) ?_
  refine hAllOk.c 19 (ok_no) ?_
  refine hAllOk.c 20 (ok_no) ?_
  refine hAllOk.c 21 (ok_no) ?_
  refine hAllOk.c 22 (ok_no) ?_
  refine hAllOk.c 23 (ok_no) ?_
  refine hAllOk.c 24 (ok_no) ?_
  refine hAllOk.c 25 (ok_no) ?_
  refine hAllOk.c 26 (ok_no) ?_
  refine hAllOk.c 27 (ok_no) ?_
  refine hAllOk.c 28 (ok_no) ?_
  refine hAllOk.c 29 (ok_no) ?_
  refine hAllOk.c 30 (ok_no) ?_
  refine hAllOk.c 31 (ok_no) ?_
  refine hAllOk.c 32 (ok_no) ?_
  refine hAllOk.c 33 (ok_no) ?_
  refine hAllOk.c 34 (ok_no) ?_
  refine hAllOk.c 35 (ok_no) ?_
  refine hAllOk.c 36 (ok_no) ?_
  refine hAllOk.c 37 (ok_no) ?_
  refine hAllOk.c 38 (ok_no) ?_
  refine hAllOk.c 39 (ok_no) ?_
  refine hAllOk.c 40 (ok_no) ?_
  refine hAllOk.c 41 (ok_no) ?_
  refine hAllOk.c 42 (ok_no) ?_
  refine hAllOk.c 43 (ok_no) ?_
  refine hAllOk.c 44 (ok_no) ?_
  refine hAllOk.c 45 (ok_no) ?_
  refine hAllOk.c 46 (ok_no) ?_
  refine hAllOk.c 47 (ok_no) ?_
  refine hAllOk.c 48 (ok_no) ?_
  refine hAllOk.c 49 (ok_no) ?_
  refine hAllOk.c 50 (ok_no) ?_
  refine hAllOk.c 51 (ok_no) ?_
  refine hAllOk.c 52 (ok_no) ?_
  refine hAllOk.c 53 (ok_no) ?_
  refine hAllOk.c 54 (ok_no) ?_
  refine hAllOk.c 55 (ok_no) ?_
  refine hAllOk.c 56 (ok_no) ?_
  refine hAllOk.c 57 (ok_no) ?_
  refine hAllOk.c 58 (ok_no) ?_
  refine hAllOk.c 59 (ok_no) ?_
  refine hAllOk.c 60 (ok_no) ?_
  refine hAllOk.c 61 (ok_no) ?_
  refine hAllOk.c 62 (ok_no) ?_
  refine hAllOk.c 63 (ok_no) ?_
  refine hAllOk.c 64 (ok_no) ?_
  refine hAllOk.c 65 (ok_no) ?_
  refine hAllOk.c 66 (ok_no) ?_
  refine hAllOk.c 67 (ok_no) ?_
  refine hAllOk.c 68 (ok_no) ?_
  refine hAllOk.c 69 (ok_no) ?_
  refine hAllOk.c 70 (ok_no) ?_
  refine hAllOk.c 71 (ok_no) ?_
  refine hAllOk.c 72 (ok_no) ?_
  refine hAllOk.c 73 (ok_no) ?_
  refine hAllOk.c 74 (ok_no) ?_
  refine hAllOk.c 75 (ok_no) ?_
  refine hAllOk.c 76 (ok_no) ?_
  refine hAllOk.c 77 (ok_no) ?_
  refine hAllOk.c 78 (ok_no) ?_
  refine hAllOk.c 79 (ok_no) ?_
  refine hAllOk.c 80 (ok_no) ?_
  refine hAllOk.c 81 (ok_no) ?_
  refine hAllOk.c 82 (ok_no) ?_
  refine hAllOk.c 83 (ok_no) ?_
  refine hAllOk.c 84 (ok_aload_n (f := 0) rfl (by decide +kernel) rfl) ?_
  refine hAllOk.c 85 (ok_getfield (idx := 12) (N := 8) (T := TX5) rfl inTb5 (by decide) rfl wd_t_194 (by decide +kernel) rfl) ?_
  refine hAllOk.c 86 (ok_no) ?_
  refine hAllOk.c 87 (ok_no) ?_
  refine hAllOk.c 88 (ok_getfieldN (idx := 126) (N := 10) (T := TX4) rfl inTb4 (by decide) rfl wd_n_82 (by decide +kernel) rfl) ?_
  refine hAllOk.c 89 (ok_no) ?_
  refine hAllOk.c 90 (ok_no) ?_
  refine hAllOk.c 91 (ok_ireturn (by decide +kernel)) ?_
  refine hAllOk.c 92 (ok_aload_n (f := 0) rfl (by decide +kernel) rfl) ?_
  refine hAllOk.c 93 (ok_getfield (idx := 12) (N := 8) (T := TX5) rfl inTb5 (by decide) rfl wd_t_194 (by decide +kernel) rfl) ?_
  refine hAllOk.c 94 (ok_no) ?_
  refine hAllOk.c 95 (ok_no) ?_
  refine hAllOk.c 96 (ok_getfieldN (idx := 60) (N := 10) (T := TX4) rfl inTb4 (by decide) rfl wd_n_78 (by decide +kernel) rfl) ?_
  refine hAllOk.c 97 (ok_no) ?_
  refine hAllOk.c 98 (ok_no) ?_
  refine hAllOk.c 99 (ok_ireturn (by decide +kernel)) ?_
  refine hAllOk.c 100 (ok_aload_n (f := 0) rfl (by decide +kernel) rfl) ?_
  refine hAllOk.c 101 (ok_getfield (idx := 12) (N := 8) (T := TX5) rfl inTb5 (by decide) rfl wd_t_194 (by decide +kernel) rfl) ?_
  refine hAllOk.c 102 (ok_no) ?_
  refine hAllOk.c 103 (ok_no) ?_
  refine hAllOk.c 104 (ok_callVN (idx := 112) ⟨wd_t_293, wd_t_2, by decide +kernel, by decide +kernel⟩ rfl rfl wd_n_290 wd_t_292 wd_s_11 (by decide +kernel) rfl) ?_
  refine hAllOk.c 105 (ok_no) ?_
  refine hAllOk.c 106 (ok_no) ?_
  refine hAllOk.c 107 (ok_callS (idx := 97) ⟨wd_t_319, wd_t_7, by decide +kernel, by decide +kernel⟩ wd_t_336 wd_t_318 (by decide +kernel) rfl) ?_
  refine hAllOk.c 108 (ok_no) ?_
  refine hAllOk.c 109 (ok_no) ?_
  refine hAllOk.c 110 (ok_ireturn (by decide +kernel)) ?_
  refine hAllOk.c 111 (ok_aload_n (f := 0) rfl (by decide +kernel) rfl) ?_
  refine hAllOk.c 112 (ok_getfield (idx := 12) (N := 8) (T := TX5) rfl inTb5 (by decide) rfl wd_t_194 (by decide +kernel) rfl) ?_
  refine hAllOk.c 113 (ok_no) ?_
  refine hAllOk.c 114 (ok_no) ?_
  refine hAllOk.c 115 (ok_getfieldN (idx := 123) (N := 10) (T := TX4) rfl inTb4 (by decide) rfl wd_n_80 (by decide +kernel) rfl) ?_
  refine hAllOk.c 116 (ok_no) ?_
  refine hAllOk.c 117 (ok_no) ?_
  refine hAllOk.c 118 (ok_iconst (n := 0) (by decide +kernel) (by decide +kernel) rfl) ?_
  refine hAllOk.c 119 (ok_iaload (by decide +kernel) rfl) ?_
  refine hAllOk.c 120 (ok_ireturn (by decide +kernel)) ?_
  refine hAllOk.c 121 (ok_aload_n (f := 0) rfl (by decide +kernel) rfl) ?_
  refine hAllOk.c 122 (ok_getfield (idx := 12) (N := 8) (T := TX5) rfl inTb5 (by decide) rfl wd_t_194 (by decide +kernel) rfl) ?_
  refine hAllOk.c 123 (ok_no) ?_
  refine hAllOk.c 124 (ok_no) ?_
  refine hAllOk.c 125 (ok_getfieldN (idx := 123) (N := 10) (T := TX4) rfl inTb4 (by decide) rfl wd_n_80 (by decide +kernel) rfl) ?_
  refine hAllOk.c 126 (ok_no) ?_
  refine hAllOk.c 127 (ok_no) ?_
  refine hAllOk.c 128 (ok_iconst (n := 1) (by decide +kernel) (by decide +kernel) rfl) ?_
  refine hAllOk.c 129 (ok_iaload (by decide +kernel) rfl) ?_
  refine hAllOk.c 130 (ok_ireturn (by decide +kernel)) ?_
  refine hAllOk.c 131 (ok_aload_n (f := 0) rfl (by decide +kernel) rfl) ?_
  refine hAllOk.c 132 (ok_getfield (idx := 12) (N := 8) (T := TX5) rfl inTb5 (by decide) rfl wd_t_194 (by decide +kernel) rfl) ?_
  refine hAllOk.c 133 (ok_no) ?_
  refine hAllOk.c 134 (ok_no) ?_
  refine hAllOk.c 135 (ok_getfieldN (idx := 123) (N := 10) (T := TX4) rfl inTb4 (by decide) rfl wd_n_80 (by decide +kernel) rfl) ?_
  refine hAllOk.c 136 (ok_no) ?_
  refine hAllOk.c 137 (ok_no) ?_
  refine hAllOk.c 138 (ok_iconst (n := 2) (by decide +kernel) (by decide +kernel) rfl) ?_
  refine hAllOk.c 139 (ok_iaload (by decide +kernel) rfl) ?_
  refine hAllOk.c 140 (ok_ireturn (by decide +kernel)) ?_
  refine hAllOk.c 141 (ok_aload_n (f := 0) rfl (by decide +kernel) rfl) ?_
  refine hAllOk.c 142 (ok_getfield (idx := 12) (N := 8) (T := TX5) rfl inTb5 (by decide) rfl wd_t_194 (by decide +kernel) rfl) ?_
  refine hAllOk.c 143 (ok_no) ?_
  refine hAllOk.c 144 (ok_no) ?_
  refine hAllOk.c 145 (ok_getfieldN (idx := 123) (N := 10) (T := TX4) rfl inTb4 (by decide) rfl wd_n_80 (by decide +kernel) rfl) ?_
  refine hAllOk.c 146 (ok_no) ?_
  refine hAllOk.c 147 (ok_no) ?_
  refine hAllOk.c 148 (ok_iconst (n := 3) (by decide +kernel) (by decide +kernel) rfl) ?_
  refine hAllOk.c 149 (ok_iaload (by decide +kernel) rfl) ?_
  refine hAllOk.c 150 (ok_ireturn (by decide +kernel)) ?_
  refine hAllOk.c 151 (ok_aload_n (f := 0) rfl (by decide +kernel) rfl) ?_
  refine hAllOk.c 152 (ok_getfield (idx := 12) (N := 8) (T := TX5) rfl inTb5 (by decide) rfl wd_t_194 (by decide +kernel) rfl) ?_
  refine hAllOk.c 153 (ok_no) ?_
  refine hAllOk.c 154 (ok_no) ?_
  refine hAllOk.c 155 (ok_getfieldN (idx := 123) (N := 10) (T := TX4) rfl inTb4 (by decide) rfl wd_n_80 (by decide +kernel) rfl) ?_
  refine hAllOk.c 156 (ok_no) ?_
  refine hAllOk.c 157 (ok_no) ?_
  refine hAllOk.c 158 (ok_iconst (n := 4) (by decide +kernel) (by decide +kernel) rfl) ?_
  refine hAllOk.c 159 (ok_iaload (by decide +kernel) rfl) ?_
  refine hAllOk.c 160 (ok_ireturn (by decide +kernel)) ?_
  refine hAllOk.c 161 (ok_aload_n (f := 0) rfl (by decide +kernel) rfl) ?_
  refine hAllOk.c 162 (ok_getfield (idx := 12) (N := 8) (T := TX5) rfl inTb5 (by decide) rfl wd_t_194 (by decide +kernel) rfl) ?_
  refine hAllOk.c 163 (ok_no) ?_
  refine hAllOk.c 164 (ok_no) ?_
  refine hAllOk.c 165 (ok_getfieldN (idx := 57) (N := 10) (T := TX4) rfl inTb4 (by decide) rfl wd_n_84 (by decide +kernel) rfl) ?_
  refine hAllOk.c 166 (ok_no) ?_
  refine hAllOk.c 167 (ok_no) ?_
  refine hAllOk.c 168 (ok_callS (idx := 163) ⟨wd_t_416, wd_t_1, by decide +kernel, by decide +kernel⟩ wd_t_414 wd_t_415 (by decide +kernel) rfl) ?_
  refine hAllOk.c 169 (ok_no) ?_
  refine hAllOk.c 170 (ok_no) ?_
  refine hAllOk.c 171 (ok_ireturn (by decide +kernel)) ?_
  refine hAllOk.c 172 (ok_aload_n (f := 0) rfl (by decide +kernel) rfl) ?_
  refine hAllOk.c 173 (ok_getfield (idx := 12) (N := 8) (T := TX5) rfl inTb5 (by decide) rfl wd_t_194 (by decide +kernel) rfl) ?_
  refine hAllOk.c 174 (ok_no) ?_
  refine hAllOk.c 175 (ok_no) ?_
  refine hAllOk.c 176 (ok_iconst (n := 5) (by decide +kernel) (by decide +kernel) rfl) ?_
  refine hAllOk.c 177 (ok_callVN (idx := 199) ⟨wd_t_420, wd_t_2, by decide +kernel, by decide +kernel⟩ rfl rfl wd_n_417 wd_t_419 wd_s_27 (by decide +kernel) rfl) ?_
  refine hAllOk.c 178 (ok_no) ?_
  refine hAllOk.c 179 (ok_no) ?_
  refine hAllOk.c 180 (ok_ireturn (by decide +kernel)) ?_
  refine hAllOk.c 181 (ok_aload_n (f := 0) rfl (by decide +kernel) rfl) ?_
  refine hAllOk.c 182 (ok_getfield (idx := 12) (N := 8) (T := TX5) rfl inTb5 (by decide) rfl wd_t_194 (by decide +kernel) rfl) ?_
  refine hAllOk.c 183 (ok_no) ?_
  refine hAllOk.c 184 (ok_no) ?_
  refine hAllOk.c 185 (ok_bipush (n := 6) (by decide +kernel) (by decide +kernel) rfl) ?_
  refine hAllOk.c 186 (ok_no) ?_
  refine hAllOk.c 187 (ok_callVN (idx := 199) ⟨wd_t_420, wd_t_2, by decide +kernel, by decide +kernel⟩ rfl rfl wd_n_417 wd_t_419 wd_s_27 (by decide +kernel) rfl) ?_
  refine hAllOk.c 188 (ok_no) ?_
  refine hAllOk.c 189 (ok_no) ?_
  refine hAllOk.c 190 (ok_ireturn (by decide +kernel)) ?_
  refine hAllOk.c 191 (ok_aload_n (f := 0) rfl (by decide +kernel) rfl) ?_
  refine hAllOk.c 192 (ok_getfield (idx := 12) (N := 8) (T := TX5) rfl inTb5 (by decide) rfl wd_t_194 (by decide +kernel) rfl) ?_
  refine hAllOk.c 193 (ok_no) ?_
  refine hAllOk.c 194 (ok_no) ?_
  refine hAllOk.c 195 (ok_getfieldN (idx := 202) (N := 10) (T := TX4) rfl inTb4 (by decide) rfl wd_n_89 (by decide +kernel) rfl) ?_
  refine hAllOk.c 196 (ok_no) ?_
  refine hAllOk.c 197 (ok_no) ?_
  refine hAllOk.c 198 (ok_ireturn (by decide +kernel)) ?_
  refine hAllOk.c 199 (ok_aload_n (f := 0) rfl (by decide +kernel) rfl) ?_
  refine hAllOk.c 200 (ok_getfield (idx := 12) (N := 8) (T := TX5) rfl inTb5 (by decide) rfl wd_t_194 (by decide +kernel) rfl) ?_
  refine hAllOk.c 201 (ok_no) ?_
  refine hAllOk.c 202 (ok_no) ?_
  refine hAllOk.c 203 (ok_getfieldN (idx := 205) (N := 10) (T := TX4) rfl inTb4 (by decide) rfl wd_n_91 (by decide +kernel) rfl) ?_
  refine hAllOk.c 204 (ok_no) ?_
  refine hAllOk.c 205 (ok_no) ?_
  refine hAllOk.c 206 (ok_ireturn (by decide +kernel)) ?_
  refine hAllOk.c 207 (ok_aload_n (f := 0) rfl (by decide +kernel) rfl) ?_
  refine hAllOk.c 208 (ok_getfield (idx := 12) (N := 8) (T := TX5) rfl inTb5 (by decide) rfl wd_t_194 (by decide +kernel) rfl) ?_
  refine hAllOk.c 209 (ok_no) ?_
  refine hAllOk.c 210 (ok_no) ?_
  refine hAllOk.c 211 (ok_getfieldN (idx := 208) (N := 10) (T := TX4) rfl inTb4 (by decide) rfl wd_n_93 (by decide +kernel) rfl) ?_
  refine hAllOk.c 212 (ok_no) ?_
  refine hAllOk.c 213 (ok_no) ?_
  refine hAllOk.c 214 (ok_ireturn (by decide +kernel)) ?_
  refine hAllOk.c 215 (ok_aload_n (f := 0) rfl (by decide +kernel) rfl) ?_
  refine hAllOk.c 216 (ok_getfield (idx := 12) (N := 8) (T := TX5) rfl inTb5 (by decide) rfl wd_t_194 (by decide +kernel) rfl) ?_
  refine hAllOk.c 217 (ok_no) ?_
  refine hAllOk.c 218 (ok_no) ?_
  refine hAllOk.c 219 (ok_iconst (n := 3) (by decide +kernel) (by decide +kernel) rfl) ?_
  refine hAllOk.c 220 (ok_callVN (idx := 199) ⟨wd_t_420, wd_t_2, by decide +kernel, by decide +kernel⟩ rfl rfl wd_n_417 wd_t_419 wd_s_27 (by decide +kernel) rfl) ?_
  refine hAllOk.c 221 (ok_no) ?_
  refine hAllOk.c 222 (ok_no) ?_
  refine hAllOk.c 223 (ok_ireturn (by decide +kernel)) ?_
  refine hAllOk.c 224 (ok_aload_n (f := 0) rfl (by decide +kernel) rfl) ?_
  refine hAllOk.c 225 (ok_getfield (idx := 19) (N := 8) (T := TX5) rfl inTb5 (by decide) rfl wd_t_195 (by decide +kernel) rfl) ?_
  refine hAllOk.c 226 (ok_no) ?_
  refine hAllOk.c 227 (ok_no) ?_
  refine hAllOk.c 228 (ok_getfieldN (idx := 148) (N := 2) (T := TX1) rfl inTb1 (by decide) rfl wd_n_126 (by decide +kernel) rfl) ?_
  refine hAllOk.c 229 (ok_no) ?_
  refine hAllOk.c 230 (ok_no) ?_
  refine hAllOk.c 231 (ok_ireturn (by decide +kernel)) ?_
  refine hAllOk.c 232 (ok_aload_n (f := 0) rfl (by decide +kernel) rfl) ?_
  refine hAllOk.c 233 (ok_getfield (idx := 34) (N := 8) (T := TX5) rfl inTb5 (by decide) rfl wd_t_199 (by decide +kernel) rfl) ?_
  refine hAllOk.c 234 (ok_no) ?_
  refine hAllOk.c 235 (ok_no) ?_
  refine hAllOk.c 236 (ok_ireturn (by decide +kernel)) ?_
  refine hAllOk.c 237 (ok_bipush (n := -2) (by decide +kernel) (by decide +kernel) rfl) ?_
  refine hAllOk.c 238 (ok_no) ?_
  refine hAllOk.c 239 (ok_ireturn (by decide +kernel)) ?_
  trivial
def M_Pa_clearText : hM := (yX5_clearText, prog_1_method_13_code, 2, (some .int), 0, 0)
def code_Pa_clearText (K : hK) (B : Nat × Nat) (Q : hPost) : List hSem := [x_aload 1 0, x_getfield 4 5 5, x_no, x_no, x_istore 5 1, x_aload 6 0, x_const 7 (0), x_putfield 10 5 5 (.int), x_no, x_no, x_iload 11 1, x_ireturn (some .int) Q]
set_option maxRecDepth 100000 in
set_option maxHeartbeats 4000000 in
theorem okc_Pa_clearText (K : hK) (B : Nat × Nat) (Q : hPost) : hAllOk (hJ K M_Pa_clearText B Q) 0 (code_Pa_clearText K B Q) := by
  refine hAllOk.c 0 (ok_aload_n (f := 0) rfl (by decide +kernel) rfl) ?_
  refine hAllOk.c 1 (ok_getfield (idx := 34) (N := 8) (T := TX5) rfl inTb5 (by decide) rfl wd_t_199 (by decide +kernel) rfl) ?_
  refine hAllOk.c 2 (ok_no) ?_
  refine hAllOk.c 3 (ok_no) ?_
  refine hAllOk.c 4 (ok_istore_n (f := 1) rfl (by decide) (by decide +kernel) rfl) ?_
  refine hAllOk.c 5 (ok_aload_n (f := 0) rfl (by decide +kernel) rfl) ?_
  refine hAllOk.c 6 (ok_iconst (n := 0) (by decide +kernel) (by decide +kernel) rfl) ?_
  refine hAllOk.c 7 (ok_putfield (idx := 34) (N := 8) (T := TX5) tyX5_ok nmX5 rfl rfl inTb5 (by decide) rfl rfl wd_t_199 (by decide +kernel) rfl) ?_
  refine hAllOk.c 8 (ok_no) ?_
  refine hAllOk.c 9 (ok_no) ?_
  refine hAllOk.c 10 (ok_iload_n (f := 1) rfl (by decide +kernel) rfl) ?_
  refine hAllOk.c 11 (ok_ireturn (by decide +kernel)) ?_
  trivial
def M_Pa_type : hM := (yX5_type, prog_1_method_12_code, 2, (some .int), 0, 0)
def code_Pa_type (K : hK) (B : Nat × Nat) (Q : hPost) : List hSem := [x_aload 1 0, x_getfield 4 5 5, x_no, x_no, x_iflt 19 7, x_no, x_no, x_aload 8 0, x_getfield 11 5 5, x_no, x_no, x_aload 12 0, x_getfield 15 5 4, x_no, x_no, x_alen K 16, x_iclt 22 19, x_no, x_no, x_const 21 (-3), x_no, x_ireturn (some .int) Q, x_aload 23 0, x_getfield 26 5 4, x_no, x_no, x_aload 27 0, x_getfield 30 5 5, x_no, x_no, x_iload 31 1, x_castore K 32, x_aload 33 0, x_dup 34, x_getfield 37 5 5, x_no, x_no, x_const 38 (1), x_iadd 39, x_putfield 42 5 5 (.int), x_no, x_no, x_aload 43 0, x_getfield 46 5 5, x_no, x_no, x_ireturn (some .int) Q]
set_option maxRecDepth 100000 in
set_option maxHeartbeats 4000000 in
theorem okc_Pa_type (K : hK) (B : Nat × Nat) (Q : hPost) : hAllOk (hJ K M_Pa_type B Q) 0 (code_Pa_type K B Q) := by
  refine hAllOk.c 0 (ok_aload_n (f := 0) rfl (by decide +kernel) rfl) ?_
  refine hAllOk.c 1 (ok_getfield (idx := 34) (N := 8) (T := TX5) rfl inTb5 (by decide) rfl wd_t_199 (by decide +kernel) rfl) ?_
  refine hAllOk.c 2 (ok_no) ?_
  refine hAllOk.c 3 (ok_no) ?_
  refine hAllOk.c 4 (ok_iflt (off := 15) (by decide +kernel) (by decide +kernel) rfl) ?_
  refine hAllOk.c 5 (ok_no) ?_
  refine hAllOk.c 6 (ok_no) ?_
  refine hAllOk.c 7 (ok_aload_n (f := 0) rfl (by decide +kernel) rfl) ?_
  refine hAllOk.c 8 (ok_getfield (idx := 34) (N := 8) (T := TX5) rfl inTb5 (by decide) rfl wd_t_199 (by decide +kernel) rfl) ?_
  refine hAllOk.c 9 (ok_no) ?_
  refine hAllOk.c 10 (ok_no) ?_
  refine hAllOk.c 11 (ok_aload_n (f := 0) rfl (by decide +kernel) rfl) ?_
  refine hAllOk.c 12 (ok_getfield (idx := 30) (N := 8) (T := TX5) rfl inTb5 (by decide) rfl wd_t_198 (by decide +kernel) rfl) ?_
  refine hAllOk.c 13 (ok_no) ?_
  refine hAllOk.c 14 (ok_no) ?_
  refine hAllOk.c 15 (ok_alen (by decide +kernel) rfl) ?_
  refine hAllOk.c 16 (ok_iclt (off := 6) (by decide +kernel) (by decide +kernel) rfl) ?_
  refine hAllOk.c 17 (ok_no) ?_
  refine hAllOk.c 18 (ok_no) ?_
  refine hAllOk.c 19 (ok_bipush (n := -3) (by decide +kernel) (by decide +kernel) rfl) ?_
  refine hAllOk.c 20 (ok_no) ?_
  refine hAllOk.c 21 (ok_ireturn (by decide +kernel)) ?_
  refine hAllOk.c 22 (ok_aload_n (f := 0) rfl (by decide +kernel) rfl) ?_
  refine hAllOk.c 23 (ok_getfield (idx := 30) (N := 8) (T := TX5) rfl inTb5 (by decide) rfl wd_t_198 (by decide +kernel) rfl) ?_
  refine hAllOk.c 24 (ok_no) ?_
  refine hAllOk.c 25 (ok_no) ?_
  refine hAllOk.c 26 (ok_aload_n (f := 0) rfl (by decide +kernel) rfl) ?_
  refine hAllOk.c 27 (ok_getfield (idx := 34) (N := 8) (T := TX5) rfl inTb5 (by decide) rfl wd_t_199 (by decide +kernel) rfl) ?_
  refine hAllOk.c 28 (ok_no) ?_
  refine hAllOk.c 29 (ok_no) ?_
  refine hAllOk.c 30 (ok_iload_n (f := 1) rfl (by decide +kernel) rfl) ?_
  refine hAllOk.c 31 (ok_castore (by decide +kernel) rfl) ?_
  refine hAllOk.c 32 (ok_aload_n (f := 0) rfl (by decide +kernel) rfl) ?_
  refine hAllOk.c 33 (ok_dup (by decide +kernel) rfl) ?_
  refine hAllOk.c 34 (ok_getfield (idx := 34) (N := 8) (T := TX5) rfl inTb5 (by decide) rfl wd_t_199 (by decide +kernel) rfl) ?_
  refine hAllOk.c 35 (ok_no) ?_
  refine hAllOk.c 36 (ok_no) ?_
  refine hAllOk.c 37 (ok_iconst (n := 1) (by decide +kernel) (by decide +kernel) rfl) ?_
  refine hAllOk.c 38 (ok_iadd (by decide +kernel) rfl) ?_
  refine hAllOk.c 39 (ok_putfield (idx := 34) (N := 8) (T := TX5) tyX5_ok nmX5 rfl rfl inTb5 (by decide) rfl rfl wd_t_199 (by decide +kernel) rfl) ?_
  refine hAllOk.c 40 (ok_no) ?_
  refine hAllOk.c 41 (ok_no) ?_
  refine hAllOk.c 42 (ok_aload_n (f := 0) rfl (by decide +kernel) rfl) ?_
  refine hAllOk.c 43 (ok_getfield (idx := 34) (N := 8) (T := TX5) rfl inTb5 (by decide) rfl wd_t_199 (by decide +kernel) rfl) ?_
  refine hAllOk.c 44 (ok_no) ?_
  refine hAllOk.c 45 (ok_no) ?_
  refine hAllOk.c 46 (ok_ireturn (by decide +kernel)) ?_
  trivial
theorem wd_n_452 : Cond.methodLinkNest RX5 71 yX4_find "StableParty" ∈ tables_1 := List.mem_of_getElem? (i := 452) (by decide +kernel)
theorem wd_n_453 : Cond.methodLinkNest RX5 157 yX0_tell "StableParty" ∈ tables_1 := List.mem_of_getElem? (i := 453) (by decide +kernel)
def M_Pa_guest : hM := (yX5_guest, prog_1_method_17_code, 4, (some .int), 2, 41)
def code_Pa_guest (K : hK) (B : Nat × Nat) (Q : hPost) : List hSem := [x_aload 1 0, x_getfield 4 5 0, x_no, x_no, x_iload 5 1, x_callV K 8 M_St_find 4 1, x_no, x_no, x_astore 9 3, x_aload 10 3, x_ifnonnull 15 13, x_no, x_no, x_const 14 (-1), x_ireturn (some .int) Q, x_aload 16 3, x_iload 17 2, x_callV K 20 M_Gu_tell 0 1, x_no, x_no, x_ireturn (some .int) Q]
set_option maxRecDepth 100000 in
set_option maxHeartbeats 4000000 in
theorem okc_Pa_guest (K : hK) (B : Nat × Nat) (Q : hPost) : hAllOk (hJ K M_Pa_guest B Q) 0 (code_Pa_guest K B Q) := by
  refine hAllOk.c 0 (ok_aload_n (f := 0) rfl (by decide +kernel) rfl) ?_
  refine hAllOk.c 1 (ok_getfield (idx := 12) (N := 8) (T := TX5) rfl inTb5 (by decide) rfl wd_t_194 (by decide +kernel) rfl) ?_
  refine hAllOk.c 2 (ok_no) ?_
  refine hAllOk.c 3 (ok_no) ?_
  refine hAllOk.c 4 (ok_iload_n (f := 1) rfl (by decide +kernel) rfl) ?_
  refine hAllOk.c 5 (ok_callVN (idx := 71) ⟨wd_t_246, wd_t_2, by decide +kernel, by decide +kernel⟩ rfl rfl wd_n_452 wd_t_245 wd_s_4 (by decide +kernel) rfl) ?_
  refine hAllOk.c 6 (ok_no) ?_
  refine hAllOk.c 7 (ok_no) ?_
  refine hAllOk.c 8 (ok_astore_n (f := 3) rfl (by decide) (by decide +kernel) rfl) ?_
  refine hAllOk.c 9 (ok_aload_n (f := 3) rfl (by decide +kernel) rfl) ?_
  refine hAllOk.c 10 (ok_ifnonnull (off := 5) (by decide +kernel) (by decide +kernel) rfl) ?_
  refine hAllOk.c 11 (ok_no) ?_
  refine hAllOk.c 12 (ok_no) ?_
  refine hAllOk.c 13 (ok_iconst (n := -1) (by decide +kernel) (by decide +kernel) rfl) ?_
  refine hAllOk.c 14 (ok_ireturn (by decide +kernel)) ?_
  refine hAllOk.c 15 (ok_aload_n (f := 3) rfl (by decide +kernel) rfl) ?_
  refine hAllOk.c 16 (ok_iload_n (f := 2) rfl (by decide +kernel) rfl) ?_
  refine hAllOk.c 17 (ok_callVN (idx := 157) ⟨wd_t_424, wd_t_3, by decide +kernel, by decide +kernel⟩ rfl rfl wd_n_453 wd_t_423 wd_s_28 (by decide +kernel) rfl) ?_
  refine hAllOk.c 18 (ok_no) ?_
  refine hAllOk.c 19 (ok_no) ?_
  refine hAllOk.c 20 (ok_ireturn (by decide +kernel)) ?_
  trivial
def M_Re_addStep : hM := (yX2_addStep, prog_4_method_14_code, 2, none, 0, 0)
def code_Re_addStep (K : hK) (B : Nat × Nat) (Q : hPost) : List hSem := [x_aload 1 0, x_getfield 4 2 1, x_no, x_no, x_iflt 39 7, x_no, x_no, x_aload 8 0, x_getfield 11 2 1, x_no, x_no, x_aload 12 0, x_getfield 15 2 0, x_no, x_no, x_alen K 16, x_icge 39 19, x_no, x_no, x_aload 20 0, x_getfield 23 2 0, x_no, x_no, x_aload 24 0, x_getfield 27 2 1, x_no, x_no, x_iload 28 1, x_iastore K 29, x_aload 30 0, x_dup 31, x_getfield 34 2 1, x_no, x_no, x_const 35 (1), x_iadd 36, x_putfield 39 2 1 (.int), x_no, x_no, x_return Q]
set_option maxRecDepth 100000 in
set_option maxHeartbeats 4000000 in
theorem okc_Re_addStep (K : hK) (B : Nat × Nat) (Q : hPost) : hAllOk (hJ K M_Re_addStep B Q) 0 (code_Re_addStep K B Q) := by
  refine hAllOk.c 0 (ok_aload_n (f := 0) rfl (by decide +kernel) rfl) ?_
  refine hAllOk.c 1 (ok_getfield (idx := 15) (N := 7) (T := TX2) rfl inTb2 (by decide) rfl wd_t_140 (by decide +kernel) rfl) ?_
  refine hAllOk.c 2 (ok_no) ?_
  refine hAllOk.c 3 (ok_no) ?_
  refine hAllOk.c 4 (ok_iflt (off := 35) (by decide +kernel) (by decide +kernel) rfl) ?_
  refine hAllOk.c 5 (ok_no) ?_
  refine hAllOk.c 6 (ok_no) ?_
  refine hAllOk.c 7 (ok_aload_n (f := 0) rfl (by decide +kernel) rfl) ?_
  refine hAllOk.c 8 (ok_getfield (idx := 15) (N := 7) (T := TX2) rfl inTb2 (by decide) rfl wd_t_140 (by decide +kernel) rfl) ?_
  refine hAllOk.c 9 (ok_no) ?_
  refine hAllOk.c 10 (ok_no) ?_
  refine hAllOk.c 11 (ok_aload_n (f := 0) rfl (by decide +kernel) rfl) ?_
  refine hAllOk.c 12 (ok_getfield (idx := 9) (N := 7) (T := TX2) rfl inTb2 (by decide) rfl wd_t_138 (by decide +kernel) rfl) ?_
  refine hAllOk.c 13 (ok_no) ?_
  refine hAllOk.c 14 (ok_no) ?_
  refine hAllOk.c 15 (ok_alen (by decide +kernel) rfl) ?_
  refine hAllOk.c 16 (ok_icge (off := 23) (by decide +kernel) (by decide +kernel) rfl) ?_
  refine hAllOk.c 17 (ok_no) ?_
  refine hAllOk.c 18 (ok_no) ?_
  refine hAllOk.c 19 (ok_aload_n (f := 0) rfl (by decide +kernel) rfl) ?_
  refine hAllOk.c 20 (ok_getfield (idx := 9) (N := 7) (T := TX2) rfl inTb2 (by decide) rfl wd_t_138 (by decide +kernel) rfl) ?_
  refine hAllOk.c 21 (ok_no) ?_
  refine hAllOk.c 22 (ok_no) ?_
  refine hAllOk.c 23 (ok_aload_n (f := 0) rfl (by decide +kernel) rfl) ?_
  refine hAllOk.c 24 (ok_getfield (idx := 15) (N := 7) (T := TX2) rfl inTb2 (by decide) rfl wd_t_140 (by decide +kernel) rfl) ?_
  refine hAllOk.c 25 (ok_no) ?_
  refine hAllOk.c 26 (ok_no) ?_
  refine hAllOk.c 27 (ok_iload_n (f := 1) rfl (by decide +kernel) rfl) ?_
  refine hAllOk.c 28 (ok_iastore (by decide +kernel) rfl) ?_
  refine hAllOk.c 29 (ok_aload_n (f := 0) rfl (by decide +kernel) rfl) ?_
  refine hAllOk.c 30 (ok_dup (by decide +kernel) rfl) ?_
  refine hAllOk.c 31 (ok_getfield (idx := 15) (N := 7) (T := TX2) rfl inTb2 (by decide) rfl wd_t_140 (by decide +kernel) rfl) ?_
  refine hAllOk.c 32 (ok_no) ?_
  refine hAllOk.c 33 (ok_no) ?_
  refine hAllOk.c 34 (ok_iconst (n := 1) (by decide +kernel) (by decide +kernel) rfl) ?_
  refine hAllOk.c 35 (ok_iadd (by decide +kernel) rfl) ?_
  refine hAllOk.c 36 (ok_putfield (idx := 15) (N := 7) (T := TX2) tyX2_ok nmX2 rfl rfl inTb2 (by decide) rfl rfl wd_t_140 (by decide +kernel) rfl) ?_
  refine hAllOk.c 37 (ok_no) ?_
  refine hAllOk.c 38 (ok_no) ?_
  refine hAllOk.c 39 (ok_return rfl (by decide +kernel)) ?_
  trivial
theorem wd_t_529 : Cond.methodLink RX2 64 yX2_addStep ∈ hTb := hTb_t (List.mem_of_getElem? (i := 529) (by decide +kernel)) (by decide +kernel)
theorem wd_t_532 : Cond.code yX2_addStep prog_4_method_14_code 2 none ∈ hTb := hTb_t (List.mem_of_getElem? (i := 532) (by decide +kernel)) (by decide +kernel)
theorem wd_t_531 : Cond.instanceMethod yX2_addStep ∈ hTb := hTb_t (List.mem_of_getElem? (i := 531) (by decide +kernel)) (by decide +kernel)
theorem wd_s_36 : Cond.selects RX2 yX2_addStep yX2_addStep ∈ hTb := hTb_s (List.mem_of_getElem? (i := 36) (by decide +kernel)) (by decide +kernel)
def M_Re_opensBracket : hM := (yX2_opensBracket, prog_4_method_5_code, 1, (some .boolean), 1, 21)
def code_Re_opensBracket (K : hK) (B : Nat × Nat) (Q : hPost) : List hSem := [x_aload 1 0, x_getfield 4 2 3, x_no, x_no, x_const 6 (8), x_no, x_iclt 11 9, x_no, x_no, x_const 10 (0), x_ireturn (some .boolean) Q, x_aload 12 0, x_dup 13, x_getfield 16 2 3, x_no, x_no, x_const 17 (1), x_iadd 18, x_putfield 21 2 3 (.int), x_no, x_no, x_aload 22 0, x_const 23 (-1), x_callV K 26 M_Re_addStep 2 1, x_no, x_no, x_const 27 (1), x_ireturn (some .boolean) Q]
set_option maxRecDepth 100000 in
set_option maxHeartbeats 4000000 in
theorem okc_Re_opensBracket (K : hK) (B : Nat × Nat) (Q : hPost) : hAllOk (hJ K M_Re_opensBracket B Q) 0 (code_Re_opensBracket K B Q) := by
  refine hAllOk.c 0 (ok_aload_n (f := 0) rfl (by decide +kernel) rfl) ?_
  refine hAllOk.c 1 (ok_getfield (idx := 22) (N := 7) (T := TX2) rfl inTb2 (by decide) rfl wd_t_145 (by decide +kernel) rfl) ?_
  refine hAllOk.c 2 (ok_no) ?_
  refine hAllOk.c 3 (ok_no) ?_
  refine hAllOk.c 4 (ok_bipush (n := 8) (by decide +kernel) (by decide +kernel) rfl) ?_
  refine hAllOk.c 5 (ok_no) ?_
  refine hAllOk.c 6 (ok_iclt (off := 5) (by decide +kernel) (by decide +kernel) rfl) ?_
  refine hAllOk.c 7 (ok_no) ?_
  refine hAllOk.c 8 (ok_no) ?_
  refine hAllOk.c 9 (ok_iconst (n := 0) (by decide +kernel) (by decide +kernel) rfl) ?_
  refine hAllOk.c 10 (ok_ireturn (by decide +kernel)) ?_
  refine hAllOk.c 11 (ok_aload_n (f := 0) rfl (by decide +kernel) rfl) ?_
  refine hAllOk.c 12 (ok_dup (by decide +kernel) rfl) ?_
  refine hAllOk.c 13 (ok_getfield (idx := 22) (N := 7) (T := TX2) rfl inTb2 (by decide) rfl wd_t_145 (by decide +kernel) rfl) ?_
  refine hAllOk.c 14 (ok_no) ?_
  refine hAllOk.c 15 (ok_no) ?_
  refine hAllOk.c 16 (ok_iconst (n := 1) (by decide +kernel) (by decide +kernel) rfl) ?_
  refine hAllOk.c 17 (ok_iadd (by decide +kernel) rfl) ?_
  refine hAllOk.c 18 (ok_putfield (idx := 22) (N := 7) (T := TX2) tyX2_ok nmX2 rfl rfl inTb2 (by decide) rfl rfl wd_t_145 (by decide +kernel) rfl) ?_
  refine hAllOk.c 19 (ok_no) ?_
  refine hAllOk.c 20 (ok_no) ?_
  refine hAllOk.c 21 (ok_aload_n (f := 0) rfl (by decide +kernel) rfl) ?_
  refine hAllOk.c 22 (ok_iconst (n := -1) (by decide +kernel) (by decide +kernel) rfl) ?_
  refine hAllOk.c 23 (ok_callV (idx := 64) ⟨wd_t_532, wd_t_5, by decide +kernel, by decide +kernel⟩ rfl rfl wd_t_529 wd_t_531 wd_s_36 (by decide +kernel) rfl) ?_
  refine hAllOk.c 24 (ok_no) ?_
  refine hAllOk.c 25 (ok_no) ?_
  refine hAllOk.c 26 (ok_iconst (n := 1) (by decide +kernel) (by decide +kernel) rfl) ?_
  refine hAllOk.c 27 (ok_ireturn (by decide +kernel)) ?_
  trivial
def M_Re_isLetter : hM := (yX2_isLetter, prog_4_method_12_code, 1, (some .boolean), 0, 0)
def code_Re_isLetter (K : hK) (B : Nat × Nat) (Q : hPost) : List hSem := [x_iload 1 0, x_const 3 (97), x_no, x_iclt 16 6, x_no, x_no, x_iload 7 0, x_const 9 (109), x_no, x_icge 16 12, x_no, x_no, x_const 13 (1), x_goto 17, x_no, x_no, x_const 17 (0), x_ireturn (some .boolean) Q]
set_option maxRecDepth 100000 in
set_option maxHeartbeats 4000000 in
theorem okc_Re_isLetter (K : hK) (B : Nat × Nat) (Q : hPost) : hAllOk (hJ K M_Re_isLetter B Q) 0 (code_Re_isLetter K B Q) := by
  refine hAllOk.c 0 (ok_iload_n (f := 0) rfl (by decide +kernel) rfl) ?_
  refine hAllOk.c 1 (ok_bipush (n := 97) (by decide +kernel) (by decide +kernel) rfl) ?_
  refine hAllOk.c 2 (ok_no) ?_
  refine hAllOk.c 3 (ok_iclt (off := 13) (by decide +kernel) (by decide +kernel) rfl) ?_
  refine hAllOk.c 4 (ok_no) ?_
  refine hAllOk.c 5 (ok_no) ?_
  refine hAllOk.c 6 (ok_iload_n (f := 0) rfl (by decide +kernel) rfl) ?_
  refine hAllOk.c 7 (ok_bipush (n := 109) (by decide +kernel) (by decide +kernel) rfl) ?_
  refine hAllOk.c 8 (ok_no) ?_
  refine hAllOk.c 9 (ok_icge (off := 7) (by decide +kernel) (by decide +kernel) rfl) ?_
  refine hAllOk.c 10 (ok_no) ?_
  refine hAllOk.c 11 (ok_no) ?_
  refine hAllOk.c 12 (ok_iconst (n := 1) (by decide +kernel) (by decide +kernel) rfl) ?_
  refine hAllOk.c 13 (ok_goto (off := 4) (by decide +kernel) (by decide +kernel)) ?_
  refine hAllOk.c 14 (ok_no) ?_
  refine hAllOk.c 15 (ok_no) ?_
  refine hAllOk.c 16 (ok_iconst (n := 0) (by decide +kernel) (by decide +kernel) rfl) ?_
  refine hAllOk.c 17 (ok_ireturn (by decide +kernel)) ?_
  trivial
def M_Re_isDigit : hM := (yX2_isDigit, prog_4_method_13_code, 3, (some .boolean), 0, 0)
def code_Re_isDigit (K : hK) (B : Nat × Nat) (Q : hPost) : List hSem := [x_iload 1 0, x_iload 2 1, x_iclt 14 5, x_no, x_no, x_iload 6 0, x_iload 7 2, x_icgt 14 10, x_no, x_no, x_const 11 (1), x_goto 15, x_no, x_no, x_const 15 (0), x_ireturn (some .boolean) Q]
set_option maxRecDepth 100000 in
set_option maxHeartbeats 4000000 in
theorem okc_Re_isDigit (K : hK) (B : Nat × Nat) (Q : hPost) : hAllOk (hJ K M_Re_isDigit B Q) 0 (code_Re_isDigit K B Q) := by
  refine hAllOk.c 0 (ok_iload_n (f := 0) rfl (by decide +kernel) rfl) ?_
  refine hAllOk.c 1 (ok_iload_n (f := 1) rfl (by decide +kernel) rfl) ?_
  refine hAllOk.c 2 (ok_iclt (off := 12) (by decide +kernel) (by decide +kernel) rfl) ?_
  refine hAllOk.c 3 (ok_no) ?_
  refine hAllOk.c 4 (ok_no) ?_
  refine hAllOk.c 5 (ok_iload_n (f := 0) rfl (by decide +kernel) rfl) ?_
  refine hAllOk.c 6 (ok_iload_n (f := 2) rfl (by decide +kernel) rfl) ?_
  refine hAllOk.c 7 (ok_icgt (off := 7) (by decide +kernel) (by decide +kernel) rfl) ?_
  refine hAllOk.c 8 (ok_no) ?_
  refine hAllOk.c 9 (ok_no) ?_
  refine hAllOk.c 10 (ok_iconst (n := 1) (by decide +kernel) (by decide +kernel) rfl) ?_
  refine hAllOk.c 11 (ok_goto (off := 4) (by decide +kernel) (by decide +kernel)) ?_
  refine hAllOk.c 12 (ok_no) ?_
  refine hAllOk.c 13 (ok_no) ?_
  refine hAllOk.c 14 (ok_iconst (n := 0) (by decide +kernel) (by decide +kernel) rfl) ?_
  refine hAllOk.c 15 (ok_ireturn (by decide +kernel)) ?_
  trivial
theorem wd_t_525 : Cond.methodLink RX2 56 yX2_opensBracket ∈ hTb := hTb_t (List.mem_of_getElem? (i := 525) (by decide +kernel)) (by decide +kernel)
theorem wd_t_528 : Cond.code yX2_opensBracket prog_4_method_5_code 1 (some .boolean) ∈ hTb := hTb_t (List.mem_of_getElem? (i := 528) (by decide +kernel)) (by decide +kernel)
theorem wd_t_527 : Cond.instanceMethod yX2_opensBracket ∈ hTb := hTb_t (List.mem_of_getElem? (i := 527) (by decide +kernel)) (by decide +kernel)
theorem wd_s_35 : Cond.selects RX2 yX2_opensBracket yX2_opensBracket ∈ hTb := hTb_s (List.mem_of_getElem? (i := 35) (by decide +kernel)) (by decide +kernel)
theorem wd_n_533 : Cond.methodLinkNest RX2 60 yX5_atomOf "StableParty" ∈ tables_1 := List.mem_of_getElem? (i := 533) (by decide +kernel)
theorem wd_t_534 : Cond.methodLink RX2 68 yX2_isLetter ∈ hTb := hTb_t (List.mem_of_getElem? (i := 534) (by decide +kernel)) (by decide +kernel)
theorem wd_t_536 : Cond.code yX2_isLetter prog_4_method_12_code 1 (some .boolean) ∈ hTb := hTb_t (List.mem_of_getElem? (i := 536) (by decide +kernel)) (by decide +kernel)
theorem wd_t_535 : Cond.static yX2_isLetter ∈ hTb := hTb_t (List.mem_of_getElem? (i := 535) (by decide +kernel)) (by decide +kernel)
theorem wd_n_537 : Cond.methodLinkNest RX2 71 yX5_bitOf "StableParty" ∈ tables_1 := List.mem_of_getElem? (i := 537) (by decide +kernel)
theorem wd_t_538 : Cond.methodLink RX2 75 yX2_isDigit ∈ hTb := hTb_t (List.mem_of_getElem? (i := 538) (by decide +kernel)) (by decide +kernel)
theorem wd_t_540 : Cond.code yX2_isDigit prog_4_method_13_code 3 (some .boolean) ∈ hTb := hTb_t (List.mem_of_getElem? (i := 540) (by decide +kernel)) (by decide +kernel)
theorem wd_t_539 : Cond.static yX2_isDigit ∈ hTb := hTb_t (List.mem_of_getElem? (i := 539) (by decide +kernel)) (by decide +kernel)
def M_Re_acceptsAtom : hM := (yX2_acceptsAtom, prog_4_method_4_code, 2, (some .boolean), 2, 41)
def code_Re_acceptsAtom (K : hK) (B : Nat × Nat) (Q : hPost) : List hSem := [x_iload 1 1, x_const 3 (40), x_no, x_icne 11 6, x_no, x_no, x_aload 7 0, x_callV K 10 M_Re_opensBracket 2 0, x_no, x_no, x_ireturn (some .boolean) Q, x_iload 12 1, x_const 14 (42), x_no, x_icne 34 17, x_no, x_no, x_aload 18 0, x_const 19 (0), x_const 20 (0), x_callS K 23 M_Pa_atomOf 2, x_no, x_no, x_callV K 26 M_Re_addStep 2 1, x_no, x_no, x_aload 27 0, x_const 28 (4), x_putfield 31 2 4 (.int), x_no, x_no, x_goto 143, x_no, x_no, x_iload 35 1, x_const 37 (35), x_no, x_icne 48 40, x_no, x_no, x_aload 41 0, x_const 42 (1), x_putfield 45 2 4 (.int), x_no, x_no, x_goto 143, x_no, x_no, x_iload 49 1, x_callS K 52 M_Re_isLetter 1, x_no, x_no, x_ifeq 94 55, x_no, x_no, x_aload 56 0, x_dup 57, x_getfield 60 2 2, x_no, x_no, x_iload 61 1, x_const 63 (97), x_no, x_isub 64, x_callS K 67 M_Pa_bitOf 1, x_no, x_no, x_ior 68, x_putfield 71 2 2 (.int), x_no, x_no, x_aload 72 0, x_const 73 (1), x_iload 74 1, x_const 76 (97), x_no, x_isub 77, x_callS K 80 M_Pa_bitOf 1, x_no, x_no, x_callS K 83 M_Pa_atomOf 2, x_no, x_no, x_callV K 86 M_Re_addStep 2 1, x_no, x_no, x_aload 87 0, x_const 88 (4), x_putfield 91 2 4 (.int), x_no, x_no, x_goto 143, x_no, x_no, x_iload 95 1, x_const 97 (49), x_no, x_const 99 (57), x_no, x_callS K 102 M_Re_isDigit 3, x_no, x_no, x_ifeq 141 105, x_no, x_no, x_aload 106 0, x_iload 107 1, x_const 109 (48), x_no, x_isub 110, x_putfield 113 2 5 (.int), x_no, x_no, x_aload 114 0, x_const 115 (0), x_putfield 118 2 6 (.int), x_no, x_no, x_aload 119 0, x_aload 120 0, x_getfield 123 2 5, x_no, x_no, x_aload 124 0, x_getfield 127 2 6, x_no, x_no, x_callS K 130 M_Pa_atomOf 2, x_no, x_no, x_callV K 133 M_Re_addStep 2 1, x_no, x_no, x_aload 134 0, x_const 135 (2), x_putfield 138 2 4 (.int), x_no, x_no, x_goto 143, x_no, x_no, x_const 142 (0), x_ireturn (some .boolean) Q, x_const 144 (1), x_ireturn (some .boolean) Q]
set_option maxRecDepth 100000 in
set_option maxHeartbeats 4000000 in
theorem okc_Re_acceptsAtom (K : hK) (B : Nat × Nat) (Q : hPost) : hAllOk (hJ K M_Re_acceptsAtom B Q) 0 (code_Re_acceptsAtom K B Q) := by
  refine hAllOk.c 0 (ok_iload_n (f := 1) rfl (by decide +kernel) rfl) ?_
  refine hAllOk.c 1 (ok_bipush (n := 40) (by decide +kernel) (by decide +kernel) rfl) ?_
  refine hAllOk.c 2 (ok_no) ?_
  refine hAllOk.c 3 (ok_icne (off := 8) (by decide +kernel) (by decide +kernel) rfl) ?_
  refine hAllOk.c 4 (ok_no) ?_
  refine hAllOk.c 5 (ok_no) ?_
  refine hAllOk.c 6 (ok_aload_n (f := 0) rfl (by decide +kernel) rfl) ?_
  refine hAllOk.c 7 (ok_callV (idx := 56) ⟨wd_t_528, wd_t_5, by decide +kernel, by decide +kernel⟩ rfl rfl wd_t_525 wd_t_527 wd_s_35 (by decide +kernel) rfl) ?_
  refine hAllOk.c 8 (ok_no) ?_
  refine hAllOk.c 9 (ok_no) ?_
  refine hAllOk.c 10 (ok_ireturn (by decide +kernel)) ?_
  refine hAllOk.c 11 (ok_iload_n (f := 1) rfl (by decide +kernel) rfl) ?_
  refine hAllOk.c 12 (ok_bipush (n := 42) (by decide +kernel) (by decide +kernel) rfl) ?_
  refine hAllOk.c 13 (ok_no) ?_
  refine hAllOk.c 14 (ok_icne (off := 20) (by decide +kernel) (by decide +kernel) rfl) ?_
  refine hAllOk.c 15 (ok_no) ?_
  refine hAllOk.c 16 (ok_no) ?_
  refine hAllOk.c 17 (ok_aload_n (f := 0) rfl (by decide +kernel) rfl) ?_
  refine hAllOk.c 18 (ok_iconst (n := 0) (by decide +kernel) (by decide +kernel) rfl) ?_
  refine hAllOk.c 19 (ok_iconst (n := 0) (by decide +kernel) (by decide +kernel) rfl) ?_
  refine hAllOk.c 20 (ok_callSN (idx := 60) ⟨wd_t_265, wd_t_1, by decide +kernel, by decide +kernel⟩ wd_n_533 wd_t_264 (by decide +kernel) rfl) ?_
  refine hAllOk.c 21 (ok_no) ?_
  refine hAllOk.c 22 (ok_no) ?_
  refine hAllOk.c 23 (ok_callV (idx := 64) ⟨wd_t_532, wd_t_5, by decide +kernel, by decide +kernel⟩ rfl rfl wd_t_529 wd_t_531 wd_s_36 (by decide +kernel) rfl) ?_
  refine hAllOk.c 24 (ok_no) ?_
  refine hAllOk.c 25 (ok_no) ?_
  refine hAllOk.c 26 (ok_aload_n (f := 0) rfl (by decide +kernel) rfl) ?_
  refine hAllOk.c 27 (ok_iconst (n := 4) (by decide +kernel) (by decide +kernel) rfl) ?_
  refine hAllOk.c 28 (ok_putfield (idx := 25) (N := 7) (T := TX2) tyX2_ok nmX2 rfl rfl inTb2 (by decide) rfl rfl wd_t_146 (by decide +kernel) rfl) ?_
  refine hAllOk.c 29 (ok_no) ?_
  refine hAllOk.c 30 (ok_no) ?_
  refine hAllOk.c 31 (ok_goto (off := 112) (by decide +kernel) (by decide +kernel)) ?_
  refine hAllOk.c 32 (ok_no) ?_
  refine hAllOk.c 33 (ok_no) ?_
  refine hAllOk.c 34 (ok_iload_n (f := 1) rfl (by decide +kernel) rfl) ?_
  refine hAllOk.c 35 (ok_bipush (n := 35) (by decide +kernel) (by decide +kernel) rfl) ?_
  refine hAllOk.c 36 (ok_no) ?_
  refine hAllOk.c 37 (ok_icne (off := 11) (by decide +kernel) (by decide +kernel) rfl) ?_
  refine hAllOk.c 38 (ok_no) ?_
  refine hAllOk.c 39 (ok_no) ?_
  refine hAllOk.c 40 (ok_aload_n (f := 0) rfl (by decide +kernel) rfl) ?_
  refine hAllOk.c 41 (ok_iconst (n := 1) (by decide +kernel) (by decide +kernel) rfl) ?_
  refine hAllOk.c 42 (ok_putfield (idx := 25) (N := 7) (T := TX2) tyX2_ok nmX2 rfl rfl inTb2 (by decide) rfl rfl wd_t_146 (by decide +kernel) rfl) ?_
  refine hAllOk.c 43 (ok_no) ?_
  refine hAllOk.c 44 (ok_no) ?_
  refine hAllOk.c 45 (ok_goto (off := 98) (by decide +kernel) (by decide +kernel)) ?_
  refine hAllOk.c 46 (ok_no) ?_
  refine hAllOk.c 47 (ok_no) ?_
  refine hAllOk.c 48 (ok_iload_n (f := 1) rfl (by decide +kernel) rfl) ?_
  refine hAllOk.c 49 (ok_callS (idx := 68) ⟨wd_t_536, wd_t_5, by decide +kernel, by decide +kernel⟩ wd_t_534 wd_t_535 (by decide +kernel) rfl) ?_
  refine hAllOk.c 50 (ok_no) ?_
  refine hAllOk.c 51 (ok_no) ?_
  refine hAllOk.c 52 (ok_ifeq (off := 42) (by decide +kernel) (by decide +kernel) rfl) ?_
  refine hAllOk.c 53 (ok_no) ?_
  refine hAllOk.c 54 (ok_no) ?_
  refine hAllOk.c 55 (ok_aload_n (f := 0) rfl (by decide +kernel) rfl) ?_
  refine hAllOk.c 56 (ok_dup (by decide +kernel) rfl) ?_
  refine hAllOk.c 57 (ok_getfield (idx := 19) (N := 7) (T := TX2) rfl inTb2 (by decide) rfl wd_t_142 (by decide +kernel) rfl) ?_
  refine hAllOk.c 58 (ok_no) ?_
  refine hAllOk.c 59 (ok_no) ?_
  refine hAllOk.c 60 (ok_iload_n (f := 1) rfl (by decide +kernel) rfl) ?_
  refine hAllOk.c 61 (ok_bipush (n := 97) (by decide +kernel) (by decide +kernel) rfl) ?_
  refine hAllOk.c 62 (ok_no) ?_
  refine hAllOk.c 63 (ok_isub (by decide +kernel) rfl) ?_
  refine hAllOk.c 64 (ok_callSN (idx := 71) ⟨wd_t_296, wd_t_1, by decide +kernel, by decide +kernel⟩ wd_n_537 wd_t_295 (by decide +kernel) rfl) ?_
  refine hAllOk.c 65 (ok_no) ?_
  refine hAllOk.c 66 (ok_no) ?_
  refine hAllOk.c 67 (ok_ior (by decide +kernel) rfl) ?_
  refine hAllOk.c 68 (ok_putfield (idx := 19) (N := 7) (T := TX2) tyX2_ok nmX2 rfl rfl inTb2 (by decide) rfl rfl wd_t_142 (by decide +kernel) rfl) ?_
  refine hAllOk.c 69 (ok_no) ?_
  refine hAllOk.c 70 (ok_no) ?_
  refine hAllOk.c 71 (ok_aload_n (f := 0) rfl (by decide +kernel) rfl) ?_
  refine hAllOk.c 72 (ok_iconst (n := 1) (by decide +kernel) (by decide +kernel) rfl) ?_
  refine hAllOk.c 73 (ok_iload_n (f := 1) rfl (by decide +kernel) rfl) ?_
  refine hAllOk.c 74 (ok_bipush (n := 97) (by decide +kernel) (by decide +kernel) rfl) ?_
  refine hAllOk.c 75 (ok_no) ?_
  refine hAllOk.c 76 (ok_isub (by decide +kernel) rfl) ?_
  refine hAllOk.c 77 (ok_callSN (idx := 71) ⟨wd_t_296, wd_t_1, by decide +kernel, by decide +kernel⟩ wd_n_537 wd_t_295 (by decide +kernel) rfl) ?_
  refine hAllOk.c 78 (ok_no) ?_
  refine hAllOk.c 79 (ok_no) ?_
  refine hAllOk.c 80 (ok_callSN (idx := 60) ⟨wd_t_265, wd_t_1, by decide +kernel, by decide +kernel⟩ wd_n_533 wd_t_264 (by decide +kernel) rfl) ?_
  refine hAllOk.c 81 (ok_no) ?_
  refine hAllOk.c 82 (ok_no) ?_
  refine hAllOk.c 83 (ok_callV (idx := 64) ⟨wd_t_532, wd_t_5, by decide +kernel, by decide +kernel⟩ rfl rfl wd_t_529 wd_t_531 wd_s_36 (by decide +kernel) rfl) ?_
  refine hAllOk.c 84 (ok_no) ?_
  refine hAllOk.c 85 (ok_no) ?_
  refine hAllOk.c 86 (ok_aload_n (f := 0) rfl (by decide +kernel) rfl) ?_
  refine hAllOk.c 87 (ok_iconst (n := 4) (by decide +kernel) (by decide +kernel) rfl) ?_
  refine hAllOk.c 88 (ok_putfield (idx := 25) (N := 7) (T := TX2) tyX2_ok nmX2 rfl rfl inTb2 (by decide) rfl rfl wd_t_146 (by decide +kernel) rfl) ?_
  refine hAllOk.c 89 (ok_no) ?_
  refine hAllOk.c 90 (ok_no) ?_
  refine hAllOk.c 91 (ok_goto (off := 52) (by decide +kernel) (by decide +kernel)) ?_
  refine hAllOk.c 92 (ok_no) ?_
  refine hAllOk.c 93 (ok_no) ?_
  refine hAllOk.c 94 (ok_iload_n (f := 1) rfl (by decide +kernel) rfl) ?_
  refine hAllOk.c 95 (ok_bipush (n := 49) (by decide +kernel) (by decide +kernel) rfl) ?_
  refine hAllOk.c 96 (ok_no) ?_
  refine hAllOk.c 97 (ok_bipush (n := 57) (by decide +kernel) (by decide +kernel) rfl) ?_
  refine hAllOk.c 98 (ok_no) ?_
  refine hAllOk.c 99 (ok_callS (idx := 75) ⟨wd_t_540, wd_t_5, by decide +kernel, by decide +kernel⟩ wd_t_538 wd_t_539 (by decide +kernel) rfl) ?_
  refine hAllOk.c 100 (ok_no) ?_
  refine hAllOk.c 101 (ok_no) ?_
  refine hAllOk.c 102 (ok_ifeq (off := 39) (by decide +kernel) (by decide +kernel) rfl) ?_
  refine hAllOk.c 103 (ok_no) ?_
  refine hAllOk.c 104 (ok_no) ?_
  refine hAllOk.c 105 (ok_aload_n (f := 0) rfl (by decide +kernel) rfl) ?_
  refine hAllOk.c 106 (ok_iload_n (f := 1) rfl (by decide +kernel) rfl) ?_
  refine hAllOk.c 107 (ok_bipush (n := 48) (by decide +kernel) (by decide +kernel) rfl) ?_
  refine hAllOk.c 108 (ok_no) ?_
  refine hAllOk.c 109 (ok_isub (by decide +kernel) rfl) ?_
  refine hAllOk.c 110 (ok_putfield (idx := 28) (N := 7) (T := TX2) tyX2_ok nmX2 rfl rfl inTb2 (by decide) rfl rfl wd_t_147 (by decide +kernel) rfl) ?_
  refine hAllOk.c 111 (ok_no) ?_
  refine hAllOk.c 112 (ok_no) ?_
  refine hAllOk.c 113 (ok_aload_n (f := 0) rfl (by decide +kernel) rfl) ?_
  refine hAllOk.c 114 (ok_iconst (n := 0) (by decide +kernel) (by decide +kernel) rfl) ?_
  refine hAllOk.c 115 (ok_putfield (idx := 31) (N := 7) (T := TX2) tyX2_ok nmX2 rfl rfl inTb2 (by decide) rfl rfl wd_t_148 (by decide +kernel) rfl) ?_
  refine hAllOk.c 116 (ok_no) ?_
  refine hAllOk.c 117 (ok_no) ?_
  refine hAllOk.c 118 (ok_aload_n (f := 0) rfl (by decide +kernel) rfl) ?_
  refine hAllOk.c 119 (ok_aload_n (f := 0) rfl (by decide +kernel) rfl) ?_
  refine hAllOk.c 120 (ok_getfield (idx := 28) (N := 7) (T := TX2) rfl inTb2 (by decide) rfl wd_t_147 (by decide +kernel) rfl) ?_
  refine hAllOk.c 121 (ok_no) ?_
  refine hAllOk.c 122 (ok_no) ?_
  refine hAllOk.c 123 (ok_aload_n (f := 0) rfl (by decide +kernel) rfl) ?_
  refine hAllOk.c 124 (ok_getfield (idx := 31) (N := 7) (T := TX2) rfl inTb2 (by decide) rfl wd_t_148 (by decide +kernel) rfl) ?_
  refine hAllOk.c 125 (ok_no) ?_
  refine hAllOk.c 126 (ok_no) ?_
  refine hAllOk.c 127 (ok_callSN (idx := 60) ⟨wd_t_265, wd_t_1, by decide +kernel, by decide +kernel⟩ wd_n_533 wd_t_264 (by decide +kernel) rfl) ?_
  refine hAllOk.c 128 (ok_no) ?_
  refine hAllOk.c 129 (ok_no) ?_
  refine hAllOk.c 130 (ok_callV (idx := 64) ⟨wd_t_532, wd_t_5, by decide +kernel, by decide +kernel⟩ rfl rfl wd_t_529 wd_t_531 wd_s_36 (by decide +kernel) rfl) ?_
  refine hAllOk.c 131 (ok_no) ?_
  refine hAllOk.c 132 (ok_no) ?_
  refine hAllOk.c 133 (ok_aload_n (f := 0) rfl (by decide +kernel) rfl) ?_
  refine hAllOk.c 134 (ok_iconst (n := 2) (by decide +kernel) (by decide +kernel) rfl) ?_
  refine hAllOk.c 135 (ok_putfield (idx := 25) (N := 7) (T := TX2) tyX2_ok nmX2 rfl rfl inTb2 (by decide) rfl rfl wd_t_146 (by decide +kernel) rfl) ?_
  refine hAllOk.c 136 (ok_no) ?_
  refine hAllOk.c 137 (ok_no) ?_
  refine hAllOk.c 138 (ok_goto (off := 5) (by decide +kernel) (by decide +kernel)) ?_
  refine hAllOk.c 139 (ok_no) ?_
  refine hAllOk.c 140 (ok_no) ?_
  refine hAllOk.c 141 (ok_iconst (n := 0) (by decide +kernel) (by decide +kernel) rfl) ?_
  refine hAllOk.c 142 (ok_ireturn (by decide +kernel)) ?_
  refine hAllOk.c 143 (ok_iconst (n := 1) (by decide +kernel) (by decide +kernel) rfl) ?_
  refine hAllOk.c 144 (ok_ireturn (by decide +kernel)) ?_
  trivial
def M_Re_acceptsNumber : hM := (yX2_acceptsNumber, prog_4_method_6_code, 2, (some .boolean), 1, 22)
def code_Re_acceptsNumber (K : hK) (B : Nat × Nat) (Q : hPost) : List hSem := [x_iload 1 1, x_const 3 (49), x_no, x_const 5 (57), x_no, x_callS K 8 M_Re_isDigit 3, x_no, x_no, x_ifne 13 11, x_no, x_no, x_const 12 (0), x_ireturn (some .boolean) Q, x_aload 14 0, x_iload 15 1, x_const 17 (48), x_no, x_isub 18, x_const 21 (4095), x_no, x_no, x_callS K 24 M_Pa_atomOf 2, x_no, x_no, x_callV K 27 M_Re_addStep 2 1, x_no, x_no, x_aload 28 0, x_iload 29 1, x_const 31 (49), x_no, x_icne 39 34, x_no, x_no, x_const 36 (6), x_no, x_goto 40, x_no, x_no, x_const 40 (4), x_putfield 43 2 4 (.int), x_no, x_no, x_const 44 (1), x_ireturn (some .boolean) Q]
set_option maxRecDepth 100000 in
set_option maxHeartbeats 4000000 in
theorem okc_Re_acceptsNumber (K : hK) (B : Nat × Nat) (Q : hPost) : hAllOk (hJ K M_Re_acceptsNumber B Q) 0 (code_Re_acceptsNumber K B Q) := by
  refine hAllOk.c 0 (ok_iload_n (f := 1) rfl (by decide +kernel) rfl) ?_
  refine hAllOk.c 1 (ok_bipush (n := 49) (by decide +kernel) (by decide +kernel) rfl) ?_
  refine hAllOk.c 2 (ok_no) ?_
  refine hAllOk.c 3 (ok_bipush (n := 57) (by decide +kernel) (by decide +kernel) rfl) ?_
  refine hAllOk.c 4 (ok_no) ?_
  refine hAllOk.c 5 (ok_callS (idx := 75) ⟨wd_t_540, wd_t_5, by decide +kernel, by decide +kernel⟩ wd_t_538 wd_t_539 (by decide +kernel) rfl) ?_
  refine hAllOk.c 6 (ok_no) ?_
  refine hAllOk.c 7 (ok_no) ?_
  refine hAllOk.c 8 (ok_ifne (off := 5) (by decide +kernel) (by decide +kernel) rfl) ?_
  refine hAllOk.c 9 (ok_no) ?_
  refine hAllOk.c 10 (ok_no) ?_
  refine hAllOk.c 11 (ok_iconst (n := 0) (by decide +kernel) (by decide +kernel) rfl) ?_
  refine hAllOk.c 12 (ok_ireturn (by decide +kernel)) ?_
  refine hAllOk.c 13 (ok_aload_n (f := 0) rfl (by decide +kernel) rfl) ?_
  refine hAllOk.c 14 (ok_iload_n (f := 1) rfl (by decide +kernel) rfl) ?_
  refine hAllOk.c 15 (ok_bipush (n := 48) (by decide +kernel) (by decide +kernel) rfl) ?_
  refine hAllOk.c 16 (ok_no) ?_
  refine hAllOk.c 17 (ok_isub (by decide +kernel) rfl) ?_
  refine hAllOk.c 18 (ok_sipush (n := 4095) (by decide +kernel) (by decide +kernel) rfl) ?_
  refine hAllOk.c 19 (ok_no) ?_
  refine hAllOk.c 20 (ok_no) ?_
  refine hAllOk.c 21 (ok_callSN (idx := 60) ⟨wd_t_265, wd_t_1, by decide +kernel, by decide +kernel⟩ wd_n_533 wd_t_264 (by decide +kernel) rfl) ?_
  refine hAllOk.c 22 (ok_no) ?_
  refine hAllOk.c 23 (ok_no) ?_
  refine hAllOk.c 24 (ok_callV (idx := 64) ⟨wd_t_532, wd_t_5, by decide +kernel, by decide +kernel⟩ rfl rfl wd_t_529 wd_t_531 wd_s_36 (by decide +kernel) rfl) ?_
  refine hAllOk.c 25 (ok_no) ?_
  refine hAllOk.c 26 (ok_no) ?_
  refine hAllOk.c 27 (ok_aload_n (f := 0) rfl (by decide +kernel) rfl) ?_
  refine hAllOk.c 28 (ok_iload_n (f := 1) rfl (by decide +kernel) rfl) ?_
  refine hAllOk.c 29 (ok_bipush (n := 49) (by decide +kernel) (by decide +kernel) rfl) ?_
  refine hAllOk.c 30 (ok_no) ?_
  refine hAllOk.c 31 (ok_icne (off := 8) (by decide +kernel) (by decide +kernel) rfl) ?_
  refine hAllOk.c 32 (ok_no) ?_
  refine hAllOk.c 33 (ok_no) ?_
  refine hAllOk.c 34 (ok_bipush (n := 6) (by decide +kernel) (by decide +kernel) rfl) ?_
  refine hAllOk.c 35 (ok_no) ?_
  refine hAllOk.c 36 (ok_goto (off := 4) (by decide +kernel) (by decide +kernel)) ?_
  refine hAllOk.c 37 (ok_no) ?_
  refine hAllOk.c 38 (ok_no) ?_
  refine hAllOk.c 39 (ok_iconst (n := 4) (by decide +kernel) (by decide +kernel) rfl) ?_
  refine hAllOk.c 40 (ok_putfield (idx := 25) (N := 7) (T := TX2) tyX2_ok nmX2 rfl rfl inTb2 (by decide) rfl rfl wd_t_146 (by decide +kernel) rfl) ?_
  refine hAllOk.c 41 (ok_no) ?_
  refine hAllOk.c 42 (ok_no) ?_
  refine hAllOk.c 43 (ok_iconst (n := 1) (by decide +kernel) (by decide +kernel) rfl) ?_
  refine hAllOk.c 44 (ok_ireturn (by decide +kernel)) ?_
  trivial
def M_Re_acceptsColon : hM := (yX2_acceptsColon, prog_4_method_8_code, 2, (some .boolean), 0, 0)
def code_Re_acceptsColon (K : hK) (B : Nat × Nat) (Q : hPost) : List hSem := [x_aload 1 0, x_const 2 (3), x_putfield 5 2 4 (.int), x_no, x_no, x_iload 6 1, x_const 8 (58), x_no, x_icne 15 11, x_no, x_no, x_const 12 (1), x_goto 16, x_no, x_no, x_const 16 (0), x_ireturn (some .boolean) Q]
set_option maxRecDepth 100000 in
set_option maxHeartbeats 4000000 in
theorem okc_Re_acceptsColon (K : hK) (B : Nat × Nat) (Q : hPost) : hAllOk (hJ K M_Re_acceptsColon B Q) 0 (code_Re_acceptsColon K B Q) := by
  refine hAllOk.c 0 (ok_aload_n (f := 0) rfl (by decide +kernel) rfl) ?_
  refine hAllOk.c 1 (ok_iconst (n := 3) (by decide +kernel) (by decide +kernel) rfl) ?_
  refine hAllOk.c 2 (ok_putfield (idx := 25) (N := 7) (T := TX2) tyX2_ok nmX2 rfl rfl inTb2 (by decide) rfl rfl wd_t_146 (by decide +kernel) rfl) ?_
  refine hAllOk.c 3 (ok_no) ?_
  refine hAllOk.c 4 (ok_no) ?_
  refine hAllOk.c 5 (ok_iload_n (f := 1) rfl (by decide +kernel) rfl) ?_
  refine hAllOk.c 6 (ok_bipush (n := 58) (by decide +kernel) (by decide +kernel) rfl) ?_
  refine hAllOk.c 7 (ok_no) ?_
  refine hAllOk.c 8 (ok_icne (off := 7) (by decide +kernel) (by decide +kernel) rfl) ?_
  refine hAllOk.c 9 (ok_no) ?_
  refine hAllOk.c 10 (ok_no) ?_
  refine hAllOk.c 11 (ok_iconst (n := 1) (by decide +kernel) (by decide +kernel) rfl) ?_
  refine hAllOk.c 12 (ok_goto (off := 4) (by decide +kernel) (by decide +kernel)) ?_
  refine hAllOk.c 13 (ok_no) ?_
  refine hAllOk.c 14 (ok_no) ?_
  refine hAllOk.c 15 (ok_iconst (n := 0) (by decide +kernel) (by decide +kernel) rfl) ?_
  refine hAllOk.c 16 (ok_ireturn (by decide +kernel)) ?_
  trivial
def M_Re_changeLastStep : hM := (yX2_changeLastStep, prog_4_method_15_code, 2, none, 0, 0)
def code_Re_changeLastStep (K : hK) (B : Nat × Nat) (Q : hPost) : List hSem := [x_aload 1 0, x_getfield 4 2 1, x_no, x_no, x_ifle 31 7, x_no, x_no, x_aload 8 0, x_getfield 11 2 1, x_no, x_no, x_aload 12 0, x_getfield 15 2 0, x_no, x_no, x_alen K 16, x_icgt 31 19, x_no, x_no, x_aload 20 0, x_getfield 23 2 0, x_no, x_no, x_aload 24 0, x_getfield 27 2 1, x_no, x_no, x_const 28 (1), x_isub 29, x_iload 30 1, x_iastore K 31, x_return Q]
set_option maxRecDepth 100000 in
set_option maxHeartbeats 4000000 in
theorem okc_Re_changeLastStep (K : hK) (B : Nat × Nat) (Q : hPost) : hAllOk (hJ K M_Re_changeLastStep B Q) 0 (code_Re_changeLastStep K B Q) := by
  refine hAllOk.c 0 (ok_aload_n (f := 0) rfl (by decide +kernel) rfl) ?_
  refine hAllOk.c 1 (ok_getfield (idx := 15) (N := 7) (T := TX2) rfl inTb2 (by decide) rfl wd_t_140 (by decide +kernel) rfl) ?_
  refine hAllOk.c 2 (ok_no) ?_
  refine hAllOk.c 3 (ok_no) ?_
  refine hAllOk.c 4 (ok_ifle (off := 27) (by decide +kernel) (by decide +kernel) rfl) ?_
  refine hAllOk.c 5 (ok_no) ?_
  refine hAllOk.c 6 (ok_no) ?_
  refine hAllOk.c 7 (ok_aload_n (f := 0) rfl (by decide +kernel) rfl) ?_
  refine hAllOk.c 8 (ok_getfield (idx := 15) (N := 7) (T := TX2) rfl inTb2 (by decide) rfl wd_t_140 (by decide +kernel) rfl) ?_
  refine hAllOk.c 9 (ok_no) ?_
  refine hAllOk.c 10 (ok_no) ?_
  refine hAllOk.c 11 (ok_aload_n (f := 0) rfl (by decide +kernel) rfl) ?_
  refine hAllOk.c 12 (ok_getfield (idx := 9) (N := 7) (T := TX2) rfl inTb2 (by decide) rfl wd_t_138 (by decide +kernel) rfl) ?_
  refine hAllOk.c 13 (ok_no) ?_
  refine hAllOk.c 14 (ok_no) ?_
  refine hAllOk.c 15 (ok_alen (by decide +kernel) rfl) ?_
  refine hAllOk.c 16 (ok_icgt (off := 15) (by decide +kernel) (by decide +kernel) rfl) ?_
  refine hAllOk.c 17 (ok_no) ?_
  refine hAllOk.c 18 (ok_no) ?_
  refine hAllOk.c 19 (ok_aload_n (f := 0) rfl (by decide +kernel) rfl) ?_
  refine hAllOk.c 20 (ok_getfield (idx := 9) (N := 7) (T := TX2) rfl inTb2 (by decide) rfl wd_t_138 (by decide +kernel) rfl) ?_
  refine hAllOk.c 21 (ok_no) ?_
  refine hAllOk.c 22 (ok_no) ?_
  refine hAllOk.c 23 (ok_aload_n (f := 0) rfl (by decide +kernel) rfl) ?_
  refine hAllOk.c 24 (ok_getfield (idx := 15) (N := 7) (T := TX2) rfl inTb2 (by decide) rfl wd_t_140 (by decide +kernel) rfl) ?_
  refine hAllOk.c 25 (ok_no) ?_
  refine hAllOk.c 26 (ok_no) ?_
  refine hAllOk.c 27 (ok_iconst (n := 1) (by decide +kernel) (by decide +kernel) rfl) ?_
  refine hAllOk.c 28 (ok_isub (by decide +kernel) rfl) ?_
  refine hAllOk.c 29 (ok_iload_n (f := 1) rfl (by decide +kernel) rfl) ?_
  refine hAllOk.c 30 (ok_iastore (by decide +kernel) rfl) ?_
  refine hAllOk.c 31 (ok_return rfl (by decide +kernel)) ?_
  trivial
theorem wd_t_553 : Cond.methodLink RX2 79 yX2_changeLastStep ∈ hTb := hTb_t (List.mem_of_getElem? (i := 553) (by decide +kernel)) (by decide +kernel)
theorem wd_t_556 : Cond.code yX2_changeLastStep prog_4_method_15_code 2 none ∈ hTb := hTb_t (List.mem_of_getElem? (i := 556) (by decide +kernel)) (by decide +kernel)
theorem wd_t_555 : Cond.instanceMethod yX2_changeLastStep ∈ hTb := hTb_t (List.mem_of_getElem? (i := 555) (by decide +kernel)) (by decide +kernel)
theorem wd_s_40 : Cond.selects RX2 yX2_changeLastStep yX2_changeLastStep ∈ hTb := hTb_s (List.mem_of_getElem? (i := 40) (by decide +kernel)) (by decide +kernel)
def M_Re_acceptsLetter : hM := (yX2_acceptsLetter, prog_4_method_9_code, 2, (some .boolean), 1, 21)
def code_Re_acceptsLetter (K : hK) (B : Nat × Nat) (Q : hPost) : List hSem := [x_iload 1 1, x_callS K 4 M_Re_isLetter 1, x_no, x_no, x_ifne 9 7, x_no, x_no, x_const 8 (0), x_ireturn (some .boolean) Q, x_aload 10 0, x_dup 11, x_getfield 14 2 2, x_no, x_no, x_iload 15 1, x_const 17 (97), x_no, x_isub 18, x_callS K 21 M_Pa_bitOf 1, x_no, x_no, x_ior 22, x_putfield 25 2 2 (.int), x_no, x_no, x_aload 26 0, x_dup 27, x_getfield 30 2 6, x_no, x_no, x_iload 31 1, x_const 33 (97), x_no, x_isub 34, x_callS K 37 M_Pa_bitOf 1, x_no, x_no, x_ior 38, x_putfield 41 2 6 (.int), x_no, x_no, x_aload 42 0, x_aload 43 0, x_getfield 46 2 5, x_no, x_no, x_aload 47 0, x_getfield 50 2 6, x_no, x_no, x_callS K 53 M_Pa_atomOf 2, x_no, x_no, x_callV K 56 M_Re_changeLastStep 2 1, x_no, x_no, x_aload 57 0, x_const 58 (5), x_putfield 61 2 4 (.int), x_no, x_no, x_const 62 (1), x_ireturn (some .boolean) Q]
set_option maxRecDepth 100000 in
set_option maxHeartbeats 4000000 in
theorem okc_Re_acceptsLetter (K : hK) (B : Nat × Nat) (Q : hPost) : hAllOk (hJ K M_Re_acceptsLetter B Q) 0 (code_Re_acceptsLetter K B Q) := by
  refine hAllOk.c 0 (ok_iload_n (f := 1) rfl (by decide +kernel) rfl) ?_
  refine hAllOk.c 1 (ok_callS (idx := 68) ⟨wd_t_536, wd_t_5, by decide +kernel, by decide +kernel⟩ wd_t_534 wd_t_535 (by decide +kernel) rfl) ?_
  refine hAllOk.c 2 (ok_no) ?_
  refine hAllOk.c 3 (ok_no) ?_
  refine hAllOk.c 4 (ok_ifne (off := 5) (by decide +kernel) (by decide +kernel) rfl) ?_
  refine hAllOk.c 5 (ok_no) ?_
  refine hAllOk.c 6 (ok_no) ?_
  refine hAllOk.c 7 (ok_iconst (n := 0) (by decide +kernel) (by decide +kernel) rfl) ?_
  refine hAllOk.c 8 (ok_ireturn (by decide +kernel)) ?_
  refine hAllOk.c 9 (ok_aload_n (f := 0) rfl (by decide +kernel) rfl) ?_
  refine hAllOk.c 10 (ok_dup (by decide +kernel) rfl) ?_
  refine hAllOk.c 11 (ok_getfield (idx := 19) (N := 7) (T := TX2) rfl inTb2 (by decide) rfl wd_t_142 (by decide +kernel) rfl) ?_
  refine hAllOk.c 12 (ok_no) ?_
  refine hAllOk.c 13 (ok_no) ?_
  refine hAllOk.c 14 (ok_iload_n (f := 1) rfl (by decide +kernel) rfl) ?_
  refine hAllOk.c 15 (ok_bipush (n := 97) (by decide +kernel) (by decide +kernel) rfl) ?_
  refine hAllOk.c 16 (ok_no) ?_
  refine hAllOk.c 17 (ok_isub (by decide +kernel) rfl) ?_
  refine hAllOk.c 18 (ok_callSN (idx := 71) ⟨wd_t_296, wd_t_1, by decide +kernel, by decide +kernel⟩ wd_n_537 wd_t_295 (by decide +kernel) rfl) ?_
  refine hAllOk.c 19 (ok_no) ?_
  refine hAllOk.c 20 (ok_no) ?_
  refine hAllOk.c 21 (ok_ior (by decide +kernel) rfl) ?_
  refine hAllOk.c 22 (ok_putfield (idx := 19) (N := 7) (T := TX2) tyX2_ok nmX2 rfl rfl inTb2 (by decide) rfl rfl wd_t_142 (by decide +kernel) rfl) ?_
  refine hAllOk.c 23 (ok_no) ?_
  refine hAllOk.c 24 (ok_no) ?_
  refine hAllOk.c 25 (ok_aload_n (f := 0) rfl (by decide +kernel) rfl) ?_
  refine hAllOk.c 26 (ok_dup (by decide +kernel) rfl) ?_
  refine hAllOk.c 27 (ok_getfield (idx := 31) (N := 7) (T := TX2) rfl inTb2 (by decide) rfl wd_t_148 (by decide +kernel) rfl) ?_
  refine hAllOk.c 28 (ok_no) ?_
  refine hAllOk.c 29 (ok_no) ?_
  refine hAllOk.c 30 (ok_iload_n (f := 1) rfl (by decide +kernel) rfl) ?_
  refine hAllOk.c 31 (ok_bipush (n := 97) (by decide +kernel) (by decide +kernel) rfl) ?_
  refine hAllOk.c 32 (ok_no) ?_
  refine hAllOk.c 33 (ok_isub (by decide +kernel) rfl) ?_
  refine hAllOk.c 34 (ok_callSN (idx := 71) ⟨wd_t_296, wd_t_1, by decide +kernel, by decide +kernel⟩ wd_n_537 wd_t_295 (by decide +kernel) rfl) ?_
  refine hAllOk.c 35 (ok_no) ?_
  refine hAllOk.c 36 (ok_no) ?_
  refine hAllOk.c 37 (ok_ior (by decide +kernel) rfl) ?_
  refine hAllOk.c 38 (ok_putfield (idx := 31) (N := 7) (T := TX2) tyX2_ok nmX2 rfl rfl inTb2 (by decide) rfl rfl wd_t_148 (by decide +kernel) rfl) ?_
  refine hAllOk.c 39 (ok_no) ?_
  refine hAllOk.c 40 (ok_no) ?_
  refine hAllOk.c 41 (ok_aload_n (f := 0) rfl (by decide +kernel) rfl) ?_
  refine hAllOk.c 42 (ok_aload_n (f := 0) rfl (by decide +kernel) rfl) ?_
  refine hAllOk.c 43 (ok_getfield (idx := 28) (N := 7) (T := TX2) rfl inTb2 (by decide) rfl wd_t_147 (by decide +kernel) rfl) ?_
  refine hAllOk.c 44 (ok_no) ?_
  refine hAllOk.c 45 (ok_no) ?_
  refine hAllOk.c 46 (ok_aload_n (f := 0) rfl (by decide +kernel) rfl) ?_
  refine hAllOk.c 47 (ok_getfield (idx := 31) (N := 7) (T := TX2) rfl inTb2 (by decide) rfl wd_t_148 (by decide +kernel) rfl) ?_
  refine hAllOk.c 48 (ok_no) ?_
  refine hAllOk.c 49 (ok_no) ?_
  refine hAllOk.c 50 (ok_callSN (idx := 60) ⟨wd_t_265, wd_t_1, by decide +kernel, by decide +kernel⟩ wd_n_533 wd_t_264 (by decide +kernel) rfl) ?_
  refine hAllOk.c 51 (ok_no) ?_
  refine hAllOk.c 52 (ok_no) ?_
  refine hAllOk.c 53 (ok_callV (idx := 79) ⟨wd_t_556, wd_t_5, by decide +kernel, by decide +kernel⟩ rfl rfl wd_t_553 wd_t_555 wd_s_40 (by decide +kernel) rfl) ?_
  refine hAllOk.c 54 (ok_no) ?_
  refine hAllOk.c 55 (ok_no) ?_
  refine hAllOk.c 56 (ok_aload_n (f := 0) rfl (by decide +kernel) rfl) ?_
  refine hAllOk.c 57 (ok_iconst (n := 5) (by decide +kernel) (by decide +kernel) rfl) ?_
  refine hAllOk.c 58 (ok_putfield (idx := 25) (N := 7) (T := TX2) tyX2_ok nmX2 rfl rfl inTb2 (by decide) rfl rfl wd_t_146 (by decide +kernel) rfl) ?_
  refine hAllOk.c 59 (ok_no) ?_
  refine hAllOk.c 60 (ok_no) ?_
  refine hAllOk.c 61 (ok_iconst (n := 1) (by decide +kernel) (by decide +kernel) rfl) ?_
  refine hAllOk.c 62 (ok_ireturn (by decide +kernel)) ?_
  trivial
def M_Re_closesBracket : hM := (yX2_closesBracket, prog_4_method_11_code, 1, (some .boolean), 1, 21)
def code_Re_closesBracket (K : hK) (B : Nat × Nat) (Q : hPost) : List hSem := [x_aload 1 0, x_getfield 4 2 3, x_no, x_no, x_ifgt 9 7, x_no, x_no, x_const 8 (0), x_ireturn (some .boolean) Q, x_aload 10 0, x_dup 11, x_getfield 14 2 3, x_no, x_no, x_const 15 (1), x_isub 16, x_putfield 19 2 3 (.int), x_no, x_no, x_aload 20 0, x_const 22 (-2), x_no, x_callV K 25 M_Re_addStep 2 1, x_no, x_no, x_aload 26 0, x_const 27 (4), x_putfield 30 2 4 (.int), x_no, x_no, x_const 31 (1), x_ireturn (some .boolean) Q]
set_option maxRecDepth 100000 in
set_option maxHeartbeats 4000000 in
theorem okc_Re_closesBracket (K : hK) (B : Nat × Nat) (Q : hPost) : hAllOk (hJ K M_Re_closesBracket B Q) 0 (code_Re_closesBracket K B Q) := by
  refine hAllOk.c 0 (ok_aload_n (f := 0) rfl (by decide +kernel) rfl) ?_
  refine hAllOk.c 1 (ok_getfield (idx := 22) (N := 7) (T := TX2) rfl inTb2 (by decide) rfl wd_t_145 (by decide +kernel) rfl) ?_
  refine hAllOk.c 2 (ok_no) ?_
  refine hAllOk.c 3 (ok_no) ?_
  refine hAllOk.c 4 (ok_ifgt (off := 5) (by decide +kernel) (by decide +kernel) rfl) ?_
  refine hAllOk.c 5 (ok_no) ?_
  refine hAllOk.c 6 (ok_no) ?_
  refine hAllOk.c 7 (ok_iconst (n := 0) (by decide +kernel) (by decide +kernel) rfl) ?_
  refine hAllOk.c 8 (ok_ireturn (by decide +kernel)) ?_
  refine hAllOk.c 9 (ok_aload_n (f := 0) rfl (by decide +kernel) rfl) ?_
  refine hAllOk.c 10 (ok_dup (by decide +kernel) rfl) ?_
  refine hAllOk.c 11 (ok_getfield (idx := 22) (N := 7) (T := TX2) rfl inTb2 (by decide) rfl wd_t_145 (by decide +kernel) rfl) ?_
  refine hAllOk.c 12 (ok_no) ?_
  refine hAllOk.c 13 (ok_no) ?_
  refine hAllOk.c 14 (ok_iconst (n := 1) (by decide +kernel) (by decide +kernel) rfl) ?_
  refine hAllOk.c 15 (ok_isub (by decide +kernel) rfl) ?_
  refine hAllOk.c 16 (ok_putfield (idx := 22) (N := 7) (T := TX2) tyX2_ok nmX2 rfl rfl inTb2 (by decide) rfl rfl wd_t_145 (by decide +kernel) rfl) ?_
  refine hAllOk.c 17 (ok_no) ?_
  refine hAllOk.c 18 (ok_no) ?_
  refine hAllOk.c 19 (ok_aload_n (f := 0) rfl (by decide +kernel) rfl) ?_
  refine hAllOk.c 20 (ok_bipush (n := -2) (by decide +kernel) (by decide +kernel) rfl) ?_
  refine hAllOk.c 21 (ok_no) ?_
  refine hAllOk.c 22 (ok_callV (idx := 64) ⟨wd_t_532, wd_t_5, by decide +kernel, by decide +kernel⟩ rfl rfl wd_t_529 wd_t_531 wd_s_36 (by decide +kernel) rfl) ?_
  refine hAllOk.c 23 (ok_no) ?_
  refine hAllOk.c 24 (ok_no) ?_
  refine hAllOk.c 25 (ok_aload_n (f := 0) rfl (by decide +kernel) rfl) ?_
  refine hAllOk.c 26 (ok_iconst (n := 4) (by decide +kernel) (by decide +kernel) rfl) ?_
  refine hAllOk.c 27 (ok_putfield (idx := 25) (N := 7) (T := TX2) tyX2_ok nmX2 rfl rfl inTb2 (by decide) rfl rfl wd_t_146 (by decide +kernel) rfl) ?_
  refine hAllOk.c 28 (ok_no) ?_
  refine hAllOk.c 29 (ok_no) ?_
  refine hAllOk.c 30 (ok_iconst (n := 1) (by decide +kernel) (by decide +kernel) rfl) ?_
  refine hAllOk.c 31 (ok_ireturn (by decide +kernel)) ?_
  trivial
theorem wd_t_561 : Cond.methodLink RX2 82 yX2_closesBracket ∈ hTb := hTb_t (List.mem_of_getElem? (i := 561) (by decide +kernel)) (by decide +kernel)
theorem wd_t_564 : Cond.code yX2_closesBracket prog_4_method_11_code 1 (some .boolean) ∈ hTb := hTb_t (List.mem_of_getElem? (i := 564) (by decide +kernel)) (by decide +kernel)
theorem wd_t_563 : Cond.instanceMethod yX2_closesBracket ∈ hTb := hTb_t (List.mem_of_getElem? (i := 563) (by decide +kernel)) (by decide +kernel)
theorem wd_s_42 : Cond.selects RX2 yX2_closesBracket yX2_closesBracket ∈ hTb := hTb_s (List.mem_of_getElem? (i := 42) (by decide +kernel)) (by decide +kernel)
def M_Re_acceptsBehindAtom : hM := (yX2_acceptsBehindAtom, prog_4_method_10_code, 2, (some .boolean), 2, 41)
def code_Re_acceptsBehindAtom (K : hK) (B : Nat × Nat) (Q : hPost) : List hSem := [x_iload 1 1, x_const 3 (41), x_no, x_icne 11 6, x_no, x_no, x_aload 7 0, x_callV K 10 M_Re_closesBracket 2 0, x_no, x_no, x_ireturn (some .boolean) Q, x_iload 12 1, x_const 14 (124), x_no, x_icne 26 17, x_no, x_no, x_aload 18 0, x_const 20 (-3), x_no, x_callV K 23 M_Re_addStep 2 1, x_no, x_no, x_goto 34, x_no, x_no, x_iload 27 1, x_const 29 (38), x_no, x_iceq 34 32, x_no, x_no, x_const 33 (0), x_ireturn (some .boolean) Q, x_aload 35 0, x_const 36 (0), x_putfield 39 2 4 (.int), x_no, x_no, x_const 40 (1), x_ireturn (some .boolean) Q]
set_option maxRecDepth 100000 in
set_option maxHeartbeats 4000000 in
theorem okc_Re_acceptsBehindAtom (K : hK) (B : Nat × Nat) (Q : hPost) : hAllOk (hJ K M_Re_acceptsBehindAtom B Q) 0 (code_Re_acceptsBehindAtom K B Q) := by
  refine hAllOk.c 0 (ok_iload_n (f := 1) rfl (by decide +kernel) rfl) ?_
  refine hAllOk.c 1 (ok_bipush (n := 41) (by decide +kernel) (by decide +kernel) rfl) ?_
  refine hAllOk.c 2 (ok_no) ?_
  refine hAllOk.c 3 (ok_icne (off := 8) (by decide +kernel) (by decide +kernel) rfl) ?_
  refine hAllOk.c 4 (ok_no) ?_
  refine hAllOk.c 5 (ok_no) ?_
  refine hAllOk.c 6 (ok_aload_n (f := 0) rfl (by decide +kernel) rfl) ?_
  refine hAllOk.c 7 (ok_callV (idx := 82) ⟨wd_t_564, wd_t_5, by decide +kernel, by decide +kernel⟩ rfl rfl wd_t_561 wd_t_563 wd_s_42 (by decide +kernel) rfl) ?_
  refine hAllOk.c 8 (ok_no) ?_
  refine hAllOk.c 9 (ok_no) ?_
  refine hAllOk.c 10 (ok_ireturn (by decide +kernel)) ?_
  refine hAllOk.c 11 (ok_iload_n (f := 1) rfl (by decide +kernel) rfl) ?_
  refine hAllOk.c 12 (ok_bipush (n := 124) (by decide +kernel) (by decide +kernel) rfl) ?_
  refine hAllOk.c 13 (ok_no) ?_
  refine hAllOk.c 14 (ok_icne (off := 12) (by decide +kernel) (by decide +kernel) rfl) ?_
  refine hAllOk.c 15 (ok_no) ?_
  refine hAllOk.c 16 (ok_no) ?_
  refine hAllOk.c 17 (ok_aload_n (f := 0) rfl (by decide +kernel) rfl) ?_
  refine hAllOk.c 18 (ok_bipush (n := -3) (by decide +kernel) (by decide +kernel) rfl) ?_
  refine hAllOk.c 19 (ok_no) ?_
  refine hAllOk.c 20 (ok_callV (idx := 64) ⟨wd_t_532, wd_t_5, by decide +kernel, by decide +kernel⟩ rfl rfl wd_t_529 wd_t_531 wd_s_36 (by decide +kernel) rfl) ?_
  refine hAllOk.c 21 (ok_no) ?_
  refine hAllOk.c 22 (ok_no) ?_
  refine hAllOk.c 23 (ok_goto (off := 11) (by decide +kernel) (by decide +kernel)) ?_
  refine hAllOk.c 24 (ok_no) ?_
  refine hAllOk.c 25 (ok_no) ?_
  refine hAllOk.c 26 (ok_iload_n (f := 1) rfl (by decide +kernel) rfl) ?_
  refine hAllOk.c 27 (ok_bipush (n := 38) (by decide +kernel) (by decide +kernel) rfl) ?_
  refine hAllOk.c 28 (ok_no) ?_
  refine hAllOk.c 29 (ok_iceq (off := 5) (by decide +kernel) (by decide +kernel) rfl) ?_
  refine hAllOk.c 30 (ok_no) ?_
  refine hAllOk.c 31 (ok_no) ?_
  refine hAllOk.c 32 (ok_iconst (n := 0) (by decide +kernel) (by decide +kernel) rfl) ?_
  refine hAllOk.c 33 (ok_ireturn (by decide +kernel)) ?_
  refine hAllOk.c 34 (ok_aload_n (f := 0) rfl (by decide +kernel) rfl) ?_
  refine hAllOk.c 35 (ok_iconst (n := 0) (by decide +kernel) (by decide +kernel) rfl) ?_
  refine hAllOk.c 36 (ok_putfield (idx := 25) (N := 7) (T := TX2) tyX2_ok nmX2 rfl rfl inTb2 (by decide) rfl rfl wd_t_146 (by decide +kernel) rfl) ?_
  refine hAllOk.c 37 (ok_no) ?_
  refine hAllOk.c 38 (ok_no) ?_
  refine hAllOk.c 39 (ok_iconst (n := 1) (by decide +kernel) (by decide +kernel) rfl) ?_
  refine hAllOk.c 40 (ok_ireturn (by decide +kernel)) ?_
  trivial
def M_Re_acceptsSecondDigit : hM := (yX2_acceptsSecondDigit, prog_4_method_7_code, 2, (some .boolean), 1, 22)
def code_Re_acceptsSecondDigit (K : hK) (B : Nat × Nat) (Q : hPost) : List hSem := [x_iload 1 1, x_const 3 (48), x_no, x_const 5 (50), x_no, x_callS K 8 M_Re_isDigit 3, x_no, x_no, x_ifne 13 11, x_no, x_no, x_const 12 (0), x_ireturn (some .boolean) Q, x_aload 14 0, x_const 16 (10), x_no, x_iload 17 1, x_iadd 18, x_const 20 (48), x_no, x_isub 21, x_const 24 (4095), x_no, x_no, x_callS K 27 M_Pa_atomOf 2, x_no, x_no, x_callV K 30 M_Re_changeLastStep 2 1, x_no, x_no, x_aload 31 0, x_const 32 (4), x_putfield 35 2 4 (.int), x_no, x_no, x_const 36 (1), x_ireturn (some .boolean) Q]
set_option maxRecDepth 100000 in
set_option maxHeartbeats 4000000 in
theorem okc_Re_acceptsSecondDigit (K : hK) (B : Nat × Nat) (Q : hPost) : hAllOk (hJ K M_Re_acceptsSecondDigit B Q) 0 (code_Re_acceptsSecondDigit K B Q) := by
  refine hAllOk.c 0 (ok_iload_n (f := 1) rfl (by decide +kernel) rfl) ?_
  refine hAllOk.c 1 (ok_bipush (n := 48) (by decide +kernel) (by decide +kernel) rfl) ?_
  refine hAllOk.c 2 (ok_no) ?_
  refine hAllOk.c 3 (ok_bipush (n := 50) (by decide +kernel) (by decide +kernel) rfl) ?_
  refine hAllOk.c 4 (ok_no) ?_
  refine hAllOk.c 5 (ok_callS (idx := 75) ⟨wd_t_540, wd_t_5, by decide +kernel, by decide +kernel⟩ wd_t_538 wd_t_539 (by decide +kernel) rfl) ?_
  refine hAllOk.c 6 (ok_no) ?_
  refine hAllOk.c 7 (ok_no) ?_
  refine hAllOk.c 8 (ok_ifne (off := 5) (by decide +kernel) (by decide +kernel) rfl) ?_
  refine hAllOk.c 9 (ok_no) ?_
  refine hAllOk.c 10 (ok_no) ?_
  refine hAllOk.c 11 (ok_iconst (n := 0) (by decide +kernel) (by decide +kernel) rfl) ?_
  refine hAllOk.c 12 (ok_ireturn (by decide +kernel)) ?_
  refine hAllOk.c 13 (ok_aload_n (f := 0) rfl (by decide +kernel) rfl) ?_
  refine hAllOk.c 14 (ok_bipush (n := 10) (by decide +kernel) (by decide +kernel) rfl) ?_
  refine hAllOk.c 15 (ok_no) ?_
  refine hAllOk.c 16 (ok_iload_n (f := 1) rfl (by decide +kernel) rfl) ?_
  refine hAllOk.c 17 (ok_iadd (by decide +kernel) rfl) ?_
  refine hAllOk.c 18 (ok_bipush (n := 48) (by decide +kernel) (by decide +kernel) rfl) ?_
  refine hAllOk.c 19 (ok_no) ?_
  refine hAllOk.c 20 (ok_isub (by decide +kernel) rfl) ?_
  refine hAllOk.c 21 (ok_sipush (n := 4095) (by decide +kernel) (by decide +kernel) rfl) ?_
  refine hAllOk.c 22 (ok_no) ?_
  refine hAllOk.c 23 (ok_no) ?_
  refine hAllOk.c 24 (ok_callSN (idx := 60) ⟨wd_t_265, wd_t_1, by decide +kernel, by decide +kernel⟩ wd_n_533 wd_t_264 (by decide +kernel) rfl) ?_
  refine hAllOk.c 25 (ok_no) ?_
  refine hAllOk.c 26 (ok_no) ?_
  refine hAllOk.c 27 (ok_callV (idx := 79) ⟨wd_t_556, wd_t_5, by decide +kernel, by decide +kernel⟩ rfl rfl wd_t_553 wd_t_555 wd_s_40 (by decide +kernel) rfl) ?_
  refine hAllOk.c 28 (ok_no) ?_
  refine hAllOk.c 29 (ok_no) ?_
  refine hAllOk.c 30 (ok_aload_n (f := 0) rfl (by decide +kernel) rfl) ?_
  refine hAllOk.c 31 (ok_iconst (n := 4) (by decide +kernel) (by decide +kernel) rfl) ?_
  refine hAllOk.c 32 (ok_putfield (idx := 25) (N := 7) (T := TX2) tyX2_ok nmX2 rfl rfl inTb2 (by decide) rfl rfl wd_t_146 (by decide +kernel) rfl) ?_
  refine hAllOk.c 33 (ok_no) ?_
  refine hAllOk.c 34 (ok_no) ?_
  refine hAllOk.c 35 (ok_iconst (n := 1) (by decide +kernel) (by decide +kernel) rfl) ?_
  refine hAllOk.c 36 (ok_ireturn (by decide +kernel)) ?_
  trivial
theorem wd_t_521 : Cond.methodLink RX2 38 yX2_acceptsAtom ∈ hTb := hTb_t (List.mem_of_getElem? (i := 521) (by decide +kernel)) (by decide +kernel)
theorem wd_t_524 : Cond.code yX2_acceptsAtom prog_4_method_4_code 2 (some .boolean) ∈ hTb := hTb_t (List.mem_of_getElem? (i := 524) (by decide +kernel)) (by decide +kernel)
theorem wd_t_523 : Cond.instanceMethod yX2_acceptsAtom ∈ hTb := hTb_t (List.mem_of_getElem? (i := 523) (by decide +kernel)) (by decide +kernel)
theorem wd_s_34 : Cond.selects RX2 yX2_acceptsAtom yX2_acceptsAtom ∈ hTb := hTb_s (List.mem_of_getElem? (i := 34) (by decide +kernel)) (by decide +kernel)
theorem wd_t_541 : Cond.methodLink RX2 41 yX2_acceptsNumber ∈ hTb := hTb_t (List.mem_of_getElem? (i := 541) (by decide +kernel)) (by decide +kernel)
theorem wd_t_544 : Cond.code yX2_acceptsNumber prog_4_method_6_code 2 (some .boolean) ∈ hTb := hTb_t (List.mem_of_getElem? (i := 544) (by decide +kernel)) (by decide +kernel)
theorem wd_t_543 : Cond.instanceMethod yX2_acceptsNumber ∈ hTb := hTb_t (List.mem_of_getElem? (i := 543) (by decide +kernel)) (by decide +kernel)
theorem wd_s_37 : Cond.selects RX2 yX2_acceptsNumber yX2_acceptsNumber ∈ hTb := hTb_s (List.mem_of_getElem? (i := 37) (by decide +kernel)) (by decide +kernel)
theorem wd_t_545 : Cond.methodLink RX2 44 yX2_acceptsColon ∈ hTb := hTb_t (List.mem_of_getElem? (i := 545) (by decide +kernel)) (by decide +kernel)
theorem wd_t_548 : Cond.code yX2_acceptsColon prog_4_method_8_code 2 (some .boolean) ∈ hTb := hTb_t (List.mem_of_getElem? (i := 548) (by decide +kernel)) (by decide +kernel)
theorem wd_t_547 : Cond.instanceMethod yX2_acceptsColon ∈ hTb := hTb_t (List.mem_of_getElem? (i := 547) (by decide +kernel)) (by decide +kernel)
theorem wd_s_38 : Cond.selects RX2 yX2_acceptsColon yX2_acceptsColon ∈ hTb := hTb_s (List.mem_of_getElem? (i := 38) (by decide +kernel)) (by decide +kernel)
theorem wd_t_549 : Cond.methodLink RX2 47 yX2_acceptsLetter ∈ hTb := hTb_t (List.mem_of_getElem? (i := 549) (by decide +kernel)) (by decide +kernel)
theorem wd_t_552 : Cond.code yX2_acceptsLetter prog_4_method_9_code 2 (some .boolean) ∈ hTb := hTb_t (List.mem_of_getElem? (i := 552) (by decide +kernel)) (by decide +kernel)
theorem wd_t_551 : Cond.instanceMethod yX2_acceptsLetter ∈ hTb := hTb_t (List.mem_of_getElem? (i := 551) (by decide +kernel)) (by decide +kernel)
theorem wd_s_39 : Cond.selects RX2 yX2_acceptsLetter yX2_acceptsLetter ∈ hTb := hTb_s (List.mem_of_getElem? (i := 39) (by decide +kernel)) (by decide +kernel)
theorem wd_t_557 : Cond.methodLink RX2 50 yX2_acceptsBehindAtom ∈ hTb := hTb_t (List.mem_of_getElem? (i := 557) (by decide +kernel)) (by decide +kernel)
theorem wd_t_560 : Cond.code yX2_acceptsBehindAtom prog_4_method_10_code 2 (some .boolean) ∈ hTb := hTb_t (List.mem_of_getElem? (i := 560) (by decide +kernel)) (by decide +kernel)
theorem wd_t_559 : Cond.instanceMethod yX2_acceptsBehindAtom ∈ hTb := hTb_t (List.mem_of_getElem? (i := 559) (by decide +kernel)) (by decide +kernel)
theorem wd_s_41 : Cond.selects RX2 yX2_acceptsBehindAtom yX2_acceptsBehindAtom ∈ hTb := hTb_s (List.mem_of_getElem? (i := 41) (by decide +kernel)) (by decide +kernel)
theorem wd_t_565 : Cond.methodLink RX2 53 yX2_acceptsSecondDigit ∈ hTb := hTb_t (List.mem_of_getElem? (i := 565) (by decide +kernel)) (by decide +kernel)
theorem wd_t_568 : Cond.code yX2_acceptsSecondDigit prog_4_method_7_code 2 (some .boolean) ∈ hTb := hTb_t (List.mem_of_getElem? (i := 568) (by decide +kernel)) (by decide +kernel)
theorem wd_t_567 : Cond.instanceMethod yX2_acceptsSecondDigit ∈ hTb := hTb_t (List.mem_of_getElem? (i := 567) (by decide +kernel)) (by decide +kernel)
theorem wd_s_43 : Cond.selects RX2 yX2_acceptsSecondDigit yX2_acceptsSecondDigit ∈ hTb := hTb_s (List.mem_of_getElem? (i := 43) (by decide +kernel)) (by decide +kernel)
def M_Re_accepts : hM := (yX2_accepts, prog_4_method_3_code, 2, (some .boolean), 3, 62)
def code_Re_accepts (K : hK) (B : Nat × Nat) (Q : hPost) : List hSem := [x_aload 1 0, x_getfield 4 2 4, x_no, x_no, x_tab 116 [(0, 48), (1, 54), (2, 60), (3, 66), (4, 116), (5, 72), (6, 94)], x_no, x_no, x_no, x_no, x_no, x_no, x_no, x_no, x_no, x_no, x_no, x_no, x_no, x_no, x_no, x_no, x_no, x_no, x_no, x_no, x_no, x_no, x_no, x_no, x_no, x_no, x_no, x_no, x_no, x_no, x_no, x_no, x_no, x_no, x_no, x_no, x_no, x_no, x_no, x_no, x_no, x_no, x_no, x_aload 49 0, x_iload 50 1, x_callV K 53 M_Re_acceptsAtom 2 1, x_no, x_no, x_ireturn (some .boolean) Q, x_aload 55 0, x_iload 56 1, x_callV K 59 M_Re_acceptsNumber 2 1, x_no, x_no, x_ireturn (some .boolean) Q, x_aload 61 0, x_iload 62 1, x_callV K 65 M_Re_acceptsColon 2 1, x_no, x_no, x_ireturn (some .boolean) Q, x_aload 67 0, x_iload 68 1, x_callV K 71 M_Re_acceptsLetter 2 1, x_no, x_no, x_ireturn (some .boolean) Q, x_aload 73 0, x_iload 74 1, x_callV K 77 M_Re_acceptsLetter 2 1, x_no, x_no, x_ifne 88 80, x_no, x_no, x_aload 81 0, x_iload 82 1, x_callV K 85 M_Re_acceptsBehindAtom 2 1, x_no, x_no, x_ifeq 92 88, x_no, x_no, x_const 89 (1), x_goto 93, x_no, x_no, x_const 93 (0), x_ireturn (some .boolean) Q, x_aload 95 0, x_iload 96 1, x_callV K 99 M_Re_acceptsSecondDigit 2 1, x_no, x_no, x_ifne 110 102, x_no, x_no, x_aload 103 0, x_iload 104 1, x_callV K 107 M_Re_acceptsBehindAtom 2 1, x_no, x_no, x_ifeq 114 110, x_no, x_no, x_const 111 (1), x_goto 115, x_no, x_no, x_const 115 (0), x_ireturn (some .boolean) Q, x_aload 117 0, x_iload 118 1, x_callV K 121 M_Re_acceptsBehindAtom 2 1, x_no, x_no, x_ireturn (some .boolean) Q]
set_option maxRecDepth 100000 in
set_option maxHeartbeats 4000000 in
theorem okc_Re_accepts (K : hK) (B : Nat × Nat) (Q : hPost) : hAllOk (hJ K M_Re_accepts B Q) 0 (code_Re_accepts K B Q) := by
  refine hAllOk.c 0 (ok_aload_n (f := 0) rfl (by decide +kernel) rfl) ?_
  refine hAllOk.c 1 (ok_getfield (idx := 25) (N := 7) (T := TX2) rfl inTb2 (by decide) rfl wd_t_146 (by decide +kernel) rfl) ?_
  refine hAllOk.c 2 (ok_no) ?_
  refine hAllOk.c 3 (ok_no) ?_
  refine hAllOk.c 4 (ok_tab (dflt := 112) (lo := 0) (hi := 6) (offs := #[44, 50, 56, 62, 112, 68, 90]) (len := 44) (by decide +kernel) (by decide +kernel) (by decide +kernel) (by decide +kernel)) ?_
  refine hAllOk.c 5 (ok_no) ?_
  refine hAllOk.c 6 (ok_no) ?_
  refine hAllOk.c 7 (ok_no) ?_
  refine hAllOk.c 8 (ok_no) ?_
  refine hAllOk.c 9 (ok_no) ?_
  refine hAllOk.c 10 (ok_no) ?_
  refine hAllOk.c 11 (ok_no) ?_
  refine hAllOk.c 12 (ok_no) ?_
  refine hAllOk.c 13 (ok_no) ?_
  refine hAllOk.c 14 (ok_no) ?_
  refine hAllOk.c 15 (ok_no) ?_
  refine hAllOk.c 16 (ok_no) ?_
  refine hAllOk.c 17 (ok_no) ?_
  refine hAllOk.c 18 (ok_no) ?_
  refine hAllOk.c 19 (ok_no) ?_
  refine hAllOk.c 20 (ok_no) ?_
  refine hAllOk.c 21 (ok_no) ?_
  refine hAllOk.c 22 (ok_no) ?_
  refine hAllOk.c 23 (ok_no) ?_
  refine hAllOk.c 24 (ok_no) ?_
  refine hAllOk.c 25 (ok_no) ?_
  refine hAllOk.c 26 (ok_no) ?_
  refine hAllOk.c 27 (ok_no) ?_
  refine hAllOk.c 28 (ok_no) ?_
  refine hAllOk.c 29 (ok_no) ?_
  refine hAllOk.c 30 (ok_no) ?_
  refine hAllOk.c 31 (ok_no) ?_
  refine hAllOk.c 32 (ok_no) ?_
  refine hAllOk.c 33 (ok_no) ?_
  refine hAllOk.c 34 (ok_no) ?_
  refine hAllOk.c 35 (ok_no) ?_
  refine hAllOk.c 36 (ok_no) ?_
  refine hAllOk.c 37 (ok_no) ?_
  refine hAllOk.c 38 (ok_no) ?_
  refine hAllOk.c 39 (ok_no) ?_
  refine hAllOk.c 40 (ok_no) ?_
  refine hAllOk.c 41 (ok_no) ?_
  refine hAllOk.c 42 (ok_no) ?_
  refine hAllOk.c 43 (ok_no) ?_
  refine hAllOk.c 44 (ok_no) ?_
  refine hAllOk.c 45 (ok_no) ?_
  refine hAllOk.c 46 (ok_no) ?_
  refine hAllOk.c 47 (ok_no) ?_
  refine hAllOk.c 48 (ok_aload_n (f := 0) rfl (by decide +kernel) rfl) ?_
  refine hAllOk.c 49 (ok_iload_n (f := 1) rfl (by decide +kernel) rfl) ?_
  refine hAllOk.c 50 (ok_callV (idx := 38) ⟨wd_t_524, wd_t_5, by decide +kernel, by decide +kernel⟩ rfl rfl wd_t_521 wd_t_523 wd_s_34 (by decide +kernel) rfl) ?_
  refine hAllOk.c 51 (ok_no) ?_
  refine hAllOk.c 52 (ok_no) ?_
  refine hAllOk.c 53 (ok_ireturn (by decide +kernel)) ?_
  refine hAllOk.c 54 (ok_aload_n (f := 0) rfl (by decide +kernel) rfl) ?_
  refine hAllOk.c 55 (ok_iload_n (f := 1) rfl (by decide +kernel) rfl) ?_
  refine hAllOk.c 56 (ok_callV (idx := 41) ⟨wd_t_544, wd_t_5, by decide +kernel, by decide +kernel⟩ rfl rfl wd_t_541 wd_t_543 wd_s_37 (by decide +kernel) rfl) ?_
  refine hAllOk.c 57 (ok_no) ?_
  refine hAllOk.c 58 (ok_no) ?_
  refine hAllOk.c 59 (ok_ireturn (by decide +kernel)) ?_
  refine hAllOk.c 60 (ok_aload_n (f := 0) rfl (by decide +kernel) rfl) ?_
  refine hAllOk.c 61 (ok_iload_n (f := 1) rfl (by decide +kernel) rfl) ?_
  refine hAllOk.c 62 (ok_callV (idx := 44) ⟨wd_t_548, wd_t_5, by decide +kernel, by decide +kernel⟩ rfl rfl wd_t_545 wd_t_547 wd_s_38 (by decide +kernel) rfl) ?_
  refine hAllOk.c 63 (ok_no) ?_
  refine hAllOk.c 64 (ok_no) ?_
  refine hAllOk.c 65 (ok_ireturn (by decide +kernel)) ?_
  refine hAllOk.c 66 (ok_aload_n (f := 0) rfl (by decide +kernel) rfl) ?_
  refine hAllOk.c 67 (ok_iload_n (f := 1) rfl (by decide +kernel) rfl) ?_
  refine hAllOk.c 68 (ok_callV (idx := 47) ⟨wd_t_552, wd_t_5, by decide +kernel, by decide +kernel⟩ rfl rfl wd_t_549 wd_t_551 wd_s_39 (by decide +kernel) rfl) ?_
  refine hAllOk.c 69 (ok_no) ?_
  refine hAllOk.c 70 (ok_no) ?_
  refine hAllOk.c 71 (ok_ireturn (by decide +kernel)) ?_
  refine hAllOk.c 72 (ok_aload_n (f := 0) rfl (by decide +kernel) rfl) ?_
  refine hAllOk.c 73 (ok_iload_n (f := 1) rfl (by decide +kernel) rfl) ?_
  refine hAllOk.c 74 (ok_callV (idx := 47) ⟨wd_t_552, wd_t_5, by decide +kernel, by decide +kernel⟩ rfl rfl wd_t_549 wd_t_551 wd_s_39 (by decide +kernel) rfl) ?_
  refine hAllOk.c 75 (ok_no) ?_
  refine hAllOk.c 76 (ok_no) ?_
  refine hAllOk.c 77 (ok_ifne (off := 11) (by decide +kernel) (by decide +kernel) rfl) ?_
  refine hAllOk.c 78 (ok_no) ?_
  refine hAllOk.c 79 (ok_no) ?_
  refine hAllOk.c 80 (ok_aload_n (f := 0) rfl (by decide +kernel) rfl) ?_
  refine hAllOk.c 81 (ok_iload_n (f := 1) rfl (by decide +kernel) rfl) ?_
  refine hAllOk.c 82 (ok_callV (idx := 50) ⟨wd_t_560, wd_t_5, by decide +kernel, by decide +kernel⟩ rfl rfl wd_t_557 wd_t_559 wd_s_41 (by decide +kernel) rfl) ?_
  refine hAllOk.c 83 (ok_no) ?_
  refine hAllOk.c 84 (ok_no) ?_
  refine hAllOk.c 85 (ok_ifeq (off := 7) (by decide +kernel) (by decide +kernel) rfl) ?_
  refine hAllOk.c 86 (ok_no) ?_
  refine hAllOk.c 87 (ok_no) ?_
  refine hAllOk.c 88 (ok_iconst (n := 1) (by decide +kernel) (by decide +kernel) rfl) ?_
  refine hAllOk.c 89 (ok_goto (off := 4) (by decide +kernel) (by decide +kernel)) ?_
  refine hAllOk.c 90 (ok_no) ?_
  refine hAllOk.c 91 (ok_no) ?_
  refine hAllOk.c 92 (ok_iconst (n := 0) (by decide +kernel) (by decide +kernel) rfl) ?_
  refine hAllOk.c 93 (ok_ireturn (by decide +kernel)) ?_
  refine hAllOk.c 94 (ok_aload_n (f := 0) rfl (by decide +kernel) rfl) ?_
  refine hAllOk.c 95 (ok_iload_n (f := 1) rfl (by decide +kernel) rfl) ?_
  refine hAllOk.c 96 (ok_callV (idx := 53) ⟨wd_t_568, wd_t_5, by decide +kernel, by decide +kernel⟩ rfl rfl wd_t_565 wd_t_567 wd_s_43 (by decide +kernel) rfl) ?_
  refine hAllOk.c 97 (ok_no) ?_
  refine hAllOk.c 98 (ok_no) ?_
  refine hAllOk.c 99 (ok_ifne (off := 11) (by decide +kernel) (by decide +kernel) rfl) ?_
  refine hAllOk.c 100 (ok_no) ?_
  refine hAllOk.c 101 (ok_no) ?_
  refine hAllOk.c 102 (ok_aload_n (f := 0) rfl (by decide +kernel) rfl) ?_
  refine hAllOk.c 103 (ok_iload_n (f := 1) rfl (by decide +kernel) rfl) ?_
  refine hAllOk.c 104 (ok_callV (idx := 50) ⟨wd_t_560, wd_t_5, by decide +kernel, by decide +kernel⟩ rfl rfl wd_t_557 wd_t_559 wd_s_41 (by decide +kernel) rfl) ?_
  refine hAllOk.c 105 (ok_no) ?_
  refine hAllOk.c 106 (ok_no) ?_
  refine hAllOk.c 107 (ok_ifeq (off := 7) (by decide +kernel) (by decide +kernel) rfl) ?_
  refine hAllOk.c 108 (ok_no) ?_
  refine hAllOk.c 109 (ok_no) ?_
  refine hAllOk.c 110 (ok_iconst (n := 1) (by decide +kernel) (by decide +kernel) rfl) ?_
  refine hAllOk.c 111 (ok_goto (off := 4) (by decide +kernel) (by decide +kernel)) ?_
  refine hAllOk.c 112 (ok_no) ?_
  refine hAllOk.c 113 (ok_no) ?_
  refine hAllOk.c 114 (ok_iconst (n := 0) (by decide +kernel) (by decide +kernel) rfl) ?_
  refine hAllOk.c 115 (ok_ireturn (by decide +kernel)) ?_
  refine hAllOk.c 116 (ok_aload_n (f := 0) rfl (by decide +kernel) rfl) ?_
  refine hAllOk.c 117 (ok_iload_n (f := 1) rfl (by decide +kernel) rfl) ?_
  refine hAllOk.c 118 (ok_callV (idx := 50) ⟨wd_t_560, wd_t_5, by decide +kernel, by decide +kernel⟩ rfl rfl wd_t_557 wd_t_559 wd_s_41 (by decide +kernel) rfl) ?_
  refine hAllOk.c 119 (ok_no) ?_
  refine hAllOk.c 120 (ok_no) ?_
  refine hAllOk.c 121 (ok_ireturn (by decide +kernel)) ?_
  trivial
theorem wd_t_517 : Cond.methodLink RX2 34 yX2_accepts ∈ hTb := hTb_t (List.mem_of_getElem? (i := 517) (by decide +kernel)) (by decide +kernel)
theorem wd_t_520 : Cond.code yX2_accepts prog_4_method_3_code 2 (some .boolean) ∈ hTb := hTb_t (List.mem_of_getElem? (i := 520) (by decide +kernel)) (by decide +kernel)
theorem wd_t_519 : Cond.instanceMethod yX2_accepts ∈ hTb := hTb_t (List.mem_of_getElem? (i := 519) (by decide +kernel)) (by decide +kernel)
theorem wd_s_33 : Cond.selects RX2 yX2_accepts yX2_accepts ∈ hTb := hTb_s (List.mem_of_getElem? (i := 33) (by decide +kernel)) (by decide +kernel)
def M_Re_read : hM := (yX2_read, prog_4_method_2_code, 4, (some .int), 4, 83)
def code_Re_read (K : hK) (B : Nat × Nat) (Q : hPost) : List hSem := [x_aload 1 0, x_const 2 (0), x_putfield 5 2 1 (.int), x_no, x_no, x_aload 6 0, x_const 7 (0), x_putfield 10 2 2 (.int), x_no, x_no, x_aload 11 0, x_const 12 (0), x_putfield 15 2 3 (.int), x_no, x_no, x_aload 16 0, x_const 17 (0), x_putfield 20 2 4 (.int), x_no, x_no, x_const 21 (0), x_istore 22 3, x_iload 23 3, x_iload 24 2, x_icge 51 27, x_no, x_no, x_iload 28 3, x_aload 29 1, x_alen K 30, x_icge 51 33, x_no, x_no, x_aload 34 0, x_aload 35 1, x_iload 36 3, x_caload K 37, x_callV K 40 M_Re_accepts 2 1, x_no, x_no, x_ifne 45 43, x_no, x_no, x_iload 44 3, x_ireturn (some .int) Q, x_iinc 48 3 (1), x_no, x_no, x_goto 22, x_no, x_no, x_aload 52 0, x_getfield 55 2 4, x_no, x_no, x_const 56 (4), x_iclt 70 59, x_no, x_no, x_aload 60 0, x_getfield 63 2 3, x_no, x_no, x_ifne 70 66, x_no, x_no, x_const 67 (1), x_goto 71, x_no, x_no, x_const 71 (0), x_istore 72 3, x_iload 73 3, x_ifeq 80 76, x_no, x_no, x_const 77 (-1), x_goto 81, x_no, x_no, x_iload 81 2, x_ireturn (some .int) Q]
set_option maxRecDepth 100000 in
set_option maxHeartbeats 4000000 in
theorem okc_Re_read (K : hK) (B : Nat × Nat) (Q : hPost) : hAllOk (hJ K M_Re_read B Q) 0 (code_Re_read K B Q) := by
  refine hAllOk.c 0 (ok_aload_n (f := 0) rfl (by decide +kernel) rfl) ?_
  refine hAllOk.c 1 (ok_iconst (n := 0) (by decide +kernel) (by decide +kernel) rfl) ?_
  refine hAllOk.c 2 (ok_putfield (idx := 15) (N := 7) (T := TX2) tyX2_ok nmX2 rfl rfl inTb2 (by decide) rfl rfl wd_t_140 (by decide +kernel) rfl) ?_
  refine hAllOk.c 3 (ok_no) ?_
  refine hAllOk.c 4 (ok_no) ?_
  refine hAllOk.c 5 (ok_aload_n (f := 0) rfl (by decide +kernel) rfl) ?_
  refine hAllOk.c 6 (ok_iconst (n := 0) (by decide +kernel) (by decide +kernel) rfl) ?_
  refine hAllOk.c 7 (ok_putfield (idx := 19) (N := 7) (T := TX2) tyX2_ok nmX2 rfl rfl inTb2 (by decide) rfl rfl wd_t_142 (by decide +kernel) rfl) ?_
  refine hAllOk.c 8 (ok_no) ?_
  refine hAllOk.c 9 (ok_no) ?_
  refine hAllOk.c 10 (ok_aload_n (f := 0) rfl (by decide +kernel) rfl) ?_
  refine hAllOk.c 11 (ok_iconst (n := 0) (by decide +kernel) (by decide +kernel) rfl) ?_
  refine hAllOk.c 12 (ok_putfield (idx := 22) (N := 7) (T := TX2) tyX2_ok nmX2 rfl rfl inTb2 (by decide) rfl rfl wd_t_145 (by decide +kernel) rfl) ?_
  refine hAllOk.c 13 (ok_no) ?_
  refine hAllOk.c 14 (ok_no) ?_
  refine hAllOk.c 15 (ok_aload_n (f := 0) rfl (by decide +kernel) rfl) ?_
  refine hAllOk.c 16 (ok_iconst (n := 0) (by decide +kernel) (by decide +kernel) rfl) ?_
  refine hAllOk.c 17 (ok_putfield (idx := 25) (N := 7) (T := TX2) tyX2_ok nmX2 rfl rfl inTb2 (by decide) rfl rfl wd_t_146 (by decide +kernel) rfl) ?_
  refine hAllOk.c 18 (ok_no) ?_
  refine hAllOk.c 19 (ok_no) ?_
  refine hAllOk.c 20 (ok_iconst (n := 0) (by decide +kernel) (by decide +kernel) rfl) ?_
  refine hAllOk.c 21 (ok_istore_n (f := 3) rfl (by decide) (by decide +kernel) rfl) ?_
  refine hAllOk.c 22 (ok_iload_n (f := 3) rfl (by decide +kernel) rfl) ?_
  refine hAllOk.c 23 (ok_iload_n (f := 2) rfl (by decide +kernel) rfl) ?_
  refine hAllOk.c 24 (ok_icge (off := 27) (by decide +kernel) (by decide +kernel) rfl) ?_
  refine hAllOk.c 25 (ok_no) ?_
  refine hAllOk.c 26 (ok_no) ?_
  refine hAllOk.c 27 (ok_iload_n (f := 3) rfl (by decide +kernel) rfl) ?_
  refine hAllOk.c 28 (ok_aload_n (f := 1) rfl (by decide +kernel) rfl) ?_
  refine hAllOk.c 29 (ok_alen (by decide +kernel) rfl) ?_
  refine hAllOk.c 30 (ok_icge (off := 21) (by decide +kernel) (by decide +kernel) rfl) ?_
  refine hAllOk.c 31 (ok_no) ?_
  refine hAllOk.c 32 (ok_no) ?_
  refine hAllOk.c 33 (ok_aload_n (f := 0) rfl (by decide +kernel) rfl) ?_
  refine hAllOk.c 34 (ok_aload_n (f := 1) rfl (by decide +kernel) rfl) ?_
  refine hAllOk.c 35 (ok_iload_n (f := 3) rfl (by decide +kernel) rfl) ?_
  refine hAllOk.c 36 (ok_caload (by decide +kernel) rfl) ?_
  refine hAllOk.c 37 (ok_callV (idx := 34) ⟨wd_t_520, wd_t_5, by decide +kernel, by decide +kernel⟩ rfl rfl wd_t_517 wd_t_519 wd_s_33 (by decide +kernel) rfl) ?_
  refine hAllOk.c 38 (ok_no) ?_
  refine hAllOk.c 39 (ok_no) ?_
  refine hAllOk.c 40 (ok_ifne (off := 5) (by decide +kernel) (by decide +kernel) rfl) ?_
  refine hAllOk.c 41 (ok_no) ?_
  refine hAllOk.c 42 (ok_no) ?_
  refine hAllOk.c 43 (ok_iload_n (f := 3) rfl (by decide +kernel) rfl) ?_
  refine hAllOk.c 44 (ok_ireturn (by decide +kernel)) ?_
  refine hAllOk.c 45 (ok_iinc (n := 1) (by decide +kernel) (by decide) (by decide +kernel) rfl) ?_
  refine hAllOk.c 46 (ok_no) ?_
  refine hAllOk.c 47 (ok_no) ?_
  refine hAllOk.c 48 (ok_goto (off := (-26)) (by decide +kernel) (by decide +kernel)) ?_
  refine hAllOk.c 49 (ok_no) ?_
  refine hAllOk.c 50 (ok_no) ?_
  refine hAllOk.c 51 (ok_aload_n (f := 0) rfl (by decide +kernel) rfl) ?_
  refine hAllOk.c 52 (ok_getfield (idx := 25) (N := 7) (T := TX2) rfl inTb2 (by decide) rfl wd_t_146 (by decide +kernel) rfl) ?_
  refine hAllOk.c 53 (ok_no) ?_
  refine hAllOk.c 54 (ok_no) ?_
  refine hAllOk.c 55 (ok_iconst (n := 4) (by decide +kernel) (by decide +kernel) rfl) ?_
  refine hAllOk.c 56 (ok_iclt (off := 14) (by decide +kernel) (by decide +kernel) rfl) ?_
  refine hAllOk.c 57 (ok_no) ?_
  refine hAllOk.c 58 (ok_no) ?_
  refine hAllOk.c 59 (ok_aload_n (f := 0) rfl (by decide +kernel) rfl) ?_
  refine hAllOk.c 60 (ok_getfield (idx := 22) (N := 7) (T := TX2) rfl inTb2 (by decide) rfl wd_t_145 (by decide +kernel) rfl) ?_
  refine hAllOk.c 61 (ok_no) ?_
  refine hAllOk.c 62 (ok_no) ?_
  refine hAllOk.c 63 (ok_ifne (off := 7) (by decide +kernel) (by decide +kernel) rfl) ?_
  refine hAllOk.c 64 (ok_no) ?_
  refine hAllOk.c 65 (ok_no) ?_
  refine hAllOk.c 66 (ok_iconst (n := 1) (by decide +kernel) (by decide +kernel) rfl) ?_
  refine hAllOk.c 67 (ok_goto (off := 4) (by decide +kernel) (by decide +kernel)) ?_
  refine hAllOk.c 68 (ok_no) ?_
  refine hAllOk.c 69 (ok_no) ?_
  refine hAllOk.c 70 (ok_iconst (n := 0) (by decide +kernel) (by decide +kernel) rfl) ?_
  refine hAllOk.c 71 (ok_istore_n (f := 3) rfl (by decide) (by decide +kernel) rfl) ?_
  refine hAllOk.c 72 (ok_iload_n (f := 3) rfl (by decide +kernel) rfl) ?_
  refine hAllOk.c 73 (ok_ifeq (off := 7) (by decide +kernel) (by decide +kernel) rfl) ?_
  refine hAllOk.c 74 (ok_no) ?_
  refine hAllOk.c 75 (ok_no) ?_
  refine hAllOk.c 76 (ok_iconst (n := -1) (by decide +kernel) (by decide +kernel) rfl) ?_
  refine hAllOk.c 77 (ok_goto (off := 4) (by decide +kernel) (by decide +kernel)) ?_
  refine hAllOk.c 78 (ok_no) ?_
  refine hAllOk.c 79 (ok_no) ?_
  refine hAllOk.c 80 (ok_iload_n (f := 2) rfl (by decide +kernel) rfl) ?_
  refine hAllOk.c 81 (ok_ireturn (by decide +kernel)) ?_
  trivial
theorem wd_t_442 : Cond.methodLink RX4 67 yX4_everybody ∈ hTb := hTb_t (List.mem_of_getElem? (i := 442) (by decide +kernel)) (by decide +kernel)
theorem wd_n_443 : Cond.methodLinkNest RX4 71 yX5_isWithin "StableParty" ∈ tables_1 := List.mem_of_getElem? (i := 443) (by decide +kernel)
def M_St_hasAll : hM := (yX4_hasAll, prog_6_method_6_code, 2, (some .boolean), 2, 40)
def code_St_hasAll (K : hK) (B : Nat × Nat) (Q : hPost) : List hSem := [x_iload 1 1, x_const 2 (0), x_aload 3 0, x_callV K 6 M_St_everybody 4 0, x_no, x_no, x_callS K 9 M_Pa_isWithin 3, x_no, x_no, x_ireturn (some .boolean) Q]
set_option maxRecDepth 100000 in
set_option maxHeartbeats 4000000 in
theorem okc_St_hasAll (K : hK) (B : Nat × Nat) (Q : hPost) : hAllOk (hJ K M_St_hasAll B Q) 0 (code_St_hasAll K B Q) := by
  refine hAllOk.c 0 (ok_iload_n (f := 1) rfl (by decide +kernel) rfl) ?_
  refine hAllOk.c 1 (ok_iconst (n := 0) (by decide +kernel) (by decide +kernel) rfl) ?_
  refine hAllOk.c 2 (ok_aload_n (f := 0) rfl (by decide +kernel) rfl) ?_
  refine hAllOk.c 3 (ok_callV (idx := 67) ⟨wd_t_304, wd_t_2, by decide +kernel, by decide +kernel⟩ rfl rfl wd_t_442 wd_t_303 wd_s_13 (by decide +kernel) rfl) ?_
  refine hAllOk.c 4 (ok_no) ?_
  refine hAllOk.c 5 (ok_no) ?_
  refine hAllOk.c 6 (ok_callSN (idx := 71) ⟨wd_t_226, wd_t_1, by decide +kernel, by decide +kernel⟩ wd_n_443 wd_t_225 (by decide +kernel) rfl) ?_
  refine hAllOk.c 7 (ok_no) ?_
  refine hAllOk.c 8 (ok_no) ?_
  refine hAllOk.c 9 (ok_ireturn (by decide +kernel)) ?_
  trivial
theorem wd_n_144 : Cond.fieldLinkNest RX0 56 RX2 "letters" "I" "StableParty" ∈ tables_1 := List.mem_of_getElem? (i := 144) (by decide +kernel)
theorem wd_n_139 : Cond.fieldLinkNest RX0 59 RX2 "steps" "[I" "StableParty" ∈ tables_1 := List.mem_of_getElem? (i := 139) (by decide +kernel)
theorem wd_n_141 : Cond.fieldLinkNest RX0 60 RX2 "stepCount" "I" "StableParty" ∈ tables_1 := List.mem_of_getElem? (i := 141) (by decide +kernel)
def M_Gu_takeCondition : hM := (yX0_takeCondition, prog_2_method_5_code, 2, none, 1, 24)
def code_Gu_takeCondition (K : hK) (B : Nat × Nat) (Q : hPost) : List hSem := [x_aload 1 0, x_aload 2 1, x_getfield 5 2 2, x_no, x_no, x_aload 6 1, x_getfield 9 2 0, x_no, x_no, x_aload 10 1, x_getfield 13 2 1, x_no, x_no, x_callV K 16 M_Gu_copyCondition 0 3, x_no, x_no, x_return Q]
set_option maxRecDepth 100000 in
set_option maxHeartbeats 4000000 in
theorem okc_Gu_takeCondition (K : hK) (B : Nat × Nat) (Q : hPost) : hAllOk (hJ K M_Gu_takeCondition B Q) 0 (code_Gu_takeCondition K B Q) := by
  refine hAllOk.c 0 (ok_aload_n (f := 0) rfl (by decide +kernel) rfl) ?_
  refine hAllOk.c 1 (ok_aload_n (f := 1) rfl (by decide +kernel) rfl) ?_
  refine hAllOk.c 2 (ok_getfieldN (idx := 56) (N := 7) (T := TX2) rfl inTb2 (by decide) rfl wd_n_144 (by decide +kernel) rfl) ?_
  refine hAllOk.c 3 (ok_no) ?_
  refine hAllOk.c 4 (ok_no) ?_
  refine hAllOk.c 5 (ok_aload_n (f := 1) rfl (by decide +kernel) rfl) ?_
  refine hAllOk.c 6 (ok_getfieldN (idx := 59) (N := 7) (T := TX2) rfl inTb2 (by decide) rfl wd_n_139 (by decide +kernel) rfl) ?_
  refine hAllOk.c 7 (ok_no) ?_
  refine hAllOk.c 8 (ok_no) ?_
  refine hAllOk.c 9 (ok_aload_n (f := 1) rfl (by decide +kernel) rfl) ?_
  refine hAllOk.c 10 (ok_getfieldN (idx := 60) (N := 7) (T := TX2) rfl inTb2 (by decide) rfl wd_n_141 (by decide +kernel) rfl) ?_
  refine hAllOk.c 11 (ok_no) ?_
  refine hAllOk.c 12 (ok_no) ?_
  refine hAllOk.c 13 (ok_callV (idx := 52) ⟨wd_t_254, wd_t_3, by decide +kernel, by decide +kernel⟩ rfl rfl wd_t_251 wd_t_253 wd_s_6 (by decide +kernel) rfl) ?_
  refine hAllOk.c 14 (ok_no) ?_
  refine hAllOk.c 15 (ok_no) ?_
  refine hAllOk.c 16 (ok_return rfl (by decide +kernel)) ?_
  trivial
def M_St_chargeIfLate : hM := (yX4_chargeIfLate, prog_6_method_8_code, 2, none, 0, 0)
def code_St_chargeIfLate (K : hK) (B : Nat × Nat) (Q : hPost) : List hSem := [x_aload 1 0, x_getfield 4 4 3, x_no, x_no, x_aload 5 0, x_getfield 8 4 2, x_no, x_no, x_const 9 (3), x_iaload K 10, x_icle 28 13, x_no, x_no, x_aload 14 1, x_dup 15, x_getfield 18 0 3, x_no, x_no, x_aload 19 0, x_getfield 22 4 2, x_no, x_no, x_const 23 (4), x_iaload K 24, x_iadd 25, x_putfield 28 0 3 (.int), x_no, x_no, x_return Q]
set_option maxRecDepth 100000 in
set_option maxHeartbeats 4000000 in
theorem okc_St_chargeIfLate (K : hK) (B : Nat × Nat) (Q : hPost) : hAllOk (hJ K M_St_chargeIfLate B Q) 0 (code_St_chargeIfLate K B Q) := by
  refine hAllOk.c 0 (ok_aload_n (f := 0) rfl (by decide +kernel) rfl) ?_
  refine hAllOk.c 1 (ok_getfield (idx := 25) (N := 10) (T := TX4) rfl inTb4 (by decide) rfl wd_t_81 (by decide +kernel) rfl) ?_
  refine hAllOk.c 2 (ok_no) ?_
  refine hAllOk.c 3 (ok_no) ?_
  refine hAllOk.c 4 (ok_aload_n (f := 0) rfl (by decide +kernel) rfl) ?_
  refine hAllOk.c 5 (ok_getfield (idx := 21) (N := 10) (T := TX4) rfl inTb4 (by decide) rfl wd_t_79 (by decide +kernel) rfl) ?_
  refine hAllOk.c 6 (ok_no) ?_
  refine hAllOk.c 7 (ok_no) ?_
  refine hAllOk.c 8 (ok_iconst (n := 3) (by decide +kernel) (by decide +kernel) rfl) ?_
  refine hAllOk.c 9 (ok_iaload (by decide +kernel) rfl) ?_
  refine hAllOk.c 10 (ok_icle (off := 18) (by decide +kernel) (by decide +kernel) rfl) ?_
  refine hAllOk.c 11 (ok_no) ?_
  refine hAllOk.c 12 (ok_no) ?_
  refine hAllOk.c 13 (ok_aload_n (f := 1) rfl (by decide +kernel) rfl) ?_
  refine hAllOk.c 14 (ok_dup (by decide +kernel) rfl) ?_
  refine hAllOk.c 15 (ok_getfieldN (idx := 78) (N := 10) (T := TX0) rfl inTb0 (by decide) rfl wd_n_40 (by decide +kernel) rfl) ?_
  refine hAllOk.c 16 (ok_no) ?_
  refine hAllOk.c 17 (ok_no) ?_
  refine hAllOk.c 18 (ok_aload_n (f := 0) rfl (by decide +kernel) rfl) ?_
  refine hAllOk.c 19 (ok_getfield (idx := 21) (N := 10) (T := TX4) rfl inTb4 (by decide) rfl wd_t_79 (by decide +kernel) rfl) ?_
  refine hAllOk.c 20 (ok_no) ?_
  refine hAllOk.c 21 (ok_no) ?_
  refine hAllOk.c 22 (ok_iconst (n := 4) (by decide +kernel) (by decide +kernel) rfl) ?_
  refine hAllOk.c 23 (ok_iaload (by decide +kernel) rfl) ?_
  refine hAllOk.c 24 (ok_iadd (by decide +kernel) rfl) ?_
  refine hAllOk.c 25 (ok_putfieldN (idx := 78) (N := 10) (T := TX0) tyX0_ok nmX0 rfl rfl inTb0 (by decide) rfl rfl wd_n_40 (by decide +kernel) rfl) ?_
  refine hAllOk.c 26 (ok_no) ?_
  refine hAllOk.c 27 (ok_no) ?_
  refine hAllOk.c 28 (ok_return rfl (by decide +kernel)) ?_
  trivial
theorem wd_n_513 : Cond.methodLinkNest RX5 75 yX2_read "StableParty" ∈ tables_1 := List.mem_of_getElem? (i := 513) (by decide +kernel)
theorem wd_t_516 : Cond.code yX2_read prog_4_method_2_code 4 (some .int) ∈ hTb := hTb_t (List.mem_of_getElem? (i := 516) (by decide +kernel)) (by decide +kernel)
theorem wd_t_515 : Cond.instanceMethod yX2_read ∈ hTb := hTb_t (List.mem_of_getElem? (i := 515) (by decide +kernel)) (by decide +kernel)
theorem wd_s_32 : Cond.selects RX2 yX2_read yX2_read ∈ hTb := hTb_s (List.mem_of_getElem? (i := 32) (by decide +kernel)) (by decide +kernel)
theorem wd_n_143 : Cond.fieldLinkNest RX5 79 RX2 "letters" "I" "StableParty" ∈ tables_1 := List.mem_of_getElem? (i := 143) (by decide +kernel)
theorem wd_n_438 : Cond.methodLinkNest RX5 82 yX4_hasAll "StableParty" ∈ tables_1 := List.mem_of_getElem? (i := 438) (by decide +kernel)
theorem wd_t_441 : Cond.code yX4_hasAll prog_6_method_6_code 2 (some .boolean) ∈ hTb := hTb_t (List.mem_of_getElem? (i := 441) (by decide +kernel)) (by decide +kernel)
theorem wd_t_440 : Cond.instanceMethod yX4_hasAll ∈ hTb := hTb_t (List.mem_of_getElem? (i := 440) (by decide +kernel)) (by decide +kernel)
theorem wd_s_29 : Cond.selects RX4 yX4_hasAll yX4_hasAll ∈ hTb := hTb_s (List.mem_of_getElem? (i := 29) (by decide +kernel)) (by decide +kernel)
theorem wd_n_569 : Cond.methodLinkNest RX5 86 yX0_takeCondition "StableParty" ∈ tables_1 := List.mem_of_getElem? (i := 569) (by decide +kernel)
theorem wd_t_572 : Cond.code yX0_takeCondition prog_2_method_5_code 2 none ∈ hTb := hTb_t (List.mem_of_getElem? (i := 572) (by decide +kernel)) (by decide +kernel)
theorem wd_t_571 : Cond.instanceMethod yX0_takeCondition ∈ hTb := hTb_t (List.mem_of_getElem? (i := 571) (by decide +kernel)) (by decide +kernel)
theorem wd_s_44 : Cond.selects RX0 yX0_takeCondition yX0_takeCondition ∈ hTb := hTb_s (List.mem_of_getElem? (i := 44) (by decide +kernel)) (by decide +kernel)
theorem wd_n_573 : Cond.methodLinkNest RX5 92 yX4_chargeIfLate "StableParty" ∈ tables_1 := List.mem_of_getElem? (i := 573) (by decide +kernel)
theorem wd_t_576 : Cond.code yX4_chargeIfLate prog_6_method_8_code 2 none ∈ hTb := hTb_t (List.mem_of_getElem? (i := 576) (by decide +kernel)) (by decide +kernel)
theorem wd_t_575 : Cond.instanceMethod yX4_chargeIfLate ∈ hTb := hTb_t (List.mem_of_getElem? (i := 575) (by decide +kernel)) (by decide +kernel)
theorem wd_s_45 : Cond.selects RX4 yX4_chargeIfLate yX4_chargeIfLate ∈ hTb := hTb_s (List.mem_of_getElem? (i := 45) (by decide +kernel)) (by decide +kernel)
theorem wd_n_48 : Cond.fieldLinkNest RX5 96 RX0 "letters" "I" "StableParty" ∈ tables_1 := List.mem_of_getElem? (i := 48) (by decide +kernel)
def M_Pa_setCondition : hM := (yX5_setCondition, prog_1_method_3_code, 4, (some .int), 5, 106)
def code_Pa_setCondition (K : hK) (B : Nat × Nat) (Q : hPost) : List hSem := [x_aload 1 0, x_getfield 4 5 0, x_no, x_no, x_iload 5 1, x_callV K 8 M_St_find 4 1, x_no, x_no, x_astore 9 2, x_aload 10 2, x_ifnonnull 15 13, x_no, x_no, x_const 14 (-1), x_ireturn (some .int) Q, x_aload 16 0, x_getfield 19 5 6, x_no, x_no, x_aload 20 0, x_getfield 23 5 4, x_no, x_no, x_aload 24 0, x_getfield 27 5 5, x_no, x_no, x_callV K 30 M_Re_read 2 2, x_no, x_no, x_istore 31 3, x_iload 32 3, x_const 33 (-1), x_iceq 41 36, x_no, x_no, x_const 38 (-100), x_no, x_iload 39 3, x_isub 40, x_ireturn (some .int) Q, x_aload 42 0, x_getfield 45 5 0, x_no, x_no, x_aload 46 0, x_getfield 49 5 6, x_no, x_no, x_getfield 52 2 2, x_no, x_no, x_callV K 55 M_St_hasAll 4 1, x_no, x_no, x_ifne 61 58, x_no, x_no, x_const 60 (-2), x_no, x_ireturn (some .int) Q, x_aload 62 0, x_getfield 65 5 0, x_no, x_no, x_getfield 68 4 4, x_no, x_no, x_ifeq 74 71, x_no, x_no, x_const 73 (-4), x_no, x_ireturn (some .int) Q, x_aload 75 0, x_getfield 78 5 1, x_no, x_no, x_aload 79 0, x_getfield 82 5 0, x_no, x_no, x_callV K 85 M_Hi_record 1 1, x_no, x_no, x_aload 86 2, x_aload 87 0, x_getfield 90 5 6, x_no, x_no, x_callV K 93 M_Gu_takeCondition 0 1, x_no, x_no, x_aload 94 0, x_getfield 97 5 0, x_no, x_no, x_aload 98 2, x_callV K 101 M_St_chargeIfLate 4 1, x_no, x_no, x_aload 102 2, x_getfield 105 0 7, x_no, x_no, x_callS K 108 M_In_bitCount 1, x_no, x_no, x_ireturn (some .int) Q]
set_option maxRecDepth 100000 in
set_option maxHeartbeats 4000000 in
theorem okc_Pa_setCondition (K : hK) (B : Nat × Nat) (Q : hPost) : hAllOk (hJ K M_Pa_setCondition B Q) 0 (code_Pa_setCondition K B Q) := by
  refine hAllOk.c 0 (ok_aload_n (f := 0) rfl (by decide +kernel) rfl) ?_
  refine hAllOk.c 1 (ok_getfield (idx := 12) (N := 8) (T := TX5) rfl inTb5 (by decide) rfl wd_t_194 (by decide +kernel) rfl) ?_
  refine hAllOk.c 2 (ok_no) ?_
  refine hAllOk.c 3 (ok_no) ?_
  refine hAllOk.c 4 (ok_iload_n (f := 1) rfl (by decide +kernel) rfl) ?_
  refine hAllOk.c 5 (ok_callVN (idx := 71) ⟨wd_t_246, wd_t_2, by decide +kernel, by decide +kernel⟩ rfl rfl wd_n_452 wd_t_245 wd_s_4 (by decide +kernel) rfl) ?_
  refine hAllOk.c 6 (ok_no) ?_
  refine hAllOk.c 7 (ok_no) ?_
  refine hAllOk.c 8 (ok_astore_n (f := 2) rfl (by decide) (by decide +kernel) rfl) ?_
  refine hAllOk.c 9 (ok_aload_n (f := 2) rfl (by decide +kernel) rfl) ?_
  refine hAllOk.c 10 (ok_ifnonnull (off := 5) (by decide +kernel) (by decide +kernel) rfl) ?_
  refine hAllOk.c 11 (ok_no) ?_
  refine hAllOk.c 12 (ok_no) ?_
  refine hAllOk.c 13 (ok_iconst (n := -1) (by decide +kernel) (by decide +kernel) rfl) ?_
  refine hAllOk.c 14 (ok_ireturn (by decide +kernel)) ?_
  refine hAllOk.c 15 (ok_aload_n (f := 0) rfl (by decide +kernel) rfl) ?_
  refine hAllOk.c 16 (ok_getfield (idx := 41) (N := 8) (T := TX5) rfl inTb5 (by decide) rfl wd_t_200 (by decide +kernel) rfl) ?_
  refine hAllOk.c 17 (ok_no) ?_
  refine hAllOk.c 18 (ok_no) ?_
  refine hAllOk.c 19 (ok_aload_n (f := 0) rfl (by decide +kernel) rfl) ?_
  refine hAllOk.c 20 (ok_getfield (idx := 30) (N := 8) (T := TX5) rfl inTb5 (by decide) rfl wd_t_198 (by decide +kernel) rfl) ?_
  refine hAllOk.c 21 (ok_no) ?_
  refine hAllOk.c 22 (ok_no) ?_
  refine hAllOk.c 23 (ok_aload_n (f := 0) rfl (by decide +kernel) rfl) ?_
  refine hAllOk.c 24 (ok_getfield (idx := 34) (N := 8) (T := TX5) rfl inTb5 (by decide) rfl wd_t_199 (by decide +kernel) rfl) ?_
  refine hAllOk.c 25 (ok_no) ?_
  refine hAllOk.c 26 (ok_no) ?_
  refine hAllOk.c 27 (ok_callVN (idx := 75) ⟨wd_t_516, wd_t_5, by decide +kernel, by decide +kernel⟩ rfl rfl wd_n_513 wd_t_515 wd_s_32 (by decide +kernel) rfl) ?_
  refine hAllOk.c 28 (ok_no) ?_
  refine hAllOk.c 29 (ok_no) ?_
  refine hAllOk.c 30 (ok_istore_n (f := 3) rfl (by decide) (by decide +kernel) rfl) ?_
  refine hAllOk.c 31 (ok_iload_n (f := 3) rfl (by decide +kernel) rfl) ?_
  refine hAllOk.c 32 (ok_iconst (n := -1) (by decide +kernel) (by decide +kernel) rfl) ?_
  refine hAllOk.c 33 (ok_iceq (off := 8) (by decide +kernel) (by decide +kernel) rfl) ?_
  refine hAllOk.c 34 (ok_no) ?_
  refine hAllOk.c 35 (ok_no) ?_
  refine hAllOk.c 36 (ok_bipush (n := -100) (by decide +kernel) (by decide +kernel) rfl) ?_
  refine hAllOk.c 37 (ok_no) ?_
  refine hAllOk.c 38 (ok_iload_n (f := 3) rfl (by decide +kernel) rfl) ?_
  refine hAllOk.c 39 (ok_isub (by decide +kernel) rfl) ?_
  refine hAllOk.c 40 (ok_ireturn (by decide +kernel)) ?_
  refine hAllOk.c 41 (ok_aload_n (f := 0) rfl (by decide +kernel) rfl) ?_
  refine hAllOk.c 42 (ok_getfield (idx := 12) (N := 8) (T := TX5) rfl inTb5 (by decide) rfl wd_t_194 (by decide +kernel) rfl) ?_
  refine hAllOk.c 43 (ok_no) ?_
  refine hAllOk.c 44 (ok_no) ?_
  refine hAllOk.c 45 (ok_aload_n (f := 0) rfl (by decide +kernel) rfl) ?_
  refine hAllOk.c 46 (ok_getfield (idx := 41) (N := 8) (T := TX5) rfl inTb5 (by decide) rfl wd_t_200 (by decide +kernel) rfl) ?_
  refine hAllOk.c 47 (ok_no) ?_
  refine hAllOk.c 48 (ok_no) ?_
  refine hAllOk.c 49 (ok_getfieldN (idx := 79) (N := 7) (T := TX2) rfl inTb2 (by decide) rfl wd_n_143 (by decide +kernel) rfl) ?_
  refine hAllOk.c 50 (ok_no) ?_
  refine hAllOk.c 51 (ok_no) ?_
  refine hAllOk.c 52 (ok_callVN (idx := 82) ⟨wd_t_441, wd_t_2, by decide +kernel, by decide +kernel⟩ rfl rfl wd_n_438 wd_t_440 wd_s_29 (by decide +kernel) rfl) ?_
  refine hAllOk.c 53 (ok_no) ?_
  refine hAllOk.c 54 (ok_no) ?_
  refine hAllOk.c 55 (ok_ifne (off := 6) (by decide +kernel) (by decide +kernel) rfl) ?_
  refine hAllOk.c 56 (ok_no) ?_
  refine hAllOk.c 57 (ok_no) ?_
  refine hAllOk.c 58 (ok_bipush (n := -2) (by decide +kernel) (by decide +kernel) rfl) ?_
  refine hAllOk.c 59 (ok_no) ?_
  refine hAllOk.c 60 (ok_ireturn (by decide +kernel)) ?_
  refine hAllOk.c 61 (ok_aload_n (f := 0) rfl (by decide +kernel) rfl) ?_
  refine hAllOk.c 62 (ok_getfield (idx := 12) (N := 8) (T := TX5) rfl inTb5 (by decide) rfl wd_t_194 (by decide +kernel) rfl) ?_
  refine hAllOk.c 63 (ok_no) ?_
  refine hAllOk.c 64 (ok_no) ?_
  refine hAllOk.c 65 (ok_getfieldN (idx := 57) (N := 10) (T := TX4) rfl inTb4 (by decide) rfl wd_n_84 (by decide +kernel) rfl) ?_
  refine hAllOk.c 66 (ok_no) ?_
  refine hAllOk.c 67 (ok_no) ?_
  refine hAllOk.c 68 (ok_ifeq (off := 6) (by decide +kernel) (by decide +kernel) rfl) ?_
  refine hAllOk.c 69 (ok_no) ?_
  refine hAllOk.c 70 (ok_no) ?_
  refine hAllOk.c 71 (ok_bipush (n := -4) (by decide +kernel) (by decide +kernel) rfl) ?_
  refine hAllOk.c 72 (ok_no) ?_
  refine hAllOk.c 73 (ok_ireturn (by decide +kernel)) ?_
  refine hAllOk.c 74 (ok_aload_n (f := 0) rfl (by decide +kernel) rfl) ?_
  refine hAllOk.c 75 (ok_getfield (idx := 19) (N := 8) (T := TX5) rfl inTb5 (by decide) rfl wd_t_195 (by decide +kernel) rfl) ?_
  refine hAllOk.c 76 (ok_no) ?_
  refine hAllOk.c 77 (ok_no) ?_
  refine hAllOk.c 78 (ok_aload_n (f := 0) rfl (by decide +kernel) rfl) ?_
  refine hAllOk.c 79 (ok_getfield (idx := 12) (N := 8) (T := TX5) rfl inTb5 (by decide) rfl wd_t_194 (by decide +kernel) rfl) ?_
  refine hAllOk.c 80 (ok_no) ?_
  refine hAllOk.c 81 (ok_no) ?_
  refine hAllOk.c 82 (ok_callVN (idx := 63) ⟨wd_t_230, wd_t_4, by decide +kernel, by decide +kernel⟩ rfl rfl wd_n_227 wd_t_229 wd_s_0 (by decide +kernel) rfl) ?_
  refine hAllOk.c 83 (ok_no) ?_
  refine hAllOk.c 84 (ok_no) ?_
  refine hAllOk.c 85 (ok_aload_n (f := 2) rfl (by decide +kernel) rfl) ?_
  refine hAllOk.c 86 (ok_aload_n (f := 0) rfl (by decide +kernel) rfl) ?_
  refine hAllOk.c 87 (ok_getfield (idx := 41) (N := 8) (T := TX5) rfl inTb5 (by decide) rfl wd_t_200 (by decide +kernel) rfl) ?_
  refine hAllOk.c 88 (ok_no) ?_
  refine hAllOk.c 89 (ok_no) ?_
  refine hAllOk.c 90 (ok_callVN (idx := 86) ⟨wd_t_572, wd_t_3, by decide +kernel, by decide +kernel⟩ rfl rfl wd_n_569 wd_t_571 wd_s_44 (by decide +kernel) rfl) ?_
  refine hAllOk.c 91 (ok_no) ?_
  refine hAllOk.c 92 (ok_no) ?_
  refine hAllOk.c 93 (ok_aload_n (f := 0) rfl (by decide +kernel) rfl) ?_
  refine hAllOk.c 94 (ok_getfield (idx := 12) (N := 8) (T := TX5) rfl inTb5 (by decide) rfl wd_t_194 (by decide +kernel) rfl) ?_
  refine hAllOk.c 95 (ok_no) ?_
  refine hAllOk.c 96 (ok_no) ?_
  refine hAllOk.c 97 (ok_aload_n (f := 2) rfl (by decide +kernel) rfl) ?_
  refine hAllOk.c 98 (ok_callVN (idx := 92) ⟨wd_t_576, wd_t_2, by decide +kernel, by decide +kernel⟩ rfl rfl wd_n_573 wd_t_575 wd_s_45 (by decide +kernel) rfl) ?_
  refine hAllOk.c 99 (ok_no) ?_
  refine hAllOk.c 100 (ok_no) ?_
  refine hAllOk.c 101 (ok_aload_n (f := 2) rfl (by decide +kernel) rfl) ?_
  refine hAllOk.c 102 (ok_getfieldN (idx := 96) (N := 10) (T := TX0) rfl inTb0 (by decide) rfl wd_n_48 (by decide +kernel) rfl) ?_
  refine hAllOk.c 103 (ok_no) ?_
  refine hAllOk.c 104 (ok_no) ?_
  refine hAllOk.c 105 (ok_callS (idx := 97) ⟨wd_t_319, wd_t_7, by decide +kernel, by decide +kernel⟩ wd_t_336 wd_t_318 (by decide +kernel) rfl) ?_
  refine hAllOk.c 106 (ok_no) ?_
  refine hAllOk.c 107 (ok_no) ?_
  refine hAllOk.c 108 (ok_ireturn (by decide +kernel)) ?_
  trivial
theorem wd_n_463 : Cond.methodLinkNest RX5 170 yX4_feeOf "StableParty" ∈ tables_1 := List.mem_of_getElem? (i := 463) (by decide +kernel)
def M_Pa_leastLimit : hM := (yX5_leastLimit, prog_1_method_27_code, 4, (some .int), 6, 142)
def code_Pa_leastLimit (K : hK) (B : Nat × Nat) (Q : hPost) : List hSem := [x_aload 1 0, x_getfield 4 5 0, x_no, x_no, x_iload 5 1, x_callV K 8 M_St_find 4 1, x_no, x_no, x_astore 9 2, x_aload 10 2, x_ifnonnull 15 13, x_no, x_no, x_const 14 (-1), x_ireturn (some .int) Q, x_aload 16 0, x_getfield 19 5 7, x_no, x_no, x_aload 20 0, x_getfield 23 5 0, x_no, x_no, x_aload 24 0, x_getfield 27 5 0, x_no, x_no, x_callV K 30 M_St_invitedGuests 4 0, x_no, x_no, x_iload 31 1, x_callV K 34 M_Se_findGreatest 3 3, x_no, x_no, x_istore 35 3, x_iload 36 3, x_iload 37 1, x_callS K 40 M_Pa_isIn 2, x_no, x_no, x_ifeq 57 43, x_no, x_no, x_aload 44 0, x_getfield 47 5 0, x_no, x_no, x_iload 48 3, x_callS K 51 M_In_bitCount 1, x_no, x_no, x_callV K 54 M_St_feeOf 4 1, x_no, x_no, x_goto 59, x_no, x_no, x_const 59 (-5), x_no, x_ireturn (some .int) Q]
set_option maxRecDepth 100000 in
set_option maxHeartbeats 4000000 in
theorem okc_Pa_leastLimit (K : hK) (B : Nat × Nat) (Q : hPost) : hAllOk (hJ K M_Pa_leastLimit B Q) 0 (code_Pa_leastLimit K B Q) := by
  refine hAllOk.c 0 (ok_aload_n (f := 0) rfl (by decide +kernel) rfl) ?_
  refine hAllOk.c 1 (ok_getfield (idx := 12) (N := 8) (T := TX5) rfl inTb5 (by decide) rfl wd_t_194 (by decide +kernel) rfl) ?_
  refine hAllOk.c 2 (ok_no) ?_
  refine hAllOk.c 3 (ok_no) ?_
  refine hAllOk.c 4 (ok_iload_n (f := 1) rfl (by decide +kernel) rfl) ?_
  refine hAllOk.c 5 (ok_callVN (idx := 71) ⟨wd_t_246, wd_t_2, by decide +kernel, by decide +kernel⟩ rfl rfl wd_n_452 wd_t_245 wd_s_4 (by decide +kernel) rfl) ?_
  refine hAllOk.c 6 (ok_no) ?_
  refine hAllOk.c 7 (ok_no) ?_
  refine hAllOk.c 8 (ok_astore_n (f := 2) rfl (by decide) (by decide +kernel) rfl) ?_
  refine hAllOk.c 9 (ok_aload_n (f := 2) rfl (by decide +kernel) rfl) ?_
  refine hAllOk.c 10 (ok_ifnonnull (off := 5) (by decide +kernel) (by decide +kernel) rfl) ?_
  refine hAllOk.c 11 (ok_no) ?_
  refine hAllOk.c 12 (ok_no) ?_
  refine hAllOk.c 13 (ok_iconst (n := -1) (by decide +kernel) (by decide +kernel) rfl) ?_
  refine hAllOk.c 14 (ok_ireturn (by decide +kernel)) ?_
  refine hAllOk.c 15 (ok_aload_n (f := 0) rfl (by decide +kernel) rfl) ?_
  refine hAllOk.c 16 (ok_getfield (idx := 48) (N := 8) (T := TX5) rfl inTb5 (by decide) rfl wd_t_201 (by decide +kernel) rfl) ?_
  refine hAllOk.c 17 (ok_no) ?_
  refine hAllOk.c 18 (ok_no) ?_
  refine hAllOk.c 19 (ok_aload_n (f := 0) rfl (by decide +kernel) rfl) ?_
  refine hAllOk.c 20 (ok_getfield (idx := 12) (N := 8) (T := TX5) rfl inTb5 (by decide) rfl wd_t_194 (by decide +kernel) rfl) ?_
  refine hAllOk.c 21 (ok_no) ?_
  refine hAllOk.c 22 (ok_no) ?_
  refine hAllOk.c 23 (ok_aload_n (f := 0) rfl (by decide +kernel) rfl) ?_
  refine hAllOk.c 24 (ok_getfield (idx := 12) (N := 8) (T := TX5) rfl inTb5 (by decide) rfl wd_t_194 (by decide +kernel) rfl) ?_
  refine hAllOk.c 25 (ok_no) ?_
  refine hAllOk.c 26 (ok_no) ?_
  refine hAllOk.c 27 (ok_callVN (idx := 112) ⟨wd_t_293, wd_t_2, by decide +kernel, by decide +kernel⟩ rfl rfl wd_n_290 wd_t_292 wd_s_11 (by decide +kernel) rfl) ?_
  refine hAllOk.c 28 (ok_no) ?_
  refine hAllOk.c 29 (ok_no) ?_
  refine hAllOk.c 30 (ok_iload_n (f := 1) rfl (by decide +kernel) rfl) ?_
  refine hAllOk.c 31 (ok_callVN (idx := 190) ⟨wd_t_300, wd_t_6, by decide +kernel, by decide +kernel⟩ rfl rfl wd_n_297 wd_t_299 wd_s_12 (by decide +kernel) rfl) ?_
  refine hAllOk.c 32 (ok_no) ?_
  refine hAllOk.c 33 (ok_no) ?_
  refine hAllOk.c 34 (ok_istore_n (f := 3) rfl (by decide) (by decide +kernel) rfl) ?_
  refine hAllOk.c 35 (ok_iload_n (f := 3) rfl (by decide +kernel) rfl) ?_
  refine hAllOk.c 36 (ok_iload_n (f := 1) rfl (by decide +kernel) rfl) ?_
  refine hAllOk.c 37 (ok_callS (idx := 138) ⟨wd_t_311, wd_t_1, by decide +kernel, by decide +kernel⟩ wd_t_344 wd_t_310 (by decide +kernel) rfl) ?_
  refine hAllOk.c 38 (ok_no) ?_
  refine hAllOk.c 39 (ok_no) ?_
  refine hAllOk.c 40 (ok_ifeq (off := 17) (by decide +kernel) (by decide +kernel) rfl) ?_
  refine hAllOk.c 41 (ok_no) ?_
  refine hAllOk.c 42 (ok_no) ?_
  refine hAllOk.c 43 (ok_aload_n (f := 0) rfl (by decide +kernel) rfl) ?_
  refine hAllOk.c 44 (ok_getfield (idx := 12) (N := 8) (T := TX5) rfl inTb5 (by decide) rfl wd_t_194 (by decide +kernel) rfl) ?_
  refine hAllOk.c 45 (ok_no) ?_
  refine hAllOk.c 46 (ok_no) ?_
  refine hAllOk.c 47 (ok_iload_n (f := 3) rfl (by decide +kernel) rfl) ?_
  refine hAllOk.c 48 (ok_callS (idx := 97) ⟨wd_t_319, wd_t_7, by decide +kernel, by decide +kernel⟩ wd_t_336 wd_t_318 (by decide +kernel) rfl) ?_
  refine hAllOk.c 49 (ok_no) ?_
  refine hAllOk.c 50 (ok_no) ?_
  refine hAllOk.c 51 (ok_callVN (idx := 170) ⟨wd_t_326, wd_t_2, by decide +kernel, by decide +kernel⟩ rfl rfl wd_n_463 wd_t_325 wd_s_16 (by decide +kernel) rfl) ?_
  refine hAllOk.c 52 (ok_no) ?_
  refine hAllOk.c 53 (ok_no) ?_
  refine hAllOk.c 54 (ok_goto (off := 5) (by decide +kernel) (by decide +kernel)) ?_
  refine hAllOk.c 55 (ok_no) ?_
  refine hAllOk.c 56 (ok_no) ?_
  refine hAllOk.c 57 (ok_bipush (n := -5) (by decide +kernel) (by decide +kernel) rfl) ?_
  refine hAllOk.c 58 (ok_no) ?_
  refine hAllOk.c 59 (ok_ireturn (by decide +kernel)) ?_
  trivial
theorem wd_n_30 : Cond.fieldLinkNest RX5 103 RX0 "limit" "I" "StableParty" ∈ tables_1 := List.mem_of_getElem? (i := 30) (by decide +kernel)
def M_Pa_setLimit : hM := (yX5_setLimit, prog_1_method_4_code, 5, (some .int), 4, 91)
def code_Pa_setLimit (K : hK) (B : Nat × Nat) (Q : hPost) : List hSem := [x_aload 1 0, x_getfield 4 5 0, x_no, x_no, x_iload 5 1, x_callV K 8 M_St_find 4 1, x_no, x_no, x_astore 9 3, x_aload 10 3, x_ifnonnull 15 13, x_no, x_no, x_const 14 (-1), x_ireturn (some .int) Q, x_iload 16 2, x_const 17 (0), x_const 19 (99999), x_no, x_callS K 22 M_Pa_isWithin 3, x_no, x_no, x_ifne 28 25, x_no, x_no, x_const 27 (-2), x_no, x_ireturn (some .int) Q, x_aload 29 0, x_getfield 32 5 0, x_no, x_no, x_getfield 35 4 4, x_no, x_no, x_ifeq 41 38, x_no, x_no, x_const 40 (-4), x_no, x_ireturn (some .int) Q, x_aload 42 3, x_getfield 45 0 0, x_no, x_no, x_istore 47 4, x_no, x_iload 49 4, x_no, x_iload 50 2, x_icne 56 53, x_no, x_no, x_const 55 (-5), x_no, x_ireturn (some .int) Q, x_aload 57 0, x_getfield 60 5 1, x_no, x_no, x_aload 61 0, x_getfield 64 5 0, x_no, x_no, x_callV K 67 M_Hi_record 1 1, x_no, x_no, x_aload 68 3, x_iload 69 2, x_putfield 72 0 0 (.int), x_no, x_no, x_aload 73 0, x_getfield 76 5 0, x_no, x_no, x_aload 77 3, x_callV K 80 M_St_chargeIfLate 4 1, x_no, x_no, x_iload 82 4, x_no, x_ireturn (some .int) Q]
set_option maxRecDepth 100000 in
set_option maxHeartbeats 4000000 in
theorem okc_Pa_setLimit (K : hK) (B : Nat × Nat) (Q : hPost) : hAllOk (hJ K M_Pa_setLimit B Q) 0 (code_Pa_setLimit K B Q) := by
  refine hAllOk.c 0 (ok_aload_n (f := 0) rfl (by decide +kernel) rfl) ?_
  refine hAllOk.c 1 (ok_getfield (idx := 12) (N := 8) (T := TX5) rfl inTb5 (by decide) rfl wd_t_194 (by decide +kernel) rfl) ?_
  refine hAllOk.c 2 (ok_no) ?_
  refine hAllOk.c 3 (ok_no) ?_
  refine hAllOk.c 4 (ok_iload_n (f := 1) rfl (by decide +kernel) rfl) ?_
  refine hAllOk.c 5 (ok_callVN (idx := 71) ⟨wd_t_246, wd_t_2, by decide +kernel, by decide +kernel⟩ rfl rfl wd_n_452 wd_t_245 wd_s_4 (by decide +kernel) rfl) ?_
  refine hAllOk.c 6 (ok_no) ?_
  refine hAllOk.c 7 (ok_no) ?_
  refine hAllOk.c 8 (ok_astore_n (f := 3) rfl (by decide) (by decide +kernel) rfl) ?_
  refine hAllOk.c 9 (ok_aload_n (f := 3) rfl (by decide +kernel) rfl) ?_
  refine hAllOk.c 10 (ok_ifnonnull (off := 5) (by decide +kernel) (by decide +kernel) rfl) ?_
  refine hAllOk.c 11 (ok_no) ?_
  refine hAllOk.c 12 (ok_no) ?_
  refine hAllOk.c 13 (ok_iconst (n := -1) (by decide +kernel) (by decide +kernel) rfl) ?_
  refine hAllOk.c 14 (ok_ireturn (by decide +kernel)) ?_
  refine hAllOk.c 15 (ok_iload_n (f := 2) rfl (by decide +kernel) rfl) ?_
  refine hAllOk.c 16 (ok_iconst (n := 0) (by decide +kernel) (by decide +kernel) rfl) ?_
  refine hAllOk.c 17 (ok_ldc (i := 52) wd_t_223 (by decide +kernel) rfl) ?_
  refine hAllOk.c 18 (ok_no) ?_
  refine hAllOk.c 19 (ok_callS (idx := 53) ⟨wd_t_226, wd_t_1, by decide +kernel, by decide +kernel⟩ wd_t_224 wd_t_225 (by decide +kernel) rfl) ?_
  refine hAllOk.c 20 (ok_no) ?_
  refine hAllOk.c 21 (ok_no) ?_
  refine hAllOk.c 22 (ok_ifne (off := 6) (by decide +kernel) (by decide +kernel) rfl) ?_
  refine hAllOk.c 23 (ok_no) ?_
  refine hAllOk.c 24 (ok_no) ?_
  refine hAllOk.c 25 (ok_bipush (n := -2) (by decide +kernel) (by decide +kernel) rfl) ?_
  refine hAllOk.c 26 (ok_no) ?_
  refine hAllOk.c 27 (ok_ireturn (by decide +kernel)) ?_
  refine hAllOk.c 28 (ok_aload_n (f := 0) rfl (by decide +kernel) rfl) ?_
  refine hAllOk.c 29 (ok_getfield (idx := 12) (N := 8) (T := TX5) rfl inTb5 (by decide) rfl wd_t_194 (by decide +kernel) rfl) ?_
  refine hAllOk.c 30 (ok_no) ?_
  refine hAllOk.c 31 (ok_no) ?_
  refine hAllOk.c 32 (ok_getfieldN (idx := 57) (N := 10) (T := TX4) rfl inTb4 (by decide) rfl wd_n_84 (by decide +kernel) rfl) ?_
  refine hAllOk.c 33 (ok_no) ?_
  refine hAllOk.c 34 (ok_no) ?_
  refine hAllOk.c 35 (ok_ifeq (off := 6) (by decide +kernel) (by decide +kernel) rfl) ?_
  refine hAllOk.c 36 (ok_no) ?_
  refine hAllOk.c 37 (ok_no) ?_
  refine hAllOk.c 38 (ok_bipush (n := -4) (by decide +kernel) (by decide +kernel) rfl) ?_
  refine hAllOk.c 39 (ok_no) ?_
  refine hAllOk.c 40 (ok_ireturn (by decide +kernel)) ?_
  refine hAllOk.c 41 (ok_aload_n (f := 3) rfl (by decide +kernel) rfl) ?_
  refine hAllOk.c 42 (ok_getfieldN (idx := 103) (N := 10) (T := TX0) rfl inTb0 (by decide) rfl wd_n_30 (by decide +kernel) rfl) ?_
  refine hAllOk.c 43 (ok_no) ?_
  refine hAllOk.c 44 (ok_no) ?_
  refine hAllOk.c 45 (ok_istore (by decide) (by decide +kernel) rfl) ?_
  refine hAllOk.c 46 (ok_no) ?_
  refine hAllOk.c 47 (ok_iload (by decide +kernel) rfl) ?_
  refine hAllOk.c 48 (ok_no) ?_
  refine hAllOk.c 49 (ok_iload_n (f := 2) rfl (by decide +kernel) rfl) ?_
  refine hAllOk.c 50 (ok_icne (off := 6) (by decide +kernel) (by decide +kernel) rfl) ?_
  refine hAllOk.c 51 (ok_no) ?_
  refine hAllOk.c 52 (ok_no) ?_
  refine hAllOk.c 53 (ok_bipush (n := -5) (by decide +kernel) (by decide +kernel) rfl) ?_
  refine hAllOk.c 54 (ok_no) ?_
  refine hAllOk.c 55 (ok_ireturn (by decide +kernel)) ?_
  refine hAllOk.c 56 (ok_aload_n (f := 0) rfl (by decide +kernel) rfl) ?_
  refine hAllOk.c 57 (ok_getfield (idx := 19) (N := 8) (T := TX5) rfl inTb5 (by decide) rfl wd_t_195 (by decide +kernel) rfl) ?_
  refine hAllOk.c 58 (ok_no) ?_
  refine hAllOk.c 59 (ok_no) ?_
  refine hAllOk.c 60 (ok_aload_n (f := 0) rfl (by decide +kernel) rfl) ?_
  refine hAllOk.c 61 (ok_getfield (idx := 12) (N := 8) (T := TX5) rfl inTb5 (by decide) rfl wd_t_194 (by decide +kernel) rfl) ?_
  refine hAllOk.c 62 (ok_no) ?_
  refine hAllOk.c 63 (ok_no) ?_
  refine hAllOk.c 64 (ok_callVN (idx := 63) ⟨wd_t_230, wd_t_4, by decide +kernel, by decide +kernel⟩ rfl rfl wd_n_227 wd_t_229 wd_s_0 (by decide +kernel) rfl) ?_
  refine hAllOk.c 65 (ok_no) ?_
  refine hAllOk.c 66 (ok_no) ?_
  refine hAllOk.c 67 (ok_aload_n (f := 3) rfl (by decide +kernel) rfl) ?_
  refine hAllOk.c 68 (ok_iload_n (f := 2) rfl (by decide +kernel) rfl) ?_
  refine hAllOk.c 69 (ok_putfieldN (idx := 103) (N := 10) (T := TX0) tyX0_ok nmX0 rfl rfl inTb0 (by decide) rfl rfl wd_n_30 (by decide +kernel) rfl) ?_
  refine hAllOk.c 70 (ok_no) ?_
  refine hAllOk.c 71 (ok_no) ?_
  refine hAllOk.c 72 (ok_aload_n (f := 0) rfl (by decide +kernel) rfl) ?_
  refine hAllOk.c 73 (ok_getfield (idx := 12) (N := 8) (T := TX5) rfl inTb5 (by decide) rfl wd_t_194 (by decide +kernel) rfl) ?_
  refine hAllOk.c 74 (ok_no) ?_
  refine hAllOk.c 75 (ok_no) ?_
  refine hAllOk.c 76 (ok_aload_n (f := 3) rfl (by decide +kernel) rfl) ?_
  refine hAllOk.c 77 (ok_callVN (idx := 92) ⟨wd_t_576, wd_t_2, by decide +kernel, by decide +kernel⟩ rfl rfl wd_n_573 wd_t_575 wd_s_45 (by decide +kernel) rfl) ?_
  refine hAllOk.c 78 (ok_no) ?_
  refine hAllOk.c 79 (ok_no) ?_
  refine hAllOk.c 80 (ok_iload (by decide +kernel) rfl) ?_
  refine hAllOk.c 81 (ok_no) ?_
  refine hAllOk.c 82 (ok_ireturn (by decide +kernel)) ?_
  trivial
theorem wd_n_37 : Cond.fieldLinkNest RX5 109 RX0 "invited" "Z" "StableParty" ∈ tables_1 := List.mem_of_getElem? (i := 37) (by decide +kernel)
def M_Pa_invite : hM := (yX5_invite, prog_1_method_6_code, 4, (some .int), 4, 91)
def code_Pa_invite (K : hK) (B : Nat × Nat) (Q : hPost) : List hSem := [x_aload 1 0, x_getfield 4 5 0, x_no, x_no, x_iload 5 1, x_callV K 8 M_St_find 4 1, x_no, x_no, x_astore 9 3, x_aload 10 3, x_ifnonnull 15 13, x_no, x_no, x_const 14 (-1), x_ireturn (some .int) Q, x_aload 16 0, x_getfield 19 5 0, x_no, x_no, x_getfield 22 4 4, x_no, x_no, x_ifeq 28 25, x_no, x_no, x_const 27 (-4), x_no, x_ireturn (some .int) Q, x_aload 29 3, x_getfield 32 0 2, x_no, x_no, x_iload 33 2, x_icne 39 36, x_no, x_no, x_const 38 (-5), x_no, x_ireturn (some .int) Q, x_aload 40 0, x_getfield 43 5 1, x_no, x_no, x_aload 44 0, x_getfield 47 5 0, x_no, x_no, x_callV K 50 M_Hi_record 1 1, x_no, x_no, x_aload 51 3, x_iload 52 2, x_putfield 55 0 2 (.boolean), x_no, x_no, x_aload 56 0, x_getfield 59 5 0, x_no, x_no, x_aload 60 3, x_callV K 63 M_St_chargeIfLate 4 1, x_no, x_no, x_aload 64 0, x_getfield 67 5 0, x_no, x_no, x_callV K 70 M_St_invitedGuests 4 0, x_no, x_no, x_callS K 73 M_In_bitCount 1, x_no, x_no, x_ireturn (some .int) Q]
set_option maxRecDepth 100000 in
set_option maxHeartbeats 4000000 in
theorem okc_Pa_invite (K : hK) (B : Nat × Nat) (Q : hPost) : hAllOk (hJ K M_Pa_invite B Q) 0 (code_Pa_invite K B Q) := by
  refine hAllOk.c 0 (ok_aload_n (f := 0) rfl (by decide +kernel) rfl) ?_
  refine hAllOk.c 1 (ok_getfield (idx := 12) (N := 8) (T := TX5) rfl inTb5 (by decide) rfl wd_t_194 (by decide +kernel) rfl) ?_
  refine hAllOk.c 2 (ok_no) ?_
  refine hAllOk.c 3 (ok_no) ?_
  refine hAllOk.c 4 (ok_iload_n (f := 1) rfl (by decide +kernel) rfl) ?_
  refine hAllOk.c 5 (ok_callVN (idx := 71) ⟨wd_t_246, wd_t_2, by decide +kernel, by decide +kernel⟩ rfl rfl wd_n_452 wd_t_245 wd_s_4 (by decide +kernel) rfl) ?_
  refine hAllOk.c 6 (ok_no) ?_
  refine hAllOk.c 7 (ok_no) ?_
  refine hAllOk.c 8 (ok_astore_n (f := 3) rfl (by decide) (by decide +kernel) rfl) ?_
  refine hAllOk.c 9 (ok_aload_n (f := 3) rfl (by decide +kernel) rfl) ?_
  refine hAllOk.c 10 (ok_ifnonnull (off := 5) (by decide +kernel) (by decide +kernel) rfl) ?_
  refine hAllOk.c 11 (ok_no) ?_
  refine hAllOk.c 12 (ok_no) ?_
  refine hAllOk.c 13 (ok_iconst (n := -1) (by decide +kernel) (by decide +kernel) rfl) ?_
  refine hAllOk.c 14 (ok_ireturn (by decide +kernel)) ?_
  refine hAllOk.c 15 (ok_aload_n (f := 0) rfl (by decide +kernel) rfl) ?_
  refine hAllOk.c 16 (ok_getfield (idx := 12) (N := 8) (T := TX5) rfl inTb5 (by decide) rfl wd_t_194 (by decide +kernel) rfl) ?_
  refine hAllOk.c 17 (ok_no) ?_
  refine hAllOk.c 18 (ok_no) ?_
  refine hAllOk.c 19 (ok_getfieldN (idx := 57) (N := 10) (T := TX4) rfl inTb4 (by decide) rfl wd_n_84 (by decide +kernel) rfl) ?_
  refine hAllOk.c 20 (ok_no) ?_
  refine hAllOk.c 21 (ok_no) ?_
  refine hAllOk.c 22 (ok_ifeq (off := 6) (by decide +kernel) (by decide +kernel) rfl) ?_
  refine hAllOk.c 23 (ok_no) ?_
  refine hAllOk.c 24 (ok_no) ?_
  refine hAllOk.c 25 (ok_bipush (n := -4) (by decide +kernel) (by decide +kernel) rfl) ?_
  refine hAllOk.c 26 (ok_no) ?_
  refine hAllOk.c 27 (ok_ireturn (by decide +kernel)) ?_
  refine hAllOk.c 28 (ok_aload_n (f := 3) rfl (by decide +kernel) rfl) ?_
  refine hAllOk.c 29 (ok_getfieldN (idx := 109) (N := 10) (T := TX0) rfl inTb0 (by decide) rfl wd_n_37 (by decide +kernel) rfl) ?_
  refine hAllOk.c 30 (ok_no) ?_
  refine hAllOk.c 31 (ok_no) ?_
  refine hAllOk.c 32 (ok_iload_n (f := 2) rfl (by decide +kernel) rfl) ?_
  refine hAllOk.c 33 (ok_icne (off := 6) (by decide +kernel) (by decide +kernel) rfl) ?_
  refine hAllOk.c 34 (ok_no) ?_
  refine hAllOk.c 35 (ok_no) ?_
  refine hAllOk.c 36 (ok_bipush (n := -5) (by decide +kernel) (by decide +kernel) rfl) ?_
  refine hAllOk.c 37 (ok_no) ?_
  refine hAllOk.c 38 (ok_ireturn (by decide +kernel)) ?_
  refine hAllOk.c 39 (ok_aload_n (f := 0) rfl (by decide +kernel) rfl) ?_
  refine hAllOk.c 40 (ok_getfield (idx := 19) (N := 8) (T := TX5) rfl inTb5 (by decide) rfl wd_t_195 (by decide +kernel) rfl) ?_
  refine hAllOk.c 41 (ok_no) ?_
  refine hAllOk.c 42 (ok_no) ?_
  refine hAllOk.c 43 (ok_aload_n (f := 0) rfl (by decide +kernel) rfl) ?_
  refine hAllOk.c 44 (ok_getfield (idx := 12) (N := 8) (T := TX5) rfl inTb5 (by decide) rfl wd_t_194 (by decide +kernel) rfl) ?_
  refine hAllOk.c 45 (ok_no) ?_
  refine hAllOk.c 46 (ok_no) ?_
  refine hAllOk.c 47 (ok_callVN (idx := 63) ⟨wd_t_230, wd_t_4, by decide +kernel, by decide +kernel⟩ rfl rfl wd_n_227 wd_t_229 wd_s_0 (by decide +kernel) rfl) ?_
  refine hAllOk.c 48 (ok_no) ?_
  refine hAllOk.c 49 (ok_no) ?_
  refine hAllOk.c 50 (ok_aload_n (f := 3) rfl (by decide +kernel) rfl) ?_
  refine hAllOk.c 51 (ok_iload_n (f := 2) rfl (by decide +kernel) rfl) ?_
  refine hAllOk.c 52 (ok_putfieldN (idx := 109) (N := 10) (T := TX0) tyX0_ok nmX0 rfl rfl inTb0 (by decide) rfl rfl wd_n_37 (by decide +kernel) rfl) ?_
  refine hAllOk.c 53 (ok_no) ?_
  refine hAllOk.c 54 (ok_no) ?_
  refine hAllOk.c 55 (ok_aload_n (f := 0) rfl (by decide +kernel) rfl) ?_
  refine hAllOk.c 56 (ok_getfield (idx := 12) (N := 8) (T := TX5) rfl inTb5 (by decide) rfl wd_t_194 (by decide +kernel) rfl) ?_
  refine hAllOk.c 57 (ok_no) ?_
  refine hAllOk.c 58 (ok_no) ?_
  refine hAllOk.c 59 (ok_aload_n (f := 3) rfl (by decide +kernel) rfl) ?_
  refine hAllOk.c 60 (ok_callVN (idx := 92) ⟨wd_t_576, wd_t_2, by decide +kernel, by decide +kernel⟩ rfl rfl wd_n_573 wd_t_575 wd_s_45 (by decide +kernel) rfl) ?_
  refine hAllOk.c 61 (ok_no) ?_
  refine hAllOk.c 62 (ok_no) ?_
  refine hAllOk.c 63 (ok_aload_n (f := 0) rfl (by decide +kernel) rfl) ?_
  refine hAllOk.c 64 (ok_getfield (idx := 12) (N := 8) (T := TX5) rfl inTb5 (by decide) rfl wd_t_194 (by decide +kernel) rfl) ?_
  refine hAllOk.c 65 (ok_no) ?_
  refine hAllOk.c 66 (ok_no) ?_
  refine hAllOk.c 67 (ok_callVN (idx := 112) ⟨wd_t_293, wd_t_2, by decide +kernel, by decide +kernel⟩ rfl rfl wd_n_290 wd_t_292 wd_s_11 (by decide +kernel) rfl) ?_
  refine hAllOk.c 68 (ok_no) ?_
  refine hAllOk.c 69 (ok_no) ?_
  refine hAllOk.c 70 (ok_callS (idx := 97) ⟨wd_t_319, wd_t_7, by decide +kernel, by decide +kernel⟩ wd_t_336 wd_t_318 (by decide +kernel) rfl) ?_
  refine hAllOk.c 71 (ok_no) ?_
  refine hAllOk.c 72 (ok_no) ?_
  refine hAllOk.c 73 (ok_ireturn (by decide +kernel)) ?_
  trivial
def M_Pa_pass : hM := (yX5_pass, prog_1_method_8_code, 2, (some .int), 4, 91)
def code_Pa_pass (K : hK) (B : Nat × Nat) (Q : hPost) : List hSem := [x_iload 1 1, x_const 2 (1), x_const 4 (60), x_no, x_callS K 7 M_Pa_isWithin 3, x_no, x_no, x_ifne 13 10, x_no, x_no, x_const 12 (-2), x_no, x_ireturn (some .int) Q, x_aload 14 0, x_getfield 17 5 0, x_no, x_no, x_getfield 20 4 3, x_no, x_no, x_iload 21 1, x_iadd 22, x_const 25 (999), x_no, x_no, x_icle 31 28, x_no, x_no, x_const 30 (-4), x_no, x_ireturn (some .int) Q, x_aload 32 0, x_getfield 35 5 1, x_no, x_no, x_aload 36 0, x_getfield 39 5 0, x_no, x_no, x_callV K 42 M_Hi_record 1 1, x_no, x_no, x_aload 43 0, x_getfield 46 5 0, x_no, x_no, x_dup 47, x_getfield 50 4 3, x_no, x_no, x_iload 51 1, x_iadd 52, x_putfield 55 4 3 (.int), x_no, x_no, x_aload 56 0, x_getfield 59 5 0, x_no, x_no, x_getfield 62 4 3, x_no, x_no, x_ireturn (some .int) Q]
set_option maxRecDepth 100000 in
set_option maxHeartbeats 4000000 in
theorem okc_Pa_pass (K : hK) (B : Nat × Nat) (Q : hPost) : hAllOk (hJ K M_Pa_pass B Q) 0 (code_Pa_pass K B Q) := by
  refine hAllOk.c 0 (ok_iload_n (f := 1) rfl (by decide +kernel) rfl) ?_
  refine hAllOk.c 1 (ok_iconst (n := 1) (by decide +kernel) (by decide +kernel) rfl) ?_
  refine hAllOk.c 2 (ok_bipush (n := 60) (by decide +kernel) (by decide +kernel) rfl) ?_
  refine hAllOk.c 3 (ok_no) ?_
  refine hAllOk.c 4 (ok_callS (idx := 53) ⟨wd_t_226, wd_t_1, by decide +kernel, by decide +kernel⟩ wd_t_224 wd_t_225 (by decide +kernel) rfl) ?_
  refine hAllOk.c 5 (ok_no) ?_
  refine hAllOk.c 6 (ok_no) ?_
  refine hAllOk.c 7 (ok_ifne (off := 6) (by decide +kernel) (by decide +kernel) rfl) ?_
  refine hAllOk.c 8 (ok_no) ?_
  refine hAllOk.c 9 (ok_no) ?_
  refine hAllOk.c 10 (ok_bipush (n := -2) (by decide +kernel) (by decide +kernel) rfl) ?_
  refine hAllOk.c 11 (ok_no) ?_
  refine hAllOk.c 12 (ok_ireturn (by decide +kernel)) ?_
  refine hAllOk.c 13 (ok_aload_n (f := 0) rfl (by decide +kernel) rfl) ?_
  refine hAllOk.c 14 (ok_getfield (idx := 12) (N := 8) (T := TX5) rfl inTb5 (by decide) rfl wd_t_194 (by decide +kernel) rfl) ?_
  refine hAllOk.c 15 (ok_no) ?_
  refine hAllOk.c 16 (ok_no) ?_
  refine hAllOk.c 17 (ok_getfieldN (idx := 126) (N := 10) (T := TX4) rfl inTb4 (by decide) rfl wd_n_82 (by decide +kernel) rfl) ?_
  refine hAllOk.c 18 (ok_no) ?_
  refine hAllOk.c 19 (ok_no) ?_
  refine hAllOk.c 20 (ok_iload_n (f := 1) rfl (by decide +kernel) rfl) ?_
  refine hAllOk.c 21 (ok_iadd (by decide +kernel) rfl) ?_
  refine hAllOk.c 22 (ok_sipush (n := 999) (by decide +kernel) (by decide +kernel) rfl) ?_
  refine hAllOk.c 23 (ok_no) ?_
  refine hAllOk.c 24 (ok_no) ?_
  refine hAllOk.c 25 (ok_icle (off := 6) (by decide +kernel) (by decide +kernel) rfl) ?_
  refine hAllOk.c 26 (ok_no) ?_
  refine hAllOk.c 27 (ok_no) ?_
  refine hAllOk.c 28 (ok_bipush (n := -4) (by decide +kernel) (by decide +kernel) rfl) ?_
  refine hAllOk.c 29 (ok_no) ?_
  refine hAllOk.c 30 (ok_ireturn (by decide +kernel)) ?_
  refine hAllOk.c 31 (ok_aload_n (f := 0) rfl (by decide +kernel) rfl) ?_
  refine hAllOk.c 32 (ok_getfield (idx := 19) (N := 8) (T := TX5) rfl inTb5 (by decide) rfl wd_t_195 (by decide +kernel) rfl) ?_
  refine hAllOk.c 33 (ok_no) ?_
  refine hAllOk.c 34 (ok_no) ?_
  refine hAllOk.c 35 (ok_aload_n (f := 0) rfl (by decide +kernel) rfl) ?_
  refine hAllOk.c 36 (ok_getfield (idx := 12) (N := 8) (T := TX5) rfl inTb5 (by decide) rfl wd_t_194 (by decide +kernel) rfl) ?_
  refine hAllOk.c 37 (ok_no) ?_
  refine hAllOk.c 38 (ok_no) ?_
  refine hAllOk.c 39 (ok_callVN (idx := 63) ⟨wd_t_230, wd_t_4, by decide +kernel, by decide +kernel⟩ rfl rfl wd_n_227 wd_t_229 wd_s_0 (by decide +kernel) rfl) ?_
  refine hAllOk.c 40 (ok_no) ?_
  refine hAllOk.c 41 (ok_no) ?_
  refine hAllOk.c 42 (ok_aload_n (f := 0) rfl (by decide +kernel) rfl) ?_
  refine hAllOk.c 43 (ok_getfield (idx := 12) (N := 8) (T := TX5) rfl inTb5 (by decide) rfl wd_t_194 (by decide +kernel) rfl) ?_
  refine hAllOk.c 44 (ok_no) ?_
  refine hAllOk.c 45 (ok_no) ?_
  refine hAllOk.c 46 (ok_dup (by decide +kernel) rfl) ?_
  refine hAllOk.c 47 (ok_getfieldN (idx := 126) (N := 10) (T := TX4) rfl inTb4 (by decide) rfl wd_n_82 (by decide +kernel) rfl) ?_
  refine hAllOk.c 48 (ok_no) ?_
  refine hAllOk.c 49 (ok_no) ?_
  refine hAllOk.c 50 (ok_iload_n (f := 1) rfl (by decide +kernel) rfl) ?_
  refine hAllOk.c 51 (ok_iadd (by decide +kernel) rfl) ?_
  refine hAllOk.c 52 (ok_putfieldN (idx := 126) (N := 10) (T := TX4) tyX4_ok nmX4 rfl rfl inTb4 (by decide) rfl rfl wd_n_82 (by decide +kernel) rfl) ?_
  refine hAllOk.c 53 (ok_no) ?_
  refine hAllOk.c 54 (ok_no) ?_
  refine hAllOk.c 55 (ok_aload_n (f := 0) rfl (by decide +kernel) rfl) ?_
  refine hAllOk.c 56 (ok_getfield (idx := 12) (N := 8) (T := TX5) rfl inTb5 (by decide) rfl wd_t_194 (by decide +kernel) rfl) ?_
  refine hAllOk.c 57 (ok_no) ?_
  refine hAllOk.c 58 (ok_no) ?_
  refine hAllOk.c 59 (ok_getfieldN (idx := 126) (N := 10) (T := TX4) rfl inTb4 (by decide) rfl wd_n_82 (by decide +kernel) rfl) ?_
  refine hAllOk.c 60 (ok_no) ?_
  refine hAllOk.c 61 (ok_no) ?_
  refine hAllOk.c 62 (ok_ireturn (by decide +kernel)) ?_
  trivial
def M_Pa_fee : hM := (yX5_fee, prog_1_method_20_code, 2, (some .int), 1, 22)
def code_Pa_fee (K : hK) (B : Nat × Nat) (Q : hPost) : List hSem := [x_iload 1 1, x_const 2 (1), x_const 4 (12), x_no, x_callS K 7 M_Pa_isWithin 3, x_no, x_no, x_ifne 13 10, x_no, x_no, x_const 12 (-2), x_no, x_ireturn (some .int) Q, x_aload 14 0, x_getfield 17 5 0, x_no, x_no, x_iload 18 1, x_callV K 21 M_St_feeOf 4 1, x_no, x_no, x_ireturn (some .int) Q]
set_option maxRecDepth 100000 in
set_option maxHeartbeats 4000000 in
theorem okc_Pa_fee (K : hK) (B : Nat × Nat) (Q : hPost) : hAllOk (hJ K M_Pa_fee B Q) 0 (code_Pa_fee K B Q) := by
  refine hAllOk.c 0 (ok_iload_n (f := 1) rfl (by decide +kernel) rfl) ?_
  refine hAllOk.c 1 (ok_iconst (n := 1) (by decide +kernel) (by decide +kernel) rfl) ?_
  refine hAllOk.c 2 (ok_bipush (n := 12) (by decide +kernel) (by decide +kernel) rfl) ?_
  refine hAllOk.c 3 (ok_no) ?_
  refine hAllOk.c 4 (ok_callS (idx := 53) ⟨wd_t_226, wd_t_1, by decide +kernel, by decide +kernel⟩ wd_t_224 wd_t_225 (by decide +kernel) rfl) ?_
  refine hAllOk.c 5 (ok_no) ?_
  refine hAllOk.c 6 (ok_no) ?_
  refine hAllOk.c 7 (ok_ifne (off := 6) (by decide +kernel) (by decide +kernel) rfl) ?_
  refine hAllOk.c 8 (ok_no) ?_
  refine hAllOk.c 9 (ok_no) ?_
  refine hAllOk.c 10 (ok_bipush (n := -2) (by decide +kernel) (by decide +kernel) rfl) ?_
  refine hAllOk.c 11 (ok_no) ?_
  refine hAllOk.c 12 (ok_ireturn (by decide +kernel)) ?_
  refine hAllOk.c 13 (ok_aload_n (f := 0) rfl (by decide +kernel) rfl) ?_
  refine hAllOk.c 14 (ok_getfield (idx := 12) (N := 8) (T := TX5) rfl inTb5 (by decide) rfl wd_t_194 (by decide +kernel) rfl) ?_
  refine hAllOk.c 15 (ok_no) ?_
  refine hAllOk.c 16 (ok_no) ?_
  refine hAllOk.c 17 (ok_iload_n (f := 1) rfl (by decide +kernel) rfl) ?_
  refine hAllOk.c 18 (ok_callVN (idx := 170) ⟨wd_t_326, wd_t_2, by decide +kernel, by decide +kernel⟩ rfl rfl wd_n_463 wd_t_325 wd_s_16 (by decide +kernel) rfl) ?_
  refine hAllOk.c 19 (ok_no) ?_
  refine hAllOk.c 20 (ok_no) ?_
  refine hAllOk.c 21 (ok_ireturn (by decide +kernel)) ?_
  trivial
def M_St_guestOnSeat : hM := (yX4_guestOnSeat, prog_6_method_17_code, 4, (some .int), 1, 22)
def code_St_guestOnSeat (K : hK) (B : Nat × Nat) (Q : hPost) : List hSem := [x_const 1 (0), x_istore 2 2, x_iload 3 2, x_const 5 (12), x_no, x_icge 34 8, x_no, x_no, x_aload 9 0, x_iload 10 2, x_callV K 13 M_St_find 4 1, x_no, x_no, x_astore 14 3, x_aload 15 3, x_ifnull 28 18, x_no, x_no, x_aload 19 3, x_getfield 22 0 6, x_no, x_no, x_iload 23 1, x_icne 28 26, x_no, x_no, x_iload 27 2, x_ireturn (some .int) Q, x_iinc 31 2 (1), x_no, x_no, x_goto 2, x_no, x_no, x_const 36 (-5), x_no, x_ireturn (some .int) Q]
set_option maxRecDepth 100000 in
set_option maxHeartbeats 4000000 in
theorem okc_St_guestOnSeat (K : hK) (B : Nat × Nat) (Q : hPost) : hAllOk (hJ K M_St_guestOnSeat B Q) 0 (code_St_guestOnSeat K B Q) := by
  refine hAllOk.c 0 (ok_iconst (n := 0) (by decide +kernel) (by decide +kernel) rfl) ?_
  refine hAllOk.c 1 (ok_istore_n (f := 2) rfl (by decide) (by decide +kernel) rfl) ?_
  refine hAllOk.c 2 (ok_iload_n (f := 2) rfl (by decide +kernel) rfl) ?_
  refine hAllOk.c 3 (ok_bipush (n := 12) (by decide +kernel) (by decide +kernel) rfl) ?_
  refine hAllOk.c 4 (ok_no) ?_
  refine hAllOk.c 5 (ok_icge (off := 29) (by decide +kernel) (by decide +kernel) rfl) ?_
  refine hAllOk.c 6 (ok_no) ?_
  refine hAllOk.c 7 (ok_no) ?_
  refine hAllOk.c 8 (ok_aload_n (f := 0) rfl (by decide +kernel) rfl) ?_
  refine hAllOk.c 9 (ok_iload_n (f := 2) rfl (by decide +kernel) rfl) ?_
  refine hAllOk.c 10 (ok_callV (idx := 51) ⟨wd_t_246, wd_t_2, by decide +kernel, by decide +kernel⟩ rfl rfl wd_t_243 wd_t_245 wd_s_4 (by decide +kernel) rfl) ?_
  refine hAllOk.c 11 (ok_no) ?_
  refine hAllOk.c 12 (ok_no) ?_
  refine hAllOk.c 13 (ok_astore_n (f := 3) rfl (by decide) (by decide +kernel) rfl) ?_
  refine hAllOk.c 14 (ok_aload_n (f := 3) rfl (by decide +kernel) rfl) ?_
  refine hAllOk.c 15 (ok_ifnull (off := 13) (by decide +kernel) (by decide +kernel) rfl) ?_
  refine hAllOk.c 16 (ok_no) ?_
  refine hAllOk.c 17 (ok_no) ?_
  refine hAllOk.c 18 (ok_aload_n (f := 3) rfl (by decide +kernel) rfl) ?_
  refine hAllOk.c 19 (ok_getfieldN (idx := 118) (N := 10) (T := TX0) rfl inTb0 (by decide) rfl wd_n_46 (by decide +kernel) rfl) ?_
  refine hAllOk.c 20 (ok_no) ?_
  refine hAllOk.c 21 (ok_no) ?_
  refine hAllOk.c 22 (ok_iload_n (f := 1) rfl (by decide +kernel) rfl) ?_
  refine hAllOk.c 23 (ok_icne (off := 5) (by decide +kernel) (by decide +kernel) rfl) ?_
  refine hAllOk.c 24 (ok_no) ?_
  refine hAllOk.c 25 (ok_no) ?_
  refine hAllOk.c 26 (ok_iload_n (f := 2) rfl (by decide +kernel) rfl) ?_
  refine hAllOk.c 27 (ok_ireturn (by decide +kernel)) ?_
  refine hAllOk.c 28 (ok_iinc (n := 1) (by decide +kernel) (by decide) (by decide +kernel) rfl) ?_
  refine hAllOk.c 29 (ok_no) ?_
  refine hAllOk.c 30 (ok_no) ?_
  refine hAllOk.c 31 (ok_goto (off := (-29)) (by decide +kernel) (by decide +kernel)) ?_
  refine hAllOk.c 32 (ok_no) ?_
  refine hAllOk.c 33 (ok_no) ?_
  refine hAllOk.c 34 (ok_bipush (n := -5) (by decide +kernel) (by decide +kernel) rfl) ?_
  refine hAllOk.c 35 (ok_no) ?_
  refine hAllOk.c 36 (ok_ireturn (by decide +kernel)) ?_
  trivial
theorem wd_n_482 : Cond.methodLinkNest RX5 196 yX4_guestOnSeat "StableParty" ∈ tables_1 := List.mem_of_getElem? (i := 482) (by decide +kernel)
theorem wd_t_485 : Cond.code yX4_guestOnSeat prog_6_method_17_code 4 (some .int) ∈ hTb := hTb_t (List.mem_of_getElem? (i := 485) (by decide +kernel)) (by decide +kernel)
theorem wd_t_484 : Cond.instanceMethod yX4_guestOnSeat ∈ hTb := hTb_t (List.mem_of_getElem? (i := 484) (by decide +kernel)) (by decide +kernel)
theorem wd_s_31 : Cond.selects RX4 yX4_guestOnSeat yX4_guestOnSeat ∈ hTb := hTb_s (List.mem_of_getElem? (i := 31) (by decide +kernel)) (by decide +kernel)
def M_Pa_seat : hM := (yX5_seat, prog_1_method_28_code, 2, (some .int), 2, 45)
def code_Pa_seat (K : hK) (B : Nat × Nat) (Q : hPost) : List hSem := [x_iload 1 1, x_const 2 (0), x_const 4 (11), x_no, x_callS K 7 M_Pa_isWithin 3, x_no, x_no, x_ifne 12 10, x_no, x_no, x_const 11 (-1), x_ireturn (some .int) Q, x_aload 13 0, x_getfield 16 5 0, x_no, x_no, x_iload 17 1, x_callV K 20 M_St_guestOnSeat 4 1, x_no, x_no, x_ireturn (some .int) Q]
set_option maxRecDepth 100000 in
set_option maxHeartbeats 4000000 in
theorem okc_Pa_seat (K : hK) (B : Nat × Nat) (Q : hPost) : hAllOk (hJ K M_Pa_seat B Q) 0 (code_Pa_seat K B Q) := by
  refine hAllOk.c 0 (ok_iload_n (f := 1) rfl (by decide +kernel) rfl) ?_
  refine hAllOk.c 1 (ok_iconst (n := 0) (by decide +kernel) (by decide +kernel) rfl) ?_
  refine hAllOk.c 2 (ok_bipush (n := 11) (by decide +kernel) (by decide +kernel) rfl) ?_
  refine hAllOk.c 3 (ok_no) ?_
  refine hAllOk.c 4 (ok_callS (idx := 53) ⟨wd_t_226, wd_t_1, by decide +kernel, by decide +kernel⟩ wd_t_224 wd_t_225 (by decide +kernel) rfl) ?_
  refine hAllOk.c 5 (ok_no) ?_
  refine hAllOk.c 6 (ok_no) ?_
  refine hAllOk.c 7 (ok_ifne (off := 5) (by decide +kernel) (by decide +kernel) rfl) ?_
  refine hAllOk.c 8 (ok_no) ?_
  refine hAllOk.c 9 (ok_no) ?_
  refine hAllOk.c 10 (ok_iconst (n := -1) (by decide +kernel) (by decide +kernel) rfl) ?_
  refine hAllOk.c 11 (ok_ireturn (by decide +kernel)) ?_
  refine hAllOk.c 12 (ok_aload_n (f := 0) rfl (by decide +kernel) rfl) ?_
  refine hAllOk.c 13 (ok_getfield (idx := 12) (N := 8) (T := TX5) rfl inTb5 (by decide) rfl wd_t_194 (by decide +kernel) rfl) ?_
  refine hAllOk.c 14 (ok_no) ?_
  refine hAllOk.c 15 (ok_no) ?_
  refine hAllOk.c 16 (ok_iload_n (f := 1) rfl (by decide +kernel) rfl) ?_
  refine hAllOk.c 17 (ok_callVN (idx := 196) ⟨wd_t_485, wd_t_2, by decide +kernel, by decide +kernel⟩ rfl rfl wd_n_482 wd_t_484 wd_s_31 (by decide +kernel) rfl) ?_
  refine hAllOk.c 18 (ok_no) ?_
  refine hAllOk.c 19 (ok_no) ?_
  refine hAllOk.c 20 (ok_ireturn (by decide +kernel)) ?_
  trivial
theorem wd_n_44 : Cond.fieldLinkNest RX4 130 RX0 "gotBack" "I" "StableParty" ∈ tables_1 := List.mem_of_getElem? (i := 44) (by decide +kernel)
def M_St_letGo : hM := (yX4_letGo, prog_6_method_21_code, 5, none, 2, 41)
def code_St_letGo (K : hK) (B : Nat × Nat) (Q : hPost) : List hSem := [x_aload 1 0, x_dup 2, x_getfield 5 4 5, x_no, x_no, x_iload 6 1, x_const 7 (-1), x_ixor 8, x_iand 9, x_putfield 12 4 5 (.int), x_no, x_no, x_const 13 (0), x_istore 14 3, x_iload 15 3, x_const 17 (12), x_no, x_icge 64 20, x_no, x_no, x_aload 21 0, x_iload 22 3, x_callV K 25 M_St_find 4 1, x_no, x_no, x_astore 27 4, x_no, x_aload 29 4, x_no, x_ifnull 58 32, x_no, x_no, x_iload 33 1, x_iload 34 3, x_callS K 37 M_Pa_isIn 2, x_no, x_no, x_ifeq 58 40, x_no, x_no, x_aload 42 4, x_no, x_const 44 (-5), x_no, x_putfield 47 0 6 (.int), x_no, x_no, x_aload 49 4, x_no, x_dup 50, x_getfield 53 0 5, x_no, x_no, x_iload 54 2, x_iadd 55, x_putfield 58 0 5 (.int), x_no, x_no, x_iinc 61 3 (1), x_no, x_no, x_goto 14, x_no, x_no, x_return Q]
set_option maxRecDepth 100000 in
set_option maxHeartbeats 4000000 in
theorem okc_St_letGo (K : hK) (B : Nat × Nat) (Q : hPost) : hAllOk (hJ K M_St_letGo B Q) 0 (code_St_letGo K B Q) := by
  refine hAllOk.c 0 (ok_aload_n (f := 0) rfl (by decide +kernel) rfl) ?_
  refine hAllOk.c 1 (ok_dup (by decide +kernel) rfl) ?_
  refine hAllOk.c 2 (ok_getfield (idx := 32) (N := 10) (T := TX4) rfl inTb4 (by decide) rfl wd_t_85 (by decide +kernel) rfl) ?_
  refine hAllOk.c 3 (ok_no) ?_
  refine hAllOk.c 4 (ok_no) ?_
  refine hAllOk.c 5 (ok_iload_n (f := 1) rfl (by decide +kernel) rfl) ?_
  refine hAllOk.c 6 (ok_iconst (n := -1) (by decide +kernel) (by decide +kernel) rfl) ?_
  refine hAllOk.c 7 (ok_ixor (by decide +kernel) rfl) ?_
  refine hAllOk.c 8 (ok_iand (by decide +kernel) rfl) ?_
  refine hAllOk.c 9 (ok_putfield (idx := 32) (N := 10) (T := TX4) tyX4_ok nmX4 rfl rfl inTb4 (by decide) rfl rfl wd_t_85 (by decide +kernel) rfl) ?_
  refine hAllOk.c 10 (ok_no) ?_
  refine hAllOk.c 11 (ok_no) ?_
  refine hAllOk.c 12 (ok_iconst (n := 0) (by decide +kernel) (by decide +kernel) rfl) ?_
  refine hAllOk.c 13 (ok_istore_n (f := 3) rfl (by decide) (by decide +kernel) rfl) ?_
  refine hAllOk.c 14 (ok_iload_n (f := 3) rfl (by decide +kernel) rfl) ?_
  refine hAllOk.c 15 (ok_bipush (n := 12) (by decide +kernel) (by decide +kernel) rfl) ?_
  refine hAllOk.c 16 (ok_no) ?_
  refine hAllOk.c 17 (ok_icge (off := 47) (by decide +kernel) (by decide +kernel) rfl) ?_
  refine hAllOk.c 18 (ok_no) ?_
  refine hAllOk.c 19 (ok_no) ?_
  refine hAllOk.c 20 (ok_aload_n (f := 0) rfl (by decide +kernel) rfl) ?_
  refine hAllOk.c 21 (ok_iload_n (f := 3) rfl (by decide +kernel) rfl) ?_
  refine hAllOk.c 22 (ok_callV (idx := 51) ⟨wd_t_246, wd_t_2, by decide +kernel, by decide +kernel⟩ rfl rfl wd_t_243 wd_t_245 wd_s_4 (by decide +kernel) rfl) ?_
  refine hAllOk.c 23 (ok_no) ?_
  refine hAllOk.c 24 (ok_no) ?_
  refine hAllOk.c 25 (ok_astore (by decide) (by decide +kernel) rfl) ?_
  refine hAllOk.c 26 (ok_no) ?_
  refine hAllOk.c 27 (ok_aload (by decide +kernel) rfl) ?_
  refine hAllOk.c 28 (ok_no) ?_
  refine hAllOk.c 29 (ok_ifnull (off := 29) (by decide +kernel) (by decide +kernel) rfl) ?_
  refine hAllOk.c 30 (ok_no) ?_
  refine hAllOk.c 31 (ok_no) ?_
  refine hAllOk.c 32 (ok_iload_n (f := 1) rfl (by decide +kernel) rfl) ?_
  refine hAllOk.c 33 (ok_iload_n (f := 3) rfl (by decide +kernel) rfl) ?_
  refine hAllOk.c 34 (ok_callSN (idx := 89) ⟨wd_t_311, wd_t_1, by decide +kernel, by decide +kernel⟩ wd_n_362 wd_t_310 (by decide +kernel) rfl) ?_
  refine hAllOk.c 35 (ok_no) ?_
  refine hAllOk.c 36 (ok_no) ?_
  refine hAllOk.c 37 (ok_ifeq (off := 21) (by decide +kernel) (by decide +kernel) rfl) ?_
  refine hAllOk.c 38 (ok_no) ?_
  refine hAllOk.c 39 (ok_no) ?_
  refine hAllOk.c 40 (ok_aload (by decide +kernel) rfl) ?_
  refine hAllOk.c 41 (ok_no) ?_
  refine hAllOk.c 42 (ok_bipush (n := -5) (by decide +kernel) (by decide +kernel) rfl) ?_
  refine hAllOk.c 43 (ok_no) ?_
  refine hAllOk.c 44 (ok_putfieldN (idx := 118) (N := 10) (T := TX0) tyX0_ok nmX0 rfl rfl inTb0 (by decide) rfl rfl wd_n_46 (by decide +kernel) rfl) ?_
  refine hAllOk.c 45 (ok_no) ?_
  refine hAllOk.c 46 (ok_no) ?_
  refine hAllOk.c 47 (ok_aload (by decide +kernel) rfl) ?_
  refine hAllOk.c 48 (ok_no) ?_
  refine hAllOk.c 49 (ok_dup (by decide +kernel) rfl) ?_
  refine hAllOk.c 50 (ok_getfieldN (idx := 130) (N := 10) (T := TX0) rfl inTb0 (by decide) rfl wd_n_44 (by decide +kernel) rfl) ?_
  refine hAllOk.c 51 (ok_no) ?_
  refine hAllOk.c 52 (ok_no) ?_
  refine hAllOk.c 53 (ok_iload_n (f := 2) rfl (by decide +kernel) rfl) ?_
  refine hAllOk.c 54 (ok_iadd (by decide +kernel) rfl) ?_
  refine hAllOk.c 55 (ok_putfieldN (idx := 130) (N := 10) (T := TX0) tyX0_ok nmX0 rfl rfl inTb0 (by decide) rfl rfl wd_n_44 (by decide +kernel) rfl) ?_
  refine hAllOk.c 56 (ok_no) ?_
  refine hAllOk.c 57 (ok_no) ?_
  refine hAllOk.c 58 (ok_iinc (n := 1) (by decide +kernel) (by decide) (by decide +kernel) rfl) ?_
  refine hAllOk.c 59 (ok_no) ?_
  refine hAllOk.c 60 (ok_no) ?_
  refine hAllOk.c 61 (ok_goto (off := (-47)) (by decide +kernel) (by decide +kernel)) ?_
  refine hAllOk.c 62 (ok_no) ?_
  refine hAllOk.c 63 (ok_no) ?_
  refine hAllOk.c 64 (ok_return rfl (by decide +kernel)) ?_
  trivial
def M_St_discontent : hM := (yX4_discontent, prog_6_method_20_code, 4, (some .int), 3, 69)
def code_St_discontent (K : hK) (B : Nat × Nat) (Q : hPost) : List hSem := [x_const 1 (0), x_istore 2 1, x_const 3 (0), x_istore 4 2, x_iload 5 2, x_const 7 (12), x_no, x_icge 55 10, x_no, x_no, x_aload 11 0, x_iload 12 2, x_callV K 15 M_St_find 4 1, x_no, x_no, x_astore 16 3, x_aload 17 3, x_ifnull 49 20, x_no, x_no, x_aload 21 0, x_getfield 24 4 5, x_no, x_no, x_iload 25 2, x_callS K 28 M_Pa_isIn 2, x_no, x_no, x_ifeq 49 31, x_no, x_no, x_aload 32 3, x_aload 33 0, x_getfield 36 4 5, x_no, x_no, x_callV K 39 M_Gu_isContentWith 0 1, x_no, x_no, x_ifne 49 42, x_no, x_no, x_iload 43 1, x_iload 44 2, x_callS K 47 M_Pa_bitOf 1, x_no, x_no, x_ior 48, x_istore 49 1, x_iinc 52 2 (1), x_no, x_no, x_goto 4, x_no, x_no, x_iload 56 1, x_ireturn (some .int) Q]
set_option maxRecDepth 100000 in
set_option maxHeartbeats 4000000 in
theorem okc_St_discontent (K : hK) (B : Nat × Nat) (Q : hPost) : hAllOk (hJ K M_St_discontent B Q) 0 (code_St_discontent K B Q) := by
  refine hAllOk.c 0 (ok_iconst (n := 0) (by decide +kernel) (by decide +kernel) rfl) ?_
  refine hAllOk.c 1 (ok_istore_n (f := 1) rfl (by decide) (by decide +kernel) rfl) ?_
  refine hAllOk.c 2 (ok_iconst (n := 0) (by decide +kernel) (by decide +kernel) rfl) ?_
  refine hAllOk.c 3 (ok_istore_n (f := 2) rfl (by decide) (by decide +kernel) rfl) ?_
  refine hAllOk.c 4 (ok_iload_n (f := 2) rfl (by decide +kernel) rfl) ?_
  refine hAllOk.c 5 (ok_bipush (n := 12) (by decide +kernel) (by decide +kernel) rfl) ?_
  refine hAllOk.c 6 (ok_no) ?_
  refine hAllOk.c 7 (ok_icge (off := 48) (by decide +kernel) (by decide +kernel) rfl) ?_
  refine hAllOk.c 8 (ok_no) ?_
  refine hAllOk.c 9 (ok_no) ?_
  refine hAllOk.c 10 (ok_aload_n (f := 0) rfl (by decide +kernel) rfl) ?_
  refine hAllOk.c 11 (ok_iload_n (f := 2) rfl (by decide +kernel) rfl) ?_
  refine hAllOk.c 12 (ok_callV (idx := 51) ⟨wd_t_246, wd_t_2, by decide +kernel, by decide +kernel⟩ rfl rfl wd_t_243 wd_t_245 wd_s_4 (by decide +kernel) rfl) ?_
  refine hAllOk.c 13 (ok_no) ?_
  refine hAllOk.c 14 (ok_no) ?_
  refine hAllOk.c 15 (ok_astore_n (f := 3) rfl (by decide) (by decide +kernel) rfl) ?_
  refine hAllOk.c 16 (ok_aload_n (f := 3) rfl (by decide +kernel) rfl) ?_
  refine hAllOk.c 17 (ok_ifnull (off := 32) (by decide +kernel) (by decide +kernel) rfl) ?_
  refine hAllOk.c 18 (ok_no) ?_
  refine hAllOk.c 19 (ok_no) ?_
  refine hAllOk.c 20 (ok_aload_n (f := 0) rfl (by decide +kernel) rfl) ?_
  refine hAllOk.c 21 (ok_getfield (idx := 32) (N := 10) (T := TX4) rfl inTb4 (by decide) rfl wd_t_85 (by decide +kernel) rfl) ?_
  refine hAllOk.c 22 (ok_no) ?_
  refine hAllOk.c 23 (ok_no) ?_
  refine hAllOk.c 24 (ok_iload_n (f := 2) rfl (by decide +kernel) rfl) ?_
  refine hAllOk.c 25 (ok_callSN (idx := 89) ⟨wd_t_311, wd_t_1, by decide +kernel, by decide +kernel⟩ wd_n_362 wd_t_310 (by decide +kernel) rfl) ?_
  refine hAllOk.c 26 (ok_no) ?_
  refine hAllOk.c 27 (ok_no) ?_
  refine hAllOk.c 28 (ok_ifeq (off := 21) (by decide +kernel) (by decide +kernel) rfl) ?_
  refine hAllOk.c 29 (ok_no) ?_
  refine hAllOk.c 30 (ok_no) ?_
  refine hAllOk.c 31 (ok_aload_n (f := 3) rfl (by decide +kernel) rfl) ?_
  refine hAllOk.c 32 (ok_aload_n (f := 0) rfl (by decide +kernel) rfl) ?_
  refine hAllOk.c 33 (ok_getfield (idx := 32) (N := 10) (T := TX4) rfl inTb4 (by decide) rfl wd_t_85 (by decide +kernel) rfl) ?_
  refine hAllOk.c 34 (ok_no) ?_
  refine hAllOk.c 35 (ok_no) ?_
  refine hAllOk.c 36 (ok_callVN (idx := 96) ⟨wd_t_332, wd_t_3, by decide +kernel, by decide +kernel⟩ rfl rfl wd_n_368 wd_t_331 wd_s_17 (by decide +kernel) rfl) ?_
  refine hAllOk.c 37 (ok_no) ?_
  refine hAllOk.c 38 (ok_no) ?_
  refine hAllOk.c 39 (ok_ifne (off := 10) (by decide +kernel) (by decide +kernel) rfl) ?_
  refine hAllOk.c 40 (ok_no) ?_
  refine hAllOk.c 41 (ok_no) ?_
  refine hAllOk.c 42 (ok_iload_n (f := 1) rfl (by decide +kernel) rfl) ?_
  refine hAllOk.c 43 (ok_iload_n (f := 2) rfl (by decide +kernel) rfl) ?_
  refine hAllOk.c 44 (ok_callSN (idx := 63) ⟨wd_t_296, wd_t_1, by decide +kernel, by decide +kernel⟩ wd_n_294 wd_t_295 (by decide +kernel) rfl) ?_
  refine hAllOk.c 45 (ok_no) ?_
  refine hAllOk.c 46 (ok_no) ?_
  refine hAllOk.c 47 (ok_ior (by decide +kernel) rfl) ?_
  refine hAllOk.c 48 (ok_istore_n (f := 1) rfl (by decide) (by decide +kernel) rfl) ?_
  refine hAllOk.c 49 (ok_iinc (n := 1) (by decide +kernel) (by decide) (by decide +kernel) rfl) ?_
  refine hAllOk.c 50 (ok_no) ?_
  refine hAllOk.c 51 (ok_no) ?_
  refine hAllOk.c 52 (ok_goto (off := (-48)) (by decide +kernel) (by decide +kernel)) ?_
  refine hAllOk.c 53 (ok_no) ?_
  refine hAllOk.c 54 (ok_no) ?_
  refine hAllOk.c 55 (ok_iload_n (f := 1) rfl (by decide +kernel) rfl) ?_
  refine hAllOk.c 56 (ok_ireturn (by decide +kernel)) ?_
  trivial
theorem wd_t_597 : Cond.methodLink RX4 124 yX4_letGo ∈ hTb := hTb_t (List.mem_of_getElem? (i := 597) (by decide +kernel)) (by decide +kernel)
theorem wd_t_600 : Cond.code yX4_letGo prog_6_method_21_code 5 none ∈ hTb := hTb_t (List.mem_of_getElem? (i := 600) (by decide +kernel)) (by decide +kernel)
theorem wd_t_599 : Cond.instanceMethod yX4_letGo ∈ hTb := hTb_t (List.mem_of_getElem? (i := 599) (by decide +kernel)) (by decide +kernel)
theorem wd_s_47 : Cond.selects RX4 yX4_letGo yX4_letGo ∈ hTb := hTb_s (List.mem_of_getElem? (i := 47) (by decide +kernel)) (by decide +kernel)
theorem wd_t_601 : Cond.methodLink RX4 127 yX4_discontent ∈ hTb := hTb_t (List.mem_of_getElem? (i := 601) (by decide +kernel)) (by decide +kernel)
theorem wd_t_604 : Cond.code yX4_discontent prog_6_method_20_code 4 (some .int) ∈ hTb := hTb_t (List.mem_of_getElem? (i := 604) (by decide +kernel)) (by decide +kernel)
theorem wd_t_603 : Cond.instanceMethod yX4_discontent ∈ hTb := hTb_t (List.mem_of_getElem? (i := 603) (by decide +kernel)) (by decide +kernel)
theorem wd_s_48 : Cond.selects RX4 yX4_discontent yX4_discontent ∈ hTb := hTb_s (List.mem_of_getElem? (i := 48) (by decide +kernel)) (by decide +kernel)
def M_St_letCancel : hM := (yX4_letCancel, prog_6_method_19_code, 5, (some .int), 4, 92)
def code_St_letCancel (K : hK) (B : Nat × Nat) (Q : hPost) : List hSem := [x_aload 1 0, x_getfield 4 4 5, x_no, x_no, x_callS K 7 M_In_bitCount 1, x_no, x_no, x_istore 8 2, x_aload 9 0, x_dup 10, x_getfield 13 4 8, x_no, x_no, x_const 14 (1), x_iadd 15, x_putfield 18 4 8 (.int), x_no, x_no, x_aload 19 0, x_iload 20 1, x_callS K 23 M_Pa_bitOf 1, x_no, x_no, x_const 24 (0), x_callV K 27 M_St_letGo 4 2, x_no, x_no, x_aload 28 0, x_callV K 31 M_St_discontent 4 0, x_no, x_no, x_istore 32 3, x_const 33 (0), x_istore 35 4, x_no, x_iload 37 4, x_no, x_const 39 (12), x_no, x_icge 81 42, x_no, x_no, x_iload 43 3, x_ifeq 81 46, x_no, x_no, x_aload 47 0, x_dup 48, x_getfield 51 4 9, x_no, x_no, x_iload 52 3, x_callS K 55 M_In_bitCount 1, x_no, x_no, x_iadd 56, x_putfield 59 4 9 (.int), x_no, x_no, x_aload 60 0, x_iload 61 3, x_aload 62 0, x_getfield 65 4 6, x_no, x_no, x_const 66 (2), x_idiv 67, x_callV K 70 M_St_letGo 4 2, x_no, x_no, x_aload 71 0, x_callV K 74 M_St_discontent 4 0, x_no, x_no, x_istore 75 3, x_iinc 78 4 (1), x_no, x_no, x_goto 35, x_no, x_no, x_iload 82 2, x_aload 83 0, x_getfield 86 4 5, x_no, x_no, x_callS K 89 M_In_bitCount 1, x_no, x_no, x_isub 90, x_ireturn (some .int) Q]
set_option maxRecDepth 100000 in
set_option maxHeartbeats 4000000 in
theorem okc_St_letCancel (K : hK) (B : Nat × Nat) (Q : hPost) : hAllOk (hJ K M_St_letCancel B Q) 0 (code_St_letCancel K B Q) := by
  refine hAllOk.c 0 (ok_aload_n (f := 0) rfl (by decide +kernel) rfl) ?_
  refine hAllOk.c 1 (ok_getfield (idx := 32) (N := 10) (T := TX4) rfl inTb4 (by decide) rfl wd_t_85 (by decide +kernel) rfl) ?_
  refine hAllOk.c 2 (ok_no) ?_
  refine hAllOk.c 3 (ok_no) ?_
  refine hAllOk.c 4 (ok_callS (idx := 81) ⟨wd_t_319, wd_t_7, by decide +kernel, by decide +kernel⟩ wd_t_353 wd_t_318 (by decide +kernel) rfl) ?_
  refine hAllOk.c 5 (ok_no) ?_
  refine hAllOk.c 6 (ok_no) ?_
  refine hAllOk.c 7 (ok_istore_n (f := 2) rfl (by decide) (by decide +kernel) rfl) ?_
  refine hAllOk.c 8 (ok_aload_n (f := 0) rfl (by decide +kernel) rfl) ?_
  refine hAllOk.c 9 (ok_dup (by decide +kernel) rfl) ?_
  refine hAllOk.c 10 (ok_getfield (idx := 41) (N := 10) (T := TX4) rfl inTb4 (by decide) rfl wd_t_90 (by decide +kernel) rfl) ?_
  refine hAllOk.c 11 (ok_no) ?_
  refine hAllOk.c 12 (ok_no) ?_
  refine hAllOk.c 13 (ok_iconst (n := 1) (by decide +kernel) (by decide +kernel) rfl) ?_
  refine hAllOk.c 14 (ok_iadd (by decide +kernel) rfl) ?_
  refine hAllOk.c 15 (ok_putfield (idx := 41) (N := 10) (T := TX4) tyX4_ok nmX4 rfl rfl inTb4 (by decide) rfl rfl wd_t_90 (by decide +kernel) rfl) ?_
  refine hAllOk.c 16 (ok_no) ?_
  refine hAllOk.c 17 (ok_no) ?_
  refine hAllOk.c 18 (ok_aload_n (f := 0) rfl (by decide +kernel) rfl) ?_
  refine hAllOk.c 19 (ok_iload_n (f := 1) rfl (by decide +kernel) rfl) ?_
  refine hAllOk.c 20 (ok_callSN (idx := 63) ⟨wd_t_296, wd_t_1, by decide +kernel, by decide +kernel⟩ wd_n_294 wd_t_295 (by decide +kernel) rfl) ?_
  refine hAllOk.c 21 (ok_no) ?_
  refine hAllOk.c 22 (ok_no) ?_
  refine hAllOk.c 23 (ok_iconst (n := 0) (by decide +kernel) (by decide +kernel) rfl) ?_
  refine hAllOk.c 24 (ok_callV (idx := 124) ⟨wd_t_600, wd_t_2, by decide +kernel, by decide +kernel⟩ rfl rfl wd_t_597 wd_t_599 wd_s_47 (by decide +kernel) rfl) ?_
  refine hAllOk.c 25 (ok_no) ?_
  refine hAllOk.c 26 (ok_no) ?_
  refine hAllOk.c 27 (ok_aload_n (f := 0) rfl (by decide +kernel) rfl) ?_
  refine hAllOk.c 28 (ok_callV (idx := 127) ⟨wd_t_604, wd_t_2, by decide +kernel, by decide +kernel⟩ rfl rfl wd_t_601 wd_t_603 wd_s_48 (by decide +kernel) rfl) ?_
  refine hAllOk.c 29 (ok_no) ?_
  refine hAllOk.c 30 (ok_no) ?_
  refine hAllOk.c 31 (ok_istore_n (f := 3) rfl (by decide) (by decide +kernel) rfl) ?_
  refine hAllOk.c 32 (ok_iconst (n := 0) (by decide +kernel) (by decide +kernel) rfl) ?_
  refine hAllOk.c 33 (ok_istore (by decide) (by decide +kernel) rfl) ?_
  refine hAllOk.c 34 (ok_no) ?_
  refine hAllOk.c 35 (ok_iload (by decide +kernel) rfl) ?_
  refine hAllOk.c 36 (ok_no) ?_
  refine hAllOk.c 37 (ok_bipush (n := 12) (by decide +kernel) (by decide +kernel) rfl) ?_
  refine hAllOk.c 38 (ok_no) ?_
  refine hAllOk.c 39 (ok_icge (off := 42) (by decide +kernel) (by decide +kernel) rfl) ?_
  refine hAllOk.c 40 (ok_no) ?_
  refine hAllOk.c 41 (ok_no) ?_
  refine hAllOk.c 42 (ok_iload_n (f := 3) rfl (by decide +kernel) rfl) ?_
  refine hAllOk.c 43 (ok_ifeq (off := 38) (by decide +kernel) (by decide +kernel) rfl) ?_
  refine hAllOk.c 44 (ok_no) ?_
  refine hAllOk.c 45 (ok_no) ?_
  refine hAllOk.c 46 (ok_aload_n (f := 0) rfl (by decide +kernel) rfl) ?_
  refine hAllOk.c 47 (ok_dup (by decide +kernel) rfl) ?_
  refine hAllOk.c 48 (ok_getfield (idx := 44) (N := 10) (T := TX4) rfl inTb4 (by decide) rfl wd_t_92 (by decide +kernel) rfl) ?_
  refine hAllOk.c 49 (ok_no) ?_
  refine hAllOk.c 50 (ok_no) ?_
  refine hAllOk.c 51 (ok_iload_n (f := 3) rfl (by decide +kernel) rfl) ?_
  refine hAllOk.c 52 (ok_callS (idx := 81) ⟨wd_t_319, wd_t_7, by decide +kernel, by decide +kernel⟩ wd_t_353 wd_t_318 (by decide +kernel) rfl) ?_
  refine hAllOk.c 53 (ok_no) ?_
  refine hAllOk.c 54 (ok_no) ?_
  refine hAllOk.c 55 (ok_iadd (by decide +kernel) rfl) ?_
  refine hAllOk.c 56 (ok_putfield (idx := 44) (N := 10) (T := TX4) tyX4_ok nmX4 rfl rfl inTb4 (by decide) rfl rfl wd_t_92 (by decide +kernel) rfl) ?_
  refine hAllOk.c 57 (ok_no) ?_
  refine hAllOk.c 58 (ok_no) ?_
  refine hAllOk.c 59 (ok_aload_n (f := 0) rfl (by decide +kernel) rfl) ?_
  refine hAllOk.c 60 (ok_iload_n (f := 3) rfl (by decide +kernel) rfl) ?_
  refine hAllOk.c 61 (ok_aload_n (f := 0) rfl (by decide +kernel) rfl) ?_
  refine hAllOk.c 62 (ok_getfield (idx := 35) (N := 10) (T := TX4) rfl inTb4 (by decide) rfl wd_t_87 (by decide +kernel) rfl) ?_
  refine hAllOk.c 63 (ok_no) ?_
  refine hAllOk.c 64 (ok_no) ?_
  refine hAllOk.c 65 (ok_iconst (n := 2) (by decide +kernel) (by decide +kernel) rfl) ?_
  refine hAllOk.c 66 (ok_idiv (by decide +kernel) rfl) ?_
  refine hAllOk.c 67 (ok_callV (idx := 124) ⟨wd_t_600, wd_t_2, by decide +kernel, by decide +kernel⟩ rfl rfl wd_t_597 wd_t_599 wd_s_47 (by decide +kernel) rfl) ?_
  refine hAllOk.c 68 (ok_no) ?_
  refine hAllOk.c 69 (ok_no) ?_
  refine hAllOk.c 70 (ok_aload_n (f := 0) rfl (by decide +kernel) rfl) ?_
  refine hAllOk.c 71 (ok_callV (idx := 127) ⟨wd_t_604, wd_t_2, by decide +kernel, by decide +kernel⟩ rfl rfl wd_t_601 wd_t_603 wd_s_48 (by decide +kernel) rfl) ?_
  refine hAllOk.c 72 (ok_no) ?_
  refine hAllOk.c 73 (ok_no) ?_
  refine hAllOk.c 74 (ok_istore_n (f := 3) rfl (by decide) (by decide +kernel) rfl) ?_
  refine hAllOk.c 75 (ok_iinc (n := 1) (by decide +kernel) (by decide) (by decide +kernel) rfl) ?_
  refine hAllOk.c 76 (ok_no) ?_
  refine hAllOk.c 77 (ok_no) ?_
  refine hAllOk.c 78 (ok_goto (off := (-43)) (by decide +kernel) (by decide +kernel)) ?_
  refine hAllOk.c 79 (ok_no) ?_
  refine hAllOk.c 80 (ok_no) ?_
  refine hAllOk.c 81 (ok_iload_n (f := 2) rfl (by decide +kernel) rfl) ?_
  refine hAllOk.c 82 (ok_aload_n (f := 0) rfl (by decide +kernel) rfl) ?_
  refine hAllOk.c 83 (ok_getfield (idx := 32) (N := 10) (T := TX4) rfl inTb4 (by decide) rfl wd_t_85 (by decide +kernel) rfl) ?_
  refine hAllOk.c 84 (ok_no) ?_
  refine hAllOk.c 85 (ok_no) ?_
  refine hAllOk.c 86 (ok_callS (idx := 81) ⟨wd_t_319, wd_t_7, by decide +kernel, by decide +kernel⟩ wd_t_353 wd_t_318 (by decide +kernel) rfl) ?_
  refine hAllOk.c 87 (ok_no) ?_
  refine hAllOk.c 88 (ok_no) ?_
  refine hAllOk.c 89 (ok_isub (by decide +kernel) rfl) ?_
  refine hAllOk.c 90 (ok_ireturn (by decide +kernel)) ?_
  trivial
theorem wd_n_593 : Cond.methodLinkNest RX5 142 yX4_letCancel "StableParty" ∈ tables_1 := List.mem_of_getElem? (i := 593) (by decide +kernel)
theorem wd_t_596 : Cond.code yX4_letCancel prog_6_method_19_code 5 (some .int) ∈ hTb := hTb_t (List.mem_of_getElem? (i := 596) (by decide +kernel)) (by decide +kernel)
theorem wd_t_595 : Cond.instanceMethod yX4_letCancel ∈ hTb := hTb_t (List.mem_of_getElem? (i := 595) (by decide +kernel)) (by decide +kernel)
theorem wd_s_46 : Cond.selects RX4 yX4_letCancel yX4_letCancel ∈ hTb := hTb_s (List.mem_of_getElem? (i := 46) (by decide +kernel)) (by decide +kernel)
def M_Pa_cancel : hM := (yX5_cancel, prog_1_method_10_code, 2, (some .int), 5, 116)
def code_Pa_cancel (K : hK) (B : Nat × Nat) (Q : hPost) : List hSem := [x_aload 1 0, x_getfield 4 5 0, x_no, x_no, x_iload 5 1, x_callV K 8 M_St_find 4 1, x_no, x_no, x_ifnonnull 13 11, x_no, x_no, x_const 12 (-1), x_ireturn (some .int) Q, x_aload 14 0, x_getfield 17 5 0, x_no, x_no, x_getfield 20 4 4, x_no, x_no, x_ifeq 37 23, x_no, x_no, x_aload 24 0, x_getfield 27 5 0, x_no, x_no, x_getfield 30 4 5, x_no, x_no, x_iload 31 1, x_callS K 34 M_Pa_isIn 2, x_no, x_no, x_ifne 40 37, x_no, x_no, x_const 39 (-4), x_no, x_ireturn (some .int) Q, x_aload 41 0, x_getfield 44 5 1, x_no, x_no, x_aload 45 0, x_getfield 48 5 0, x_no, x_no, x_callV K 51 M_Hi_record 1 1, x_no, x_no, x_aload 52 0, x_getfield 55 5 0, x_no, x_no, x_iload 56 1, x_callV K 59 M_St_letCancel 4 1, x_no, x_no, x_ireturn (some .int) Q]
set_option maxRecDepth 100000 in
set_option maxHeartbeats 4000000 in
theorem okc_Pa_cancel (K : hK) (B : Nat × Nat) (Q : hPost) : hAllOk (hJ K M_Pa_cancel B Q) 0 (code_Pa_cancel K B Q) := by
  refine hAllOk.c 0 (ok_aload_n (f := 0) rfl (by decide +kernel) rfl) ?_
  refine hAllOk.c 1 (ok_getfield (idx := 12) (N := 8) (T := TX5) rfl inTb5 (by decide) rfl wd_t_194 (by decide +kernel) rfl) ?_
  refine hAllOk.c 2 (ok_no) ?_
  refine hAllOk.c 3 (ok_no) ?_
  refine hAllOk.c 4 (ok_iload_n (f := 1) rfl (by decide +kernel) rfl) ?_
  refine hAllOk.c 5 (ok_callVN (idx := 71) ⟨wd_t_246, wd_t_2, by decide +kernel, by decide +kernel⟩ rfl rfl wd_n_452 wd_t_245 wd_s_4 (by decide +kernel) rfl) ?_
  refine hAllOk.c 6 (ok_no) ?_
  refine hAllOk.c 7 (ok_no) ?_
  refine hAllOk.c 8 (ok_ifnonnull (off := 5) (by decide +kernel) (by decide +kernel) rfl) ?_
  refine hAllOk.c 9 (ok_no) ?_
  refine hAllOk.c 10 (ok_no) ?_
  refine hAllOk.c 11 (ok_iconst (n := -1) (by decide +kernel) (by decide +kernel) rfl) ?_
  refine hAllOk.c 12 (ok_ireturn (by decide +kernel)) ?_
  refine hAllOk.c 13 (ok_aload_n (f := 0) rfl (by decide +kernel) rfl) ?_
  refine hAllOk.c 14 (ok_getfield (idx := 12) (N := 8) (T := TX5) rfl inTb5 (by decide) rfl wd_t_194 (by decide +kernel) rfl) ?_
  refine hAllOk.c 15 (ok_no) ?_
  refine hAllOk.c 16 (ok_no) ?_
  refine hAllOk.c 17 (ok_getfieldN (idx := 57) (N := 10) (T := TX4) rfl inTb4 (by decide) rfl wd_n_84 (by decide +kernel) rfl) ?_
  refine hAllOk.c 18 (ok_no) ?_
  refine hAllOk.c 19 (ok_no) ?_
  refine hAllOk.c 20 (ok_ifeq (off := 17) (by decide +kernel) (by decide +kernel) rfl) ?_
  refine hAllOk.c 21 (ok_no) ?_
  refine hAllOk.c 22 (ok_no) ?_
  refine hAllOk.c 23 (ok_aload_n (f := 0) rfl (by decide +kernel) rfl) ?_
  refine hAllOk.c 24 (ok_getfield (idx := 12) (N := 8) (T := TX5) rfl inTb5 (by decide) rfl wd_t_194 (by decide +kernel) rfl) ?_
  refine hAllOk.c 25 (ok_no) ?_
  refine hAllOk.c 26 (ok_no) ?_
  refine hAllOk.c 27 (ok_getfieldN (idx := 135) (N := 10) (T := TX4) rfl inTb4 (by decide) rfl wd_n_86 (by decide +kernel) rfl) ?_
  refine hAllOk.c 28 (ok_no) ?_
  refine hAllOk.c 29 (ok_no) ?_
  refine hAllOk.c 30 (ok_iload_n (f := 1) rfl (by decide +kernel) rfl) ?_
  refine hAllOk.c 31 (ok_callS (idx := 138) ⟨wd_t_311, wd_t_1, by decide +kernel, by decide +kernel⟩ wd_t_344 wd_t_310 (by decide +kernel) rfl) ?_
  refine hAllOk.c 32 (ok_no) ?_
  refine hAllOk.c 33 (ok_no) ?_
  refine hAllOk.c 34 (ok_ifne (off := 6) (by decide +kernel) (by decide +kernel) rfl) ?_
  refine hAllOk.c 35 (ok_no) ?_
  refine hAllOk.c 36 (ok_no) ?_
  refine hAllOk.c 37 (ok_bipush (n := -4) (by decide +kernel) (by decide +kernel) rfl) ?_
  refine hAllOk.c 38 (ok_no) ?_
  refine hAllOk.c 39 (ok_ireturn (by decide +kernel)) ?_
  refine hAllOk.c 40 (ok_aload_n (f := 0) rfl (by decide +kernel) rfl) ?_
  refine hAllOk.c 41 (ok_getfield (idx := 19) (N := 8) (T := TX5) rfl inTb5 (by decide) rfl wd_t_195 (by decide +kernel) rfl) ?_
  refine hAllOk.c 42 (ok_no) ?_
  refine hAllOk.c 43 (ok_no) ?_
  refine hAllOk.c 44 (ok_aload_n (f := 0) rfl (by decide +kernel) rfl) ?_
  refine hAllOk.c 45 (ok_getfield (idx := 12) (N := 8) (T := TX5) rfl inTb5 (by decide) rfl wd_t_194 (by decide +kernel) rfl) ?_
  refine hAllOk.c 46 (ok_no) ?_
  refine hAllOk.c 47 (ok_no) ?_
  refine hAllOk.c 48 (ok_callVN (idx := 63) ⟨wd_t_230, wd_t_4, by decide +kernel, by decide +kernel⟩ rfl rfl wd_n_227 wd_t_229 wd_s_0 (by decide +kernel) rfl) ?_
  refine hAllOk.c 49 (ok_no) ?_
  refine hAllOk.c 50 (ok_no) ?_
  refine hAllOk.c 51 (ok_aload_n (f := 0) rfl (by decide +kernel) rfl) ?_
  refine hAllOk.c 52 (ok_getfield (idx := 12) (N := 8) (T := TX5) rfl inTb5 (by decide) rfl wd_t_194 (by decide +kernel) rfl) ?_
  refine hAllOk.c 53 (ok_no) ?_
  refine hAllOk.c 54 (ok_no) ?_
  refine hAllOk.c 55 (ok_iload_n (f := 1) rfl (by decide +kernel) rfl) ?_
  refine hAllOk.c 56 (ok_callVN (idx := 142) ⟨wd_t_596, wd_t_2, by decide +kernel, by decide +kernel⟩ rfl rfl wd_n_593 wd_t_595 wd_s_46 (by decide +kernel) rfl) ?_
  refine hAllOk.c 57 (ok_no) ?_
  refine hAllOk.c 58 (ok_no) ?_
  refine hAllOk.c 59 (ok_ireturn (by decide +kernel)) ?_
  trivial
theorem wd_n_34 : Cond.fieldLinkNest RX5 106 RX0 "weight" "I" "StableParty" ∈ tables_1 := List.mem_of_getElem? (i := 34) (by decide +kernel)
def M_Pa_setWeight : hM := (yX5_setWeight, prog_1_method_5_code, 5, (some .int), 4, 91)
def code_Pa_setWeight (K : hK) (B : Nat × Nat) (Q : hPost) : List hSem := [x_aload 1 0, x_getfield 4 5 0, x_no, x_no, x_iload 5 1, x_callV K 8 M_St_find 4 1, x_no, x_no, x_astore 9 3, x_aload 10 3, x_ifnonnull 15 13, x_no, x_no, x_const 14 (-1), x_ireturn (some .int) Q, x_iload 16 2, x_const 17 (1), x_const 19 (9), x_no, x_callS K 22 M_Pa_isWithin 3, x_no, x_no, x_ifne 28 25, x_no, x_no, x_const 27 (-2), x_no, x_ireturn (some .int) Q, x_aload 29 0, x_getfield 32 5 0, x_no, x_no, x_getfield 35 4 4, x_no, x_no, x_ifeq 41 38, x_no, x_no, x_const 40 (-4), x_no, x_ireturn (some .int) Q, x_aload 42 3, x_getfield 45 0 1, x_no, x_no, x_istore 47 4, x_no, x_iload 49 4, x_no, x_iload 50 2, x_icne 56 53, x_no, x_no, x_const 55 (-5), x_no, x_ireturn (some .int) Q, x_aload 57 0, x_getfield 60 5 1, x_no, x_no, x_aload 61 0, x_getfield 64 5 0, x_no, x_no, x_callV K 67 M_Hi_record 1 1, x_no, x_no, x_aload 68 3, x_iload 69 2, x_putfield 72 0 1 (.int), x_no, x_no, x_iload 74 4, x_no, x_ireturn (some .int) Q]
set_option maxRecDepth 100000 in
set_option maxHeartbeats 4000000 in
theorem okc_Pa_setWeight (K : hK) (B : Nat × Nat) (Q : hPost) : hAllOk (hJ K M_Pa_setWeight B Q) 0 (code_Pa_setWeight K B Q) := by
  refine hAllOk.c 0 (ok_aload_n (f := 0) rfl (by decide +kernel) rfl) ?_
  refine hAllOk.c 1 (ok_getfield (idx := 12) (N := 8) (T := TX5) rfl inTb5 (by decide) rfl wd_t_194 (by decide +kernel) rfl) ?_
  refine hAllOk.c 2 (ok_no) ?_
  refine hAllOk.c 3 (ok_no) ?_
  refine hAllOk.c 4 (ok_iload_n (f := 1) rfl (by decide +kernel) rfl) ?_
  refine hAllOk.c 5 (ok_callVN (idx := 71) ⟨wd_t_246, wd_t_2, by decide +kernel, by decide +kernel⟩ rfl rfl wd_n_452 wd_t_245 wd_s_4 (by decide +kernel) rfl) ?_
  refine hAllOk.c 6 (ok_no) ?_
  refine hAllOk.c 7 (ok_no) ?_
  refine hAllOk.c 8 (ok_astore_n (f := 3) rfl (by decide) (by decide +kernel) rfl) ?_
  refine hAllOk.c 9 (ok_aload_n (f := 3) rfl (by decide +kernel) rfl) ?_
  refine hAllOk.c 10 (ok_ifnonnull (off := 5) (by decide +kernel) (by decide +kernel) rfl) ?_
  refine hAllOk.c 11 (ok_no) ?_
  refine hAllOk.c 12 (ok_no) ?_
  refine hAllOk.c 13 (ok_iconst (n := -1) (by decide +kernel) (by decide +kernel) rfl) ?_
  refine hAllOk.c 14 (ok_ireturn (by decide +kernel)) ?_
  refine hAllOk.c 15 (ok_iload_n (f := 2) rfl (by decide +kernel) rfl) ?_
  refine hAllOk.c 16 (ok_iconst (n := 1) (by decide +kernel) (by decide +kernel) rfl) ?_
  refine hAllOk.c 17 (ok_bipush (n := 9) (by decide +kernel) (by decide +kernel) rfl) ?_
  refine hAllOk.c 18 (ok_no) ?_
  refine hAllOk.c 19 (ok_callS (idx := 53) ⟨wd_t_226, wd_t_1, by decide +kernel, by decide +kernel⟩ wd_t_224 wd_t_225 (by decide +kernel) rfl) ?_
  refine hAllOk.c 20 (ok_no) ?_
  refine hAllOk.c 21 (ok_no) ?_
  refine hAllOk.c 22 (ok_ifne (off := 6) (by decide +kernel) (by decide +kernel) rfl) ?_
  refine hAllOk.c 23 (ok_no) ?_
  refine hAllOk.c 24 (ok_no) ?_
  refine hAllOk.c 25 (ok_bipush (n := -2) (by decide +kernel) (by decide +kernel) rfl) ?_
  refine hAllOk.c 26 (ok_no) ?_
  refine hAllOk.c 27 (ok_ireturn (by decide +kernel)) ?_
  refine hAllOk.c 28 (ok_aload_n (f := 0) rfl (by decide +kernel) rfl) ?_
  refine hAllOk.c 29 (ok_getfield (idx := 12) (N := 8) (T := TX5) rfl inTb5 (by decide) rfl wd_t_194 (by decide +kernel) rfl) ?_
  refine hAllOk.c 30 (ok_no) ?_
  refine hAllOk.c 31 (ok_no) ?_
  refine hAllOk.c 32 (ok_getfieldN (idx := 57) (N := 10) (T := TX4) rfl inTb4 (by decide) rfl wd_n_84 (by decide +kernel) rfl) ?_
  refine hAllOk.c 33 (ok_no) ?_
  refine hAllOk.c 34 (ok_no) ?_
  refine hAllOk.c 35 (ok_ifeq (off := 6) (by decide +kernel) (by decide +kernel) rfl) ?_
  refine hAllOk.c 36 (ok_no) ?_
  refine hAllOk.c 37 (ok_no) ?_
  refine hAllOk.c 38 (ok_bipush (n := -4) (by decide +kernel) (by decide +kernel) rfl) ?_
  refine hAllOk.c 39 (ok_no) ?_
  refine hAllOk.c 40 (ok_ireturn (by decide +kernel)) ?_
  refine hAllOk.c 41 (ok_aload_n (f := 3) rfl (by decide +kernel) rfl) ?_
  refine hAllOk.c 42 (ok_getfieldN (idx := 106) (N := 10) (T := TX0) rfl inTb0 (by decide) rfl wd_n_34 (by decide +kernel) rfl) ?_
  refine hAllOk.c 43 (ok_no) ?_
  refine hAllOk.c 44 (ok_no) ?_
  refine hAllOk.c 45 (ok_istore (by decide) (by decide +kernel) rfl) ?_
  refine hAllOk.c 46 (ok_no) ?_
  refine hAllOk.c 47 (ok_iload (by decide +kernel) rfl) ?_
  refine hAllOk.c 48 (ok_no) ?_
  refine hAllOk.c 49 (ok_iload_n (f := 2) rfl (by decide +kernel) rfl) ?_
  refine hAllOk.c 50 (ok_icne (off := 6) (by decide +kernel) (by decide +kernel) rfl) ?_
  refine hAllOk.c 51 (ok_no) ?_
  refine hAllOk.c 52 (ok_no) ?_
  refine hAllOk.c 53 (ok_bipush (n := -5) (by decide +kernel) (by decide +kernel) rfl) ?_
  refine hAllOk.c 54 (ok_no) ?_
  refine hAllOk.c 55 (ok_ireturn (by decide +kernel)) ?_
  refine hAllOk.c 56 (ok_aload_n (f := 0) rfl (by decide +kernel) rfl) ?_
  refine hAllOk.c 57 (ok_getfield (idx := 19) (N := 8) (T := TX5) rfl inTb5 (by decide) rfl wd_t_195 (by decide +kernel) rfl) ?_
  refine hAllOk.c 58 (ok_no) ?_
  refine hAllOk.c 59 (ok_no) ?_
  refine hAllOk.c 60 (ok_aload_n (f := 0) rfl (by decide +kernel) rfl) ?_
  refine hAllOk.c 61 (ok_getfield (idx := 12) (N := 8) (T := TX5) rfl inTb5 (by decide) rfl wd_t_194 (by decide +kernel) rfl) ?_
  refine hAllOk.c 62 (ok_no) ?_
  refine hAllOk.c 63 (ok_no) ?_
  refine hAllOk.c 64 (ok_callVN (idx := 63) ⟨wd_t_230, wd_t_4, by decide +kernel, by decide +kernel⟩ rfl rfl wd_n_227 wd_t_229 wd_s_0 (by decide +kernel) rfl) ?_
  refine hAllOk.c 65 (ok_no) ?_
  refine hAllOk.c 66 (ok_no) ?_
  refine hAllOk.c 67 (ok_aload_n (f := 3) rfl (by decide +kernel) rfl) ?_
  refine hAllOk.c 68 (ok_iload_n (f := 2) rfl (by decide +kernel) rfl) ?_
  refine hAllOk.c 69 (ok_putfieldN (idx := 106) (N := 10) (T := TX0) tyX0_ok nmX0 rfl rfl inTb0 (by decide) rfl rfl wd_n_34 (by decide +kernel) rfl) ?_
  refine hAllOk.c 70 (ok_no) ?_
  refine hAllOk.c 71 (ok_no) ?_
  refine hAllOk.c 72 (ok_iload (by decide +kernel) rfl) ?_
  refine hAllOk.c 73 (ok_no) ?_
  refine hAllOk.c 74 (ok_ireturn (by decide +kernel)) ?_
  trivial
def M_St_dissolveCompany : hM := (yX4_dissolveCompany, prog_6_method_22_code, 2, (some .int), 3, 65)
def code_St_dissolveCompany (K : hK) (B : Nat × Nat) (Q : hPost) : List hSem := [x_aload 1 0, x_getfield 4 4 5, x_no, x_no, x_callS K 7 M_In_bitCount 1, x_no, x_no, x_istore 8 1, x_aload 9 0, x_aload 10 0, x_getfield 13 4 5, x_no, x_no, x_const 14 (0), x_callV K 17 M_St_letGo 4 2, x_no, x_no, x_aload 18 0, x_const 19 (0), x_putfield 22 4 4 (.boolean), x_no, x_no, x_iload 23 1, x_ireturn (some .int) Q]
set_option maxRecDepth 100000 in
set_option maxHeartbeats 4000000 in
theorem okc_St_dissolveCompany (K : hK) (B : Nat × Nat) (Q : hPost) : hAllOk (hJ K M_St_dissolveCompany B Q) 0 (code_St_dissolveCompany K B Q) := by
  refine hAllOk.c 0 (ok_aload_n (f := 0) rfl (by decide +kernel) rfl) ?_
  refine hAllOk.c 1 (ok_getfield (idx := 32) (N := 10) (T := TX4) rfl inTb4 (by decide) rfl wd_t_85 (by decide +kernel) rfl) ?_
  refine hAllOk.c 2 (ok_no) ?_
  refine hAllOk.c 3 (ok_no) ?_
  refine hAllOk.c 4 (ok_callS (idx := 81) ⟨wd_t_319, wd_t_7, by decide +kernel, by decide +kernel⟩ wd_t_353 wd_t_318 (by decide +kernel) rfl) ?_
  refine hAllOk.c 5 (ok_no) ?_
  refine hAllOk.c 6 (ok_no) ?_
  refine hAllOk.c 7 (ok_istore_n (f := 1) rfl (by decide) (by decide +kernel) rfl) ?_
  refine hAllOk.c 8 (ok_aload_n (f := 0) rfl (by decide +kernel) rfl) ?_
  refine hAllOk.c 9 (ok_aload_n (f := 0) rfl (by decide +kernel) rfl) ?_
  refine hAllOk.c 10 (ok_getfield (idx := 32) (N := 10) (T := TX4) rfl inTb4 (by decide) rfl wd_t_85 (by decide +kernel) rfl) ?_
  refine hAllOk.c 11 (ok_no) ?_
  refine hAllOk.c 12 (ok_no) ?_
  refine hAllOk.c 13 (ok_iconst (n := 0) (by decide +kernel) (by decide +kernel) rfl) ?_
  refine hAllOk.c 14 (ok_callV (idx := 124) ⟨wd_t_600, wd_t_2, by decide +kernel, by decide +kernel⟩ rfl rfl wd_t_597 wd_t_599 wd_s_47 (by decide +kernel) rfl) ?_
  refine hAllOk.c 15 (ok_no) ?_
  refine hAllOk.c 16 (ok_no) ?_
  refine hAllOk.c 17 (ok_aload_n (f := 0) rfl (by decide +kernel) rfl) ?_
  refine hAllOk.c 18 (ok_iconst (n := 0) (by decide +kernel) (by decide +kernel) rfl) ?_
  refine hAllOk.c 19 (ok_putfield (idx := 28) (N := 10) (T := TX4) tyX4_ok nmX4 rfl rfl inTb4 (by decide) rfl rfl wd_t_83 (by decide +kernel) rfl) ?_
  refine hAllOk.c 20 (ok_no) ?_
  refine hAllOk.c 21 (ok_no) ?_
  refine hAllOk.c 22 (ok_iload_n (f := 1) rfl (by decide +kernel) rfl) ?_
  refine hAllOk.c 23 (ok_ireturn (by decide +kernel)) ?_
  trivial
theorem wd_n_613 : Cond.methodLinkNest RX5 145 yX4_dissolveCompany "StableParty" ∈ tables_1 := List.mem_of_getElem? (i := 613) (by decide +kernel)
theorem wd_t_616 : Cond.code yX4_dissolveCompany prog_6_method_22_code 2 (some .int) ∈ hTb := hTb_t (List.mem_of_getElem? (i := 616) (by decide +kernel)) (by decide +kernel)
theorem wd_t_615 : Cond.instanceMethod yX4_dissolveCompany ∈ hTb := hTb_t (List.mem_of_getElem? (i := 615) (by decide +kernel)) (by decide +kernel)
theorem wd_s_49 : Cond.selects RX4 yX4_dissolveCompany yX4_dissolveCompany ∈ hTb := hTb_s (List.mem_of_getElem? (i := 49) (by decide +kernel)) (by decide +kernel)
def M_Pa_dissolve : hM := (yX5_dissolve, prog_1_method_11_code, 1, (some .int), 4, 91)
def code_Pa_dissolve (K : hK) (B : Nat × Nat) (Q : hPost) : List hSem := [x_aload 1 0, x_getfield 4 5 0, x_no, x_no, x_getfield 7 4 4, x_no, x_no, x_ifne 13 10, x_no, x_no, x_const 12 (-4), x_no, x_ireturn (some .int) Q, x_aload 14 0, x_getfield 17 5 1, x_no, x_no, x_aload 18 0, x_getfield 21 5 0, x_no, x_no, x_callV K 24 M_Hi_record 1 1, x_no, x_no, x_aload 25 0, x_getfield 28 5 0, x_no, x_no, x_callV K 31 M_St_dissolveCompany 4 0, x_no, x_no, x_ireturn (some .int) Q]
set_option maxRecDepth 100000 in
set_option maxHeartbeats 4000000 in
theorem okc_Pa_dissolve (K : hK) (B : Nat × Nat) (Q : hPost) : hAllOk (hJ K M_Pa_dissolve B Q) 0 (code_Pa_dissolve K B Q) := by
  refine hAllOk.c 0 (ok_aload_n (f := 0) rfl (by decide +kernel) rfl) ?_
  refine hAllOk.c 1 (ok_getfield (idx := 12) (N := 8) (T := TX5) rfl inTb5 (by decide) rfl wd_t_194 (by decide +kernel) rfl) ?_
  refine hAllOk.c 2 (ok_no) ?_
  refine hAllOk.c 3 (ok_no) ?_
  refine hAllOk.c 4 (ok_getfieldN (idx := 57) (N := 10) (T := TX4) rfl inTb4 (by decide) rfl wd_n_84 (by decide +kernel) rfl) ?_
  refine hAllOk.c 5 (ok_no) ?_
  refine hAllOk.c 6 (ok_no) ?_
  refine hAllOk.c 7 (ok_ifne (off := 6) (by decide +kernel) (by decide +kernel) rfl) ?_
  refine hAllOk.c 8 (ok_no) ?_
  refine hAllOk.c 9 (ok_no) ?_
  refine hAllOk.c 10 (ok_bipush (n := -4) (by decide +kernel) (by decide +kernel) rfl) ?_
  refine hAllOk.c 11 (ok_no) ?_
  refine hAllOk.c 12 (ok_ireturn (by decide +kernel)) ?_
  refine hAllOk.c 13 (ok_aload_n (f := 0) rfl (by decide +kernel) rfl) ?_
  refine hAllOk.c 14 (ok_getfield (idx := 19) (N := 8) (T := TX5) rfl inTb5 (by decide) rfl wd_t_195 (by decide +kernel) rfl) ?_
  refine hAllOk.c 15 (ok_no) ?_
  refine hAllOk.c 16 (ok_no) ?_
  refine hAllOk.c 17 (ok_aload_n (f := 0) rfl (by decide +kernel) rfl) ?_
  refine hAllOk.c 18 (ok_getfield (idx := 12) (N := 8) (T := TX5) rfl inTb5 (by decide) rfl wd_t_194 (by decide +kernel) rfl) ?_
  refine hAllOk.c 19 (ok_no) ?_
  refine hAllOk.c 20 (ok_no) ?_
  refine hAllOk.c 21 (ok_callVN (idx := 63) ⟨wd_t_230, wd_t_4, by decide +kernel, by decide +kernel⟩ rfl rfl wd_n_227 wd_t_229 wd_s_0 (by decide +kernel) rfl) ?_
  refine hAllOk.c 22 (ok_no) ?_
  refine hAllOk.c 23 (ok_no) ?_
  refine hAllOk.c 24 (ok_aload_n (f := 0) rfl (by decide +kernel) rfl) ?_
  refine hAllOk.c 25 (ok_getfield (idx := 12) (N := 8) (T := TX5) rfl inTb5 (by decide) rfl wd_t_194 (by decide +kernel) rfl) ?_
  refine hAllOk.c 26 (ok_no) ?_
  refine hAllOk.c 27 (ok_no) ?_
  refine hAllOk.c 28 (ok_callVN (idx := 145) ⟨wd_t_616, wd_t_2, by decide +kernel, by decide +kernel⟩ rfl rfl wd_n_613 wd_t_615 wd_s_49 (by decide +kernel) rfl) ?_
  refine hAllOk.c 29 (ok_no) ?_
  refine hAllOk.c 30 (ok_no) ?_
  refine hAllOk.c 31 (ok_ireturn (by decide +kernel)) ?_
  trivial
theorem wd_n_444 : Cond.methodLinkNest RX5 167 yX4_isStable "StableParty" ∈ tables_1 := List.mem_of_getElem? (i := 444) (by decide +kernel)
def M_Pa_stable : hM := (yX5_stable, prog_1_method_19_code, 2, (some .int), 4, 93)
def code_Pa_stable (K : hK) (B : Nat × Nat) (Q : hPost) : List hSem := [x_aload 1 0, x_getfield 4 5 0, x_no, x_no, x_iload 5 1, x_callV K 8 M_St_hasAll 4 1, x_no, x_no, x_ifne 14 11, x_no, x_no, x_const 13 (-2), x_no, x_ireturn (some .int) Q, x_aload 15 0, x_getfield 18 5 0, x_no, x_no, x_iload 19 1, x_callV K 22 M_St_isStable 4 1, x_no, x_no, x_callS K 25 M_Pa_asNumber 1, x_no, x_no, x_ireturn (some .int) Q]
set_option maxRecDepth 100000 in
set_option maxHeartbeats 4000000 in
theorem okc_Pa_stable (K : hK) (B : Nat × Nat) (Q : hPost) : hAllOk (hJ K M_Pa_stable B Q) 0 (code_Pa_stable K B Q) := by
  refine hAllOk.c 0 (ok_aload_n (f := 0) rfl (by decide +kernel) rfl) ?_
  refine hAllOk.c 1 (ok_getfield (idx := 12) (N := 8) (T := TX5) rfl inTb5 (by decide) rfl wd_t_194 (by decide +kernel) rfl) ?_
  refine hAllOk.c 2 (ok_no) ?_
  refine hAllOk.c 3 (ok_no) ?_
  refine hAllOk.c 4 (ok_iload_n (f := 1) rfl (by decide +kernel) rfl) ?_
  refine hAllOk.c 5 (ok_callVN (idx := 82) ⟨wd_t_441, wd_t_2, by decide +kernel, by decide +kernel⟩ rfl rfl wd_n_438 wd_t_440 wd_s_29 (by decide +kernel) rfl) ?_
  refine hAllOk.c 6 (ok_no) ?_
  refine hAllOk.c 7 (ok_no) ?_
  refine hAllOk.c 8 (ok_ifne (off := 6) (by decide +kernel) (by decide +kernel) rfl) ?_
  refine hAllOk.c 9 (ok_no) ?_
  refine hAllOk.c 10 (ok_no) ?_
  refine hAllOk.c 11 (ok_bipush (n := -2) (by decide +kernel) (by decide +kernel) rfl) ?_
  refine hAllOk.c 12 (ok_no) ?_
  refine hAllOk.c 13 (ok_ireturn (by decide +kernel)) ?_
  refine hAllOk.c 14 (ok_aload_n (f := 0) rfl (by decide +kernel) rfl) ?_
  refine hAllOk.c 15 (ok_getfield (idx := 12) (N := 8) (T := TX5) rfl inTb5 (by decide) rfl wd_t_194 (by decide +kernel) rfl) ?_
  refine hAllOk.c 16 (ok_no) ?_
  refine hAllOk.c 17 (ok_no) ?_
  refine hAllOk.c 18 (ok_iload_n (f := 1) rfl (by decide +kernel) rfl) ?_
  refine hAllOk.c 19 (ok_callVN (idx := 167) ⟨wd_t_366, wd_t_2, by decide +kernel, by decide +kernel⟩ rfl rfl wd_n_444 wd_t_365 wd_s_22 (by decide +kernel) rfl) ?_
  refine hAllOk.c 20 (ok_no) ?_
  refine hAllOk.c 21 (ok_no) ?_
  refine hAllOk.c 22 (ok_callS (idx := 163) ⟨wd_t_416, wd_t_1, by decide +kernel, by decide +kernel⟩ wd_t_414 wd_t_415 (by decide +kernel) rfl) ?_
  refine hAllOk.c 23 (ok_no) ?_
  refine hAllOk.c 24 (ok_no) ?_
  refine hAllOk.c 25 (ok_ireturn (by decide +kernel)) ?_
  trivial
theorem wd_n_458 : Cond.methodLinkNest RX5 160 yX0_isContentWith "StableParty" ∈ tables_1 := List.mem_of_getElem? (i := 458) (by decide +kernel)
def M_Pa_met : hM := (yX5_met, prog_1_method_18_code, 4, (some .int), 3, 69)
def code_Pa_met (K : hK) (B : Nat × Nat) (Q : hPost) : List hSem := [x_aload 1 0, x_getfield 4 5 0, x_no, x_no, x_iload 5 1, x_callV K 8 M_St_find 4 1, x_no, x_no, x_astore 9 3, x_aload 10 3, x_ifnonnull 15 13, x_no, x_no, x_const 14 (-1), x_ireturn (some .int) Q, x_aload 16 0, x_getfield 19 5 0, x_no, x_no, x_iload 20 2, x_callV K 23 M_St_hasAll 4 1, x_no, x_no, x_ifne 29 26, x_no, x_no, x_const 28 (-2), x_no, x_ireturn (some .int) Q, x_aload 30 3, x_iload 31 2, x_callV K 34 M_Gu_isContentWith 0 1, x_no, x_no, x_callS K 37 M_Pa_asNumber 1, x_no, x_no, x_ireturn (some .int) Q]
set_option maxRecDepth 100000 in
set_option maxHeartbeats 4000000 in
theorem okc_Pa_met (K : hK) (B : Nat × Nat) (Q : hPost) : hAllOk (hJ K M_Pa_met B Q) 0 (code_Pa_met K B Q) := by
  refine hAllOk.c 0 (ok_aload_n (f := 0) rfl (by decide +kernel) rfl) ?_
  refine hAllOk.c 1 (ok_getfield (idx := 12) (N := 8) (T := TX5) rfl inTb5 (by decide) rfl wd_t_194 (by decide +kernel) rfl) ?_
  refine hAllOk.c 2 (ok_no) ?_
  refine hAllOk.c 3 (ok_no) ?_
  refine hAllOk.c 4 (ok_iload_n (f := 1) rfl (by decide +kernel) rfl) ?_
  refine hAllOk.c 5 (ok_callVN (idx := 71) ⟨wd_t_246, wd_t_2, by decide +kernel, by decide +kernel⟩ rfl rfl wd_n_452 wd_t_245 wd_s_4 (by decide +kernel) rfl) ?_
  refine hAllOk.c 6 (ok_no) ?_
  refine hAllOk.c 7 (ok_no) ?_
  refine hAllOk.c 8 (ok_astore_n (f := 3) rfl (by decide) (by decide +kernel) rfl) ?_
  refine hAllOk.c 9 (ok_aload_n (f := 3) rfl (by decide +kernel) rfl) ?_
  refine hAllOk.c 10 (ok_ifnonnull (off := 5) (by decide +kernel) (by decide +kernel) rfl) ?_
  refine hAllOk.c 11 (ok_no) ?_
  refine hAllOk.c 12 (ok_no) ?_
  refine hAllOk.c 13 (ok_iconst (n := -1) (by decide +kernel) (by decide +kernel) rfl) ?_
  refine hAllOk.c 14 (ok_ireturn (by decide +kernel)) ?_
  refine hAllOk.c 15 (ok_aload_n (f := 0) rfl (by decide +kernel) rfl) ?_
  refine hAllOk.c 16 (ok_getfield (idx := 12) (N := 8) (T := TX5) rfl inTb5 (by decide) rfl wd_t_194 (by decide +kernel) rfl) ?_
  refine hAllOk.c 17 (ok_no) ?_
  refine hAllOk.c 18 (ok_no) ?_
  refine hAllOk.c 19 (ok_iload_n (f := 2) rfl (by decide +kernel) rfl) ?_
  refine hAllOk.c 20 (ok_callVN (idx := 82) ⟨wd_t_441, wd_t_2, by decide +kernel, by decide +kernel⟩ rfl rfl wd_n_438 wd_t_440 wd_s_29 (by decide +kernel) rfl) ?_
  refine hAllOk.c 21 (ok_no) ?_
  refine hAllOk.c 22 (ok_no) ?_
  refine hAllOk.c 23 (ok_ifne (off := 6) (by decide +kernel) (by decide +kernel) rfl) ?_
  refine hAllOk.c 24 (ok_no) ?_
  refine hAllOk.c 25 (ok_no) ?_
  refine hAllOk.c 26 (ok_bipush (n := -2) (by decide +kernel) (by decide +kernel) rfl) ?_
  refine hAllOk.c 27 (ok_no) ?_
  refine hAllOk.c 28 (ok_ireturn (by decide +kernel)) ?_
  refine hAllOk.c 29 (ok_aload_n (f := 3) rfl (by decide +kernel) rfl) ?_
  refine hAllOk.c 30 (ok_iload_n (f := 2) rfl (by decide +kernel) rfl) ?_
  refine hAllOk.c 31 (ok_callVN (idx := 160) ⟨wd_t_332, wd_t_3, by decide +kernel, by decide +kernel⟩ rfl rfl wd_n_458 wd_t_331 wd_s_17 (by decide +kernel) rfl) ?_
  refine hAllOk.c 32 (ok_no) ?_
  refine hAllOk.c 33 (ok_no) ?_
  refine hAllOk.c 34 (ok_callS (idx := 163) ⟨wd_t_416, wd_t_1, by decide +kernel, by decide +kernel⟩ wd_t_414 wd_t_415 (by decide +kernel) rfl) ?_
  refine hAllOk.c 35 (ok_no) ?_
  refine hAllOk.c 36 (ok_no) ?_
  refine hAllOk.c 37 (ok_ireturn (by decide +kernel)) ?_
  trivial
def M_Se_tell : hM := (yX3_tell, prog_5_method_6_code, 4, (some .int), 0, 0)
def code_Se_tell (K : hK) (B : Nat × Nat) (Q : hPost) : List hSem := [x_iload 1 1, x_iflt 10 4, x_no, x_no, x_iload 5 1, x_const 7 (12), x_no, x_iclt 12 10, x_no, x_no, x_const 11 (-1), x_ireturn (some .int) Q, x_aload 13 0, x_getfield 16 3 2, x_no, x_no, x_iload 17 1, x_iaload K 18, x_istore 19 3, x_iload 20 2, x_ifeq 30 23, x_no, x_no, x_iload 24 3, x_ifne 30 27, x_no, x_no, x_const 29 (-5), x_no, x_ireturn (some .int) Q, x_iload 31 2, x_tab 94 [(0, 64), (1, 66), (2, 73), (3, 80), (4, 87)], x_no, x_no, x_no, x_no, x_no, x_no, x_no, x_no, x_no, x_no, x_no, x_no, x_no, x_no, x_no, x_no, x_no, x_no, x_no, x_no, x_no, x_no, x_no, x_no, x_no, x_no, x_no, x_no, x_no, x_no, x_no, x_no, x_iload 65 3, x_ireturn (some .int) Q, x_aload 67 0, x_getfield 70 3 3, x_no, x_no, x_iload 71 1, x_iaload K 72, x_ireturn (some .int) Q, x_aload 74 0, x_getfield 77 3 4, x_no, x_no, x_iload 78 1, x_iaload K 79, x_ireturn (some .int) Q, x_aload 81 0, x_getfield 84 3 5, x_no, x_no, x_iload 85 1, x_iaload K 86, x_ireturn (some .int) Q, x_aload 88 0, x_getfield 91 3 6, x_no, x_no, x_iload 92 1, x_iaload K 93, x_ireturn (some .int) Q, x_const 96 (-2), x_no, x_ireturn (some .int) Q]
set_option maxRecDepth 100000 in
set_option maxHeartbeats 4000000 in
theorem okc_Se_tell (K : hK) (B : Nat × Nat) (Q : hPost) : hAllOk (hJ K M_Se_tell B Q) 0 (code_Se_tell K B Q) := by
  refine hAllOk.c 0 (ok_iload_n (f := 1) rfl (by decide +kernel) rfl) ?_
  refine hAllOk.c 1 (ok_iflt (off := 9) (by decide +kernel) (by decide +kernel) rfl) ?_
  refine hAllOk.c 2 (ok_no) ?_
  refine hAllOk.c 3 (ok_no) ?_
  refine hAllOk.c 4 (ok_iload_n (f := 1) rfl (by decide +kernel) rfl) ?_
  refine hAllOk.c 5 (ok_bipush (n := 12) (by decide +kernel) (by decide +kernel) rfl) ?_
  refine hAllOk.c 6 (ok_no) ?_
  refine hAllOk.c 7 (ok_iclt (off := 5) (by decide +kernel) (by decide +kernel) rfl) ?_
  refine hAllOk.c 8 (ok_no) ?_
  refine hAllOk.c 9 (ok_no) ?_
  refine hAllOk.c 10 (ok_iconst (n := -1) (by decide +kernel) (by decide +kernel) rfl) ?_
  refine hAllOk.c 11 (ok_ireturn (by decide +kernel)) ?_
  refine hAllOk.c 12 (ok_aload_n (f := 0) rfl (by decide +kernel) rfl) ?_
  refine hAllOk.c 13 (ok_getfield (idx := 19) (N := 7) (T := TX3) rfl inTb3 (by decide) rfl wd_t_174 (by decide +kernel) rfl) ?_
  refine hAllOk.c 14 (ok_no) ?_
  refine hAllOk.c 15 (ok_no) ?_
  refine hAllOk.c 16 (ok_iload_n (f := 1) rfl (by decide +kernel) rfl) ?_
  refine hAllOk.c 17 (ok_iaload (by decide +kernel) rfl) ?_
  refine hAllOk.c 18 (ok_istore_n (f := 3) rfl (by decide) (by decide +kernel) rfl) ?_
  refine hAllOk.c 19 (ok_iload_n (f := 2) rfl (by decide +kernel) rfl) ?_
  refine hAllOk.c 20 (ok_ifeq (off := 10) (by decide +kernel) (by decide +kernel) rfl) ?_
  refine hAllOk.c 21 (ok_no) ?_
  refine hAllOk.c 22 (ok_no) ?_
  refine hAllOk.c 23 (ok_iload_n (f := 3) rfl (by decide +kernel) rfl) ?_
  refine hAllOk.c 24 (ok_ifne (off := 6) (by decide +kernel) (by decide +kernel) rfl) ?_
  refine hAllOk.c 25 (ok_no) ?_
  refine hAllOk.c 26 (ok_no) ?_
  refine hAllOk.c 27 (ok_bipush (n := -5) (by decide +kernel) (by decide +kernel) rfl) ?_
  refine hAllOk.c 28 (ok_no) ?_
  refine hAllOk.c 29 (ok_ireturn (by decide +kernel)) ?_
  refine hAllOk.c 30 (ok_iload_n (f := 2) rfl (by decide +kernel) rfl) ?_
  refine hAllOk.c 31 (ok_tab (dflt := 63) (lo := 0) (hi := 4) (offs := #[33, 35, 42, 49, 56]) (len := 33) (by decide +kernel) (by decide +kernel) (by decide +kernel) (by decide +kernel)) ?_
  refine hAllOk.c 32 (ok_no) ?_
  refine hAllOk.c 33 (ok_no) ?_
  refine hAllOk.c 34 (ok_no) ?_
  refine hAllOk.c 35 (ok_no) ?_
  refine hAllOk.c 36 (ok_no) ?_
  refine hAllOk.c 37 (ok_no) ?_
  refine hAllOk.c 38 (ok_no) ?_
  refine hAllOk.c 39 (ok_no) ?_
  refine hAllOk.c 40 (ok_no) ?_
  refine hAllOk.c 41 (ok_no) ?_
  refine hAllOk.c 42 (ok_no) ?_
  refine hAllOk.c 43 (ok_no) ?_
  refine hAllOk.c 44 (ok_no) ?_
  refine hAllOk.c 45 (ok_no) ?_
  refine hAllOk.c 46 (ok_no) ?_
  refine hAllOk.c 47 (ok_no) ?_
  refine hAllOk.c 48 (ok_no) ?_
  refine hAllOk.c 49 (ok_no) ?_
  refine hAllOk.c 50 (ok_no) ?_
  refine hAllOk.c 51 (ok_no) ?_
  refine hAllOk.c 52 (ok_no) ?_
  refine hAllOk.c 53 (ok_no) ?_
  refine hAllOk.c 54 (ok_no) ?_
  refine hAllOk.c 55 (ok_no) ?_
  refine hAllOk.c 56 (ok_no) ?_
  refine hAllOk.c 57 (ok_no) ?_
  refine hAllOk.c 58 (ok_no) ?_
  refine hAllOk.c 59 (ok_no) ?_
  refine hAllOk.c 60 (ok_no) ?_
  refine hAllOk.c 61 (ok_no) ?_
  refine hAllOk.c 62 (ok_no) ?_
  refine hAllOk.c 63 (ok_no) ?_
  refine hAllOk.c 64 (ok_iload_n (f := 3) rfl (by decide +kernel) rfl) ?_
  refine hAllOk.c 65 (ok_ireturn (by decide +kernel)) ?_
  refine hAllOk.c 66 (ok_aload_n (f := 0) rfl (by decide +kernel) rfl) ?_
  refine hAllOk.c 67 (ok_getfield (idx := 22) (N := 7) (T := TX3) rfl inTb3 (by decide) rfl wd_t_175 (by decide +kernel) rfl) ?_
  refine hAllOk.c 68 (ok_no) ?_
  refine hAllOk.c 69 (ok_no) ?_
  refine hAllOk.c 70 (ok_iload_n (f := 1) rfl (by decide +kernel) rfl) ?_
  refine hAllOk.c 71 (ok_iaload (by decide +kernel) rfl) ?_
  refine hAllOk.c 72 (ok_ireturn (by decide +kernel)) ?_
  refine hAllOk.c 73 (ok_aload_n (f := 0) rfl (by decide +kernel) rfl) ?_
  refine hAllOk.c 74 (ok_getfield (idx := 25) (N := 7) (T := TX3) rfl inTb3 (by decide) rfl wd_t_176 (by decide +kernel) rfl) ?_
  refine hAllOk.c 75 (ok_no) ?_
  refine hAllOk.c 76 (ok_no) ?_
  refine hAllOk.c 77 (ok_iload_n (f := 1) rfl (by decide +kernel) rfl) ?_
  refine hAllOk.c 78 (ok_iaload (by decide +kernel) rfl) ?_
  refine hAllOk.c 79 (ok_ireturn (by decide +kernel)) ?_
  refine hAllOk.c 80 (ok_aload_n (f := 0) rfl (by decide +kernel) rfl) ?_
  refine hAllOk.c 81 (ok_getfield (idx := 28) (N := 7) (T := TX3) rfl inTb3 (by decide) rfl wd_t_177 (by decide +kernel) rfl) ?_
  refine hAllOk.c 82 (ok_no) ?_
  refine hAllOk.c 83 (ok_no) ?_
  refine hAllOk.c 84 (ok_iload_n (f := 1) rfl (by decide +kernel) rfl) ?_
  refine hAllOk.c 85 (ok_iaload (by decide +kernel) rfl) ?_
  refine hAllOk.c 86 (ok_ireturn (by decide +kernel)) ?_
  refine hAllOk.c 87 (ok_aload_n (f := 0) rfl (by decide +kernel) rfl) ?_
  refine hAllOk.c 88 (ok_getfield (idx := 31) (N := 7) (T := TX3) rfl inTb3 (by decide) rfl wd_t_178 (by decide +kernel) rfl) ?_
  refine hAllOk.c 89 (ok_no) ?_
  refine hAllOk.c 90 (ok_no) ?_
  refine hAllOk.c 91 (ok_iload_n (f := 1) rfl (by decide +kernel) rfl) ?_
  refine hAllOk.c 92 (ok_iaload (by decide +kernel) rfl) ?_
  refine hAllOk.c 93 (ok_ireturn (by decide +kernel)) ?_
  refine hAllOk.c 94 (ok_bipush (n := -2) (by decide +kernel) (by decide +kernel) rfl) ?_
  refine hAllOk.c 95 (ok_no) ?_
  refine hAllOk.c 96 (ok_ireturn (by decide +kernel)) ?_
  trivial
theorem wd_n_474 : Cond.methodLinkNest RX5 182 yX3_tell "StableParty" ∈ tables_1 := List.mem_of_getElem? (i := 474) (by decide +kernel)
theorem wd_t_477 : Cond.code yX3_tell prog_5_method_6_code 4 (some .int) ∈ hTb := hTb_t (List.mem_of_getElem? (i := 477) (by decide +kernel)) (by decide +kernel)
theorem wd_t_476 : Cond.instanceMethod yX3_tell ∈ hTb := hTb_t (List.mem_of_getElem? (i := 476) (by decide +kernel)) (by decide +kernel)
theorem wd_s_30 : Cond.selects RX3 yX3_tell yX3_tell ∈ hTb := hTb_s (List.mem_of_getElem? (i := 30) (by decide +kernel)) (by decide +kernel)
def M_Pa_why : hM := (yX5_why, prog_1_method_23_code, 3, (some .int), 7, 162)
def code_Pa_why (K : hK) (B : Nat × Nat) (Q : hPost) : List hSem := [x_aload 1 0, x_getfield 4 5 0, x_no, x_no, x_iload 5 1, x_callV K 8 M_St_find 4 1, x_no, x_no, x_ifnonnull 13 11, x_no, x_no, x_const 12 (-1), x_ireturn (some .int) Q, x_iload 14 2, x_const 15 (0), x_const 16 (4), x_callS K 19 M_Pa_isWithin 3, x_no, x_no, x_ifne 25 22, x_no, x_no, x_const 24 (-2), x_no, x_ireturn (some .int) Q, x_aload 26 0, x_callV K 29 M_Pa_findGreatest 5 0, x_no, x_no, x_pop 30, x_aload 31 0, x_getfield 34 5 7, x_no, x_no, x_iload 35 1, x_iload 36 2, x_callV K 39 M_Se_tell 3 2, x_no, x_no, x_ireturn (some .int) Q]
set_option maxRecDepth 100000 in
set_option maxHeartbeats 4000000 in
theorem okc_Pa_why (K : hK) (B : Nat × Nat) (Q : hPost) : hAllOk (hJ K M_Pa_why B Q) 0 (code_Pa_why K B Q) := by
  refine hAllOk.c 0 (ok_aload_n (f := 0) rfl (by decide +kernel) rfl) ?_
  refine hAllOk.c 1 (ok_getfield (idx := 12) (N := 8) (T := TX5) rfl inTb5 (by decide) rfl wd_t_194 (by decide +kernel) rfl) ?_
  refine hAllOk.c 2 (ok_no) ?_
  refine hAllOk.c 3 (ok_no) ?_
  refine hAllOk.c 4 (ok_iload_n (f := 1) rfl (by decide +kernel) rfl) ?_
  refine hAllOk.c 5 (ok_callVN (idx := 71) ⟨wd_t_246, wd_t_2, by decide +kernel, by decide +kernel⟩ rfl rfl wd_n_452 wd_t_245 wd_s_4 (by decide +kernel) rfl) ?_
  refine hAllOk.c 6 (ok_no) ?_
  refine hAllOk.c 7 (ok_no) ?_
  refine hAllOk.c 8 (ok_ifnonnull (off := 5) (by decide +kernel) (by decide +kernel) rfl) ?_
  refine hAllOk.c 9 (ok_no) ?_
  refine hAllOk.c 10 (ok_no) ?_
  refine hAllOk.c 11 (ok_iconst (n := -1) (by decide +kernel) (by decide +kernel) rfl) ?_
  refine hAllOk.c 12 (ok_ireturn (by decide +kernel)) ?_
  refine hAllOk.c 13 (ok_iload_n (f := 2) rfl (by decide +kernel) rfl) ?_
  refine hAllOk.c 14 (ok_iconst (n := 0) (by decide +kernel) (by decide +kernel) rfl) ?_
  refine hAllOk.c 15 (ok_iconst (n := 4) (by decide +kernel) (by decide +kernel) rfl) ?_
  refine hAllOk.c 16 (ok_callS (idx := 53) ⟨wd_t_226, wd_t_1, by decide +kernel, by decide +kernel⟩ wd_t_224 wd_t_225 (by decide +kernel) rfl) ?_
  refine hAllOk.c 17 (ok_no) ?_
  refine hAllOk.c 18 (ok_no) ?_
  refine hAllOk.c 19 (ok_ifne (off := 6) (by decide +kernel) (by decide +kernel) rfl) ?_
  refine hAllOk.c 20 (ok_no) ?_
  refine hAllOk.c 21 (ok_no) ?_
  refine hAllOk.c 22 (ok_bipush (n := -2) (by decide +kernel) (by decide +kernel) rfl) ?_
  refine hAllOk.c 23 (ok_no) ?_
  refine hAllOk.c 24 (ok_ireturn (by decide +kernel)) ?_
  refine hAllOk.c 25 (ok_aload_n (f := 0) rfl (by decide +kernel) rfl) ?_
  refine hAllOk.c 26 (ok_callV (idx := 173) ⟨wd_t_289, wd_t_1, by decide +kernel, by decide +kernel⟩ rfl rfl wd_t_286 wd_t_288 wd_s_10 (by decide +kernel) rfl) ?_
  refine hAllOk.c 27 (ok_no) ?_
  refine hAllOk.c 28 (ok_no) ?_
  refine hAllOk.c 29 (ok_pop (by decide +kernel) rfl) ?_
  refine hAllOk.c 30 (ok_aload_n (f := 0) rfl (by decide +kernel) rfl) ?_
  refine hAllOk.c 31 (ok_getfield (idx := 48) (N := 8) (T := TX5) rfl inTb5 (by decide) rfl wd_t_201 (by decide +kernel) rfl) ?_
  refine hAllOk.c 32 (ok_no) ?_
  refine hAllOk.c 33 (ok_no) ?_
  refine hAllOk.c 34 (ok_iload_n (f := 1) rfl (by decide +kernel) rfl) ?_
  refine hAllOk.c 35 (ok_iload_n (f := 2) rfl (by decide +kernel) rfl) ?_
  refine hAllOk.c 36 (ok_callVN (idx := 182) ⟨wd_t_477, wd_t_6, by decide +kernel, by decide +kernel⟩ rfl rfl wd_n_474 wd_t_476 wd_s_30 (by decide +kernel) rfl) ?_
  refine hAllOk.c 37 (ok_no) ?_
  refine hAllOk.c 38 (ok_no) ?_
  refine hAllOk.c 39 (ok_ireturn (by decide +kernel)) ?_
  trivial
theorem wd_n_490 : Cond.methodLinkNest RX5 187 yX4_everybody "StableParty" ∈ tables_1 := List.mem_of_getElem? (i := 490) (by decide +kernel)
def M_Pa_needs : hM := (yX5_needs, prog_1_method_25_code, 7, (some .int), 3, 69)
def code_Pa_needs (K : hK) (B : Nat × Nat) (Q : hPost) : List hSem := [x_aload 1 0, x_getfield 4 5 0, x_no, x_no, x_iload 5 1, x_callV K 8 M_St_find 4 1, x_no, x_no, x_astore 9 2, x_aload 10 2, x_ifnonnull 15 13, x_no, x_no, x_const 14 (-1), x_ireturn (some .int) Q, x_const 17 (-5), x_no, x_istore 18 3, x_aload 19 0, x_getfield 22 5 0, x_no, x_no, x_callV K 25 M_St_everybody 4 0, x_no, x_no, x_istore 27 4, x_no, x_const 28 (0), x_istore 30 5, x_no, x_iload 32 5, x_no, x_iload 34 4, x_no, x_icgt 74 37, x_no, x_no, x_iload 39 5, x_no, x_callS K 42 M_In_bitCount 1, x_no, x_no, x_istore 44 6, x_no, x_iload 45 3, x_const 47 (-5), x_no, x_iceq 56 50, x_no, x_no, x_iload 52 6, x_no, x_iload 53 3, x_icge 68 56, x_no, x_no, x_aload 57 2, x_iload 59 5, x_no, x_callV K 62 M_Gu_isContentWith 0 1, x_no, x_no, x_ifeq 68 65, x_no, x_no, x_iload 67 6, x_no, x_istore 68 3, x_iinc 71 5 (1), x_no, x_no, x_goto 30, x_no, x_no, x_iload 75 3, x_ireturn (some .int) Q]
set_option maxRecDepth 100000 in
set_option maxHeartbeats 4000000 in
theorem okc_Pa_needs (K : hK) (B : Nat × Nat) (Q : hPost) : hAllOk (hJ K M_Pa_needs B Q) 0 (code_Pa_needs K B Q) := by
  refine hAllOk.c 0 (ok_aload_n (f := 0) rfl (by decide +kernel) rfl) ?_
  refine hAllOk.c 1 (ok_getfield (idx := 12) (N := 8) (T := TX5) rfl inTb5 (by decide) rfl wd_t_194 (by decide +kernel) rfl) ?_
  refine hAllOk.c 2 (ok_no) ?_
  refine hAllOk.c 3 (ok_no) ?_
  refine hAllOk.c 4 (ok_iload_n (f := 1) rfl (by decide +kernel) rfl) ?_
  refine hAllOk.c 5 (ok_callVN (idx := 71) ⟨wd_t_246, wd_t_2, by decide +kernel, by decide +kernel⟩ rfl rfl wd_n_452 wd_t_245 wd_s_4 (by decide +kernel) rfl) ?_
  refine hAllOk.c 6 (ok_no) ?_
  refine hAllOk.c 7 (ok_no) ?_
  refine hAllOk.c 8 (ok_astore_n (f := 2) rfl (by decide) (by decide +kernel) rfl) ?_
  refine hAllOk.c 9 (ok_aload_n (f := 2) rfl (by decide +kernel) rfl) ?_
  refine hAllOk.c 10 (ok_ifnonnull (off := 5) (by decide +kernel) (by decide +kernel) rfl) ?_
  refine hAllOk.c 11 (ok_no) ?_
  refine hAllOk.c 12 (ok_no) ?_
  refine hAllOk.c 13 (ok_iconst (n := -1) (by decide +kernel) (by decide +kernel) rfl) ?_
  refine hAllOk.c 14 (ok_ireturn (by decide +kernel)) ?_
  refine hAllOk.c 15 (ok_bipush (n := -5) (by decide +kernel) (by decide +kernel) rfl) ?_
  refine hAllOk.c 16 (ok_no) ?_
  refine hAllOk.c 17 (ok_istore_n (f := 3) rfl (by decide) (by decide +kernel) rfl) ?_
  refine hAllOk.c 18 (ok_aload_n (f := 0) rfl (by decide +kernel) rfl) ?_
  refine hAllOk.c 19 (ok_getfield (idx := 12) (N := 8) (T := TX5) rfl inTb5 (by decide) rfl wd_t_194 (by decide +kernel) rfl) ?_
  refine hAllOk.c 20 (ok_no) ?_
  refine hAllOk.c 21 (ok_no) ?_
  refine hAllOk.c 22 (ok_callVN (idx := 187) ⟨wd_t_304, wd_t_2, by decide +kernel, by decide +kernel⟩ rfl rfl wd_n_490 wd_t_303 wd_s_13 (by decide +kernel) rfl) ?_
  refine hAllOk.c 23 (ok_no) ?_
  refine hAllOk.c 24 (ok_no) ?_
  refine hAllOk.c 25 (ok_istore (by decide) (by decide +kernel) rfl) ?_
  refine hAllOk.c 26 (ok_no) ?_
  refine hAllOk.c 27 (ok_iconst (n := 0) (by decide +kernel) (by decide +kernel) rfl) ?_
  refine hAllOk.c 28 (ok_istore (by decide) (by decide +kernel) rfl) ?_
  refine hAllOk.c 29 (ok_no) ?_
  refine hAllOk.c 30 (ok_iload (by decide +kernel) rfl) ?_
  refine hAllOk.c 31 (ok_no) ?_
  refine hAllOk.c 32 (ok_iload (by decide +kernel) rfl) ?_
  refine hAllOk.c 33 (ok_no) ?_
  refine hAllOk.c 34 (ok_icgt (off := 40) (by decide +kernel) (by decide +kernel) rfl) ?_
  refine hAllOk.c 35 (ok_no) ?_
  refine hAllOk.c 36 (ok_no) ?_
  refine hAllOk.c 37 (ok_iload (by decide +kernel) rfl) ?_
  refine hAllOk.c 38 (ok_no) ?_
  refine hAllOk.c 39 (ok_callS (idx := 97) ⟨wd_t_319, wd_t_7, by decide +kernel, by decide +kernel⟩ wd_t_336 wd_t_318 (by decide +kernel) rfl) ?_
  refine hAllOk.c 40 (ok_no) ?_
  refine hAllOk.c 41 (ok_no) ?_
  refine hAllOk.c 42 (ok_istore (by decide) (by decide +kernel) rfl) ?_
  refine hAllOk.c 43 (ok_no) ?_
  refine hAllOk.c 44 (ok_iload_n (f := 3) rfl (by decide +kernel) rfl) ?_
  refine hAllOk.c 45 (ok_bipush (n := -5) (by decide +kernel) (by decide +kernel) rfl) ?_
  refine hAllOk.c 46 (ok_no) ?_
  refine hAllOk.c 47 (ok_iceq (off := 9) (by decide +kernel) (by decide +kernel) rfl) ?_
  refine hAllOk.c 48 (ok_no) ?_
  refine hAllOk.c 49 (ok_no) ?_
  refine hAllOk.c 50 (ok_iload (by decide +kernel) rfl) ?_
  refine hAllOk.c 51 (ok_no) ?_
  refine hAllOk.c 52 (ok_iload_n (f := 3) rfl (by decide +kernel) rfl) ?_
  refine hAllOk.c 53 (ok_icge (off := 15) (by decide +kernel) (by decide +kernel) rfl) ?_
  refine hAllOk.c 54 (ok_no) ?_
  refine hAllOk.c 55 (ok_no) ?_
  refine hAllOk.c 56 (ok_aload_n (f := 2) rfl (by decide +kernel) rfl) ?_
  refine hAllOk.c 57 (ok_iload (by decide +kernel) rfl) ?_
  refine hAllOk.c 58 (ok_no) ?_
  refine hAllOk.c 59 (ok_callVN (idx := 160) ⟨wd_t_332, wd_t_3, by decide +kernel, by decide +kernel⟩ rfl rfl wd_n_458 wd_t_331 wd_s_17 (by decide +kernel) rfl) ?_
  refine hAllOk.c 60 (ok_no) ?_
  refine hAllOk.c 61 (ok_no) ?_
  refine hAllOk.c 62 (ok_ifeq (off := 6) (by decide +kernel) (by decide +kernel) rfl) ?_
  refine hAllOk.c 63 (ok_no) ?_
  refine hAllOk.c 64 (ok_no) ?_
  refine hAllOk.c 65 (ok_iload (by decide +kernel) rfl) ?_
  refine hAllOk.c 66 (ok_no) ?_
  refine hAllOk.c 67 (ok_istore_n (f := 3) rfl (by decide) (by decide +kernel) rfl) ?_
  refine hAllOk.c 68 (ok_iinc (n := 1) (by decide +kernel) (by decide) (by decide +kernel) rfl) ?_
  refine hAllOk.c 69 (ok_no) ?_
  refine hAllOk.c 70 (ok_no) ?_
  refine hAllOk.c 71 (ok_goto (off := (-41)) (by decide +kernel) (by decide +kernel)) ?_
  refine hAllOk.c 72 (ok_no) ?_
  refine hAllOk.c 73 (ok_no) ?_
  refine hAllOk.c 74 (ok_iload_n (f := 3) rfl (by decide +kernel) rfl) ?_
  refine hAllOk.c 75 (ok_ireturn (by decide +kernel)) ?_
  trivial
def M_Pa_weightOf : hM := (yX5_weightOf, prog_1_method_26_code, 6, (some .int), 6, 142)
def code_Pa_weightOf (K : hK) (B : Nat × Nat) (Q : hPost) : List hSem := [x_aload 1 0, x_getfield 4 5 0, x_no, x_no, x_iload 5 1, x_callV K 8 M_St_find 4 1, x_no, x_no, x_astore 9 2, x_aload 10 2, x_ifnonnull 15 13, x_no, x_no, x_const 14 (-1), x_ireturn (some .int) Q, x_aload 16 2, x_getfield 19 0 2, x_no, x_no, x_ifne 25 22, x_no, x_no, x_const 24 (-5), x_no, x_ireturn (some .int) Q, x_aload 26 0, x_getfield 29 5 0, x_no, x_no, x_callV K 32 M_St_invitedGuests 4 0, x_no, x_no, x_istore 33 3, x_aload 34 0, x_getfield 37 5 7, x_no, x_no, x_aload 38 0, x_getfield 41 5 0, x_no, x_no, x_iload 42 3, x_const 43 (-1), x_callV K 46 M_Se_findGreatest 3 3, x_no, x_no, x_istore 48 4, x_no, x_aload 49 0, x_getfield 52 5 7, x_no, x_no, x_aload 53 0, x_getfield 56 5 0, x_no, x_no, x_iload 57 3, x_iload 58 1, x_callS K 61 M_Pa_bitOf 1, x_no, x_no, x_const 62 (-1), x_ixor 63, x_iand 64, x_const 65 (-1), x_callV K 68 M_Se_findGreatest 3 3, x_no, x_no, x_istore 70 5, x_no, x_iload 72 4, x_no, x_callS K 75 M_In_bitCount 1, x_no, x_no, x_iload 77 5, x_no, x_callS K 80 M_In_bitCount 1, x_no, x_no, x_isub 81, x_ireturn (some .int) Q]
set_option maxRecDepth 100000 in
set_option maxHeartbeats 4000000 in
theorem okc_Pa_weightOf (K : hK) (B : Nat × Nat) (Q : hPost) : hAllOk (hJ K M_Pa_weightOf B Q) 0 (code_Pa_weightOf K B Q) := by
  refine hAllOk.c 0 (ok_aload_n (f := 0) rfl (by decide +kernel) rfl) ?_
  refine hAllOk.c 1 (ok_getfield (idx := 12) (N := 8) (T := TX5) rfl inTb5 (by decide) rfl wd_t_194 (by decide +kernel) rfl) ?_
  refine hAllOk.c 2 (ok_no) ?_
  refine hAllOk.c 3 (ok_no) ?_
  refine hAllOk.c 4 (ok_iload_n (f := 1) rfl (by decide +kernel) rfl) ?_
  refine hAllOk.c 5 (ok_callVN (idx := 71) ⟨wd_t_246, wd_t_2, by decide +kernel, by decide +kernel⟩ rfl rfl wd_n_452 wd_t_245 wd_s_4 (by decide +kernel) rfl) ?_
  refine hAllOk.c 6 (ok_no) ?_
  refine hAllOk.c 7 (ok_no) ?_
  refine hAllOk.c 8 (ok_astore_n (f := 2) rfl (by decide) (by decide +kernel) rfl) ?_
  refine hAllOk.c 9 (ok_aload_n (f := 2) rfl (by decide +kernel) rfl) ?_
  refine hAllOk.c 10 (ok_ifnonnull (off := 5) (by decide +kernel) (by decide +kernel) rfl) ?_
  refine hAllOk.c 11 (ok_no) ?_
  refine hAllOk.c 12 (ok_no) ?_
  refine hAllOk.c 13 (ok_iconst (n := -1) (by decide +kernel) (by decide +kernel) rfl) ?_
  refine hAllOk.c 14 (ok_ireturn (by decide +kernel)) ?_
  refine hAllOk.c 15 (ok_aload_n (f := 2) rfl (by decide +kernel) rfl) ?_
  refine hAllOk.c 16 (ok_getfieldN (idx := 109) (N := 10) (T := TX0) rfl inTb0 (by decide) rfl wd_n_37 (by decide +kernel) rfl) ?_
  refine hAllOk.c 17 (ok_no) ?_
  refine hAllOk.c 18 (ok_no) ?_
  refine hAllOk.c 19 (ok_ifne (off := 6) (by decide +kernel) (by decide +kernel) rfl) ?_
  refine hAllOk.c 20 (ok_no) ?_
  refine hAllOk.c 21 (ok_no) ?_
  refine hAllOk.c 22 (ok_bipush (n := -5) (by decide +kernel) (by decide +kernel) rfl) ?_
  refine hAllOk.c 23 (ok_no) ?_
  refine hAllOk.c 24 (ok_ireturn (by decide +kernel)) ?_
  refine hAllOk.c 25 (ok_aload_n (f := 0) rfl (by decide +kernel) rfl) ?_
  refine hAllOk.c 26 (ok_getfield (idx := 12) (N := 8) (T := TX5) rfl inTb5 (by decide) rfl wd_t_194 (by decide +kernel) rfl) ?_
  refine hAllOk.c 27 (ok_no) ?_
  refine hAllOk.c 28 (ok_no) ?_
  refine hAllOk.c 29 (ok_callVN (idx := 112) ⟨wd_t_293, wd_t_2, by decide +kernel, by decide +kernel⟩ rfl rfl wd_n_290 wd_t_292 wd_s_11 (by decide +kernel) rfl) ?_
  refine hAllOk.c 30 (ok_no) ?_
  refine hAllOk.c 31 (ok_no) ?_
  refine hAllOk.c 32 (ok_istore_n (f := 3) rfl (by decide) (by decide +kernel) rfl) ?_
  refine hAllOk.c 33 (ok_aload_n (f := 0) rfl (by decide +kernel) rfl) ?_
  refine hAllOk.c 34 (ok_getfield (idx := 48) (N := 8) (T := TX5) rfl inTb5 (by decide) rfl wd_t_201 (by decide +kernel) rfl) ?_
  refine hAllOk.c 35 (ok_no) ?_
  refine hAllOk.c 36 (ok_no) ?_
  refine hAllOk.c 37 (ok_aload_n (f := 0) rfl (by decide +kernel) rfl) ?_
  refine hAllOk.c 38 (ok_getfield (idx := 12) (N := 8) (T := TX5) rfl inTb5 (by decide) rfl wd_t_194 (by decide +kernel) rfl) ?_
  refine hAllOk.c 39 (ok_no) ?_
  refine hAllOk.c 40 (ok_no) ?_
  refine hAllOk.c 41 (ok_iload_n (f := 3) rfl (by decide +kernel) rfl) ?_
  refine hAllOk.c 42 (ok_iconst (n := -1) (by decide +kernel) (by decide +kernel) rfl) ?_
  refine hAllOk.c 43 (ok_callVN (idx := 190) ⟨wd_t_300, wd_t_6, by decide +kernel, by decide +kernel⟩ rfl rfl wd_n_297 wd_t_299 wd_s_12 (by decide +kernel) rfl) ?_
  refine hAllOk.c 44 (ok_no) ?_
  refine hAllOk.c 45 (ok_no) ?_
  refine hAllOk.c 46 (ok_istore (by decide) (by decide +kernel) rfl) ?_
  refine hAllOk.c 47 (ok_no) ?_
  refine hAllOk.c 48 (ok_aload_n (f := 0) rfl (by decide +kernel) rfl) ?_
  refine hAllOk.c 49 (ok_getfield (idx := 48) (N := 8) (T := TX5) rfl inTb5 (by decide) rfl wd_t_201 (by decide +kernel) rfl) ?_
  refine hAllOk.c 50 (ok_no) ?_
  refine hAllOk.c 51 (ok_no) ?_
  refine hAllOk.c 52 (ok_aload_n (f := 0) rfl (by decide +kernel) rfl) ?_
  refine hAllOk.c 53 (ok_getfield (idx := 12) (N := 8) (T := TX5) rfl inTb5 (by decide) rfl wd_t_194 (by decide +kernel) rfl) ?_
  refine hAllOk.c 54 (ok_no) ?_
  refine hAllOk.c 55 (ok_no) ?_
  refine hAllOk.c 56 (ok_iload_n (f := 3) rfl (by decide +kernel) rfl) ?_
  refine hAllOk.c 57 (ok_iload_n (f := 1) rfl (by decide +kernel) rfl) ?_
  refine hAllOk.c 58 (ok_callS (idx := 193) ⟨wd_t_296, wd_t_1, by decide +kernel, by decide +kernel⟩ wd_t_312 wd_t_295 (by decide +kernel) rfl) ?_
  refine hAllOk.c 59 (ok_no) ?_
  refine hAllOk.c 60 (ok_no) ?_
  refine hAllOk.c 61 (ok_iconst (n := -1) (by decide +kernel) (by decide +kernel) rfl) ?_
  refine hAllOk.c 62 (ok_ixor (by decide +kernel) rfl) ?_
  refine hAllOk.c 63 (ok_iand (by decide +kernel) rfl) ?_
  refine hAllOk.c 64 (ok_iconst (n := -1) (by decide +kernel) (by decide +kernel) rfl) ?_
  refine hAllOk.c 65 (ok_callVN (idx := 190) ⟨wd_t_300, wd_t_6, by decide +kernel, by decide +kernel⟩ rfl rfl wd_n_297 wd_t_299 wd_s_12 (by decide +kernel) rfl) ?_
  refine hAllOk.c 66 (ok_no) ?_
  refine hAllOk.c 67 (ok_no) ?_
  refine hAllOk.c 68 (ok_istore (by decide) (by decide +kernel) rfl) ?_
  refine hAllOk.c 69 (ok_no) ?_
  refine hAllOk.c 70 (ok_iload (by decide +kernel) rfl) ?_
  refine hAllOk.c 71 (ok_no) ?_
  refine hAllOk.c 72 (ok_callS (idx := 97) ⟨wd_t_319, wd_t_7, by decide +kernel, by decide +kernel⟩ wd_t_336 wd_t_318 (by decide +kernel) rfl) ?_
  refine hAllOk.c 73 (ok_no) ?_
  refine hAllOk.c 74 (ok_no) ?_
  refine hAllOk.c 75 (ok_iload (by decide +kernel) rfl) ?_
  refine hAllOk.c 76 (ok_no) ?_
  refine hAllOk.c 77 (ok_callS (idx := 97) ⟨wd_t_319, wd_t_7, by decide +kernel, by decide +kernel⟩ wd_t_336 wd_t_318 (by decide +kernel) rfl) ?_
  refine hAllOk.c 78 (ok_no) ?_
  refine hAllOk.c 79 (ok_no) ?_
  refine hAllOk.c 80 (ok_isub (by decide +kernel) rfl) ?_
  refine hAllOk.c 81 (ok_ireturn (by decide +kernel)) ?_
  trivial
theorem wd_n_385 : Cond.methodLinkNest RX5 154 yX4_copyFrom "StableParty" ∈ tables_1 := List.mem_of_getElem? (i := 385) (by decide +kernel)
def M_Pa_keep : hM := (yX5_keep, prog_1_method_15_code, 1, (some .int), 3, 69)
def code_Pa_keep (K : hK) (B : Nat × Nat) (Q : hPost) : List hSem := [x_aload 1 0, x_getfield 4 5 2, x_no, x_no, x_aload 5 0, x_getfield 8 5 0, x_no, x_no, x_callV K 11 M_St_copyFrom 4 1, x_no, x_no, x_aload 12 0, x_const 13 (1), x_putfield 16 5 3 (.boolean), x_no, x_no, x_aload 17 0, x_getfield 20 5 0, x_no, x_no, x_getfield 23 4 1, x_no, x_no, x_ireturn (some .int) Q]
set_option maxRecDepth 100000 in
set_option maxHeartbeats 4000000 in
theorem okc_Pa_keep (K : hK) (B : Nat × Nat) (Q : hPost) : hAllOk (hJ K M_Pa_keep B Q) 0 (code_Pa_keep K B Q) := by
  refine hAllOk.c 0 (ok_aload_n (f := 0) rfl (by decide +kernel) rfl) ?_
  refine hAllOk.c 1 (ok_getfield (idx := 23) (N := 8) (T := TX5) rfl inTb5 (by decide) rfl wd_t_196 (by decide +kernel) rfl) ?_
  refine hAllOk.c 2 (ok_no) ?_
  refine hAllOk.c 3 (ok_no) ?_
  refine hAllOk.c 4 (ok_aload_n (f := 0) rfl (by decide +kernel) rfl) ?_
  refine hAllOk.c 5 (ok_getfield (idx := 12) (N := 8) (T := TX5) rfl inTb5 (by decide) rfl wd_t_194 (by decide +kernel) rfl) ?_
  refine hAllOk.c 6 (ok_no) ?_
  refine hAllOk.c 7 (ok_no) ?_
  refine hAllOk.c 8 (ok_callVN (idx := 154) ⟨wd_t_242, wd_t_2, by decide +kernel, by decide +kernel⟩ rfl rfl wd_n_385 wd_t_241 wd_s_3 (by decide +kernel) rfl) ?_
  refine hAllOk.c 9 (ok_no) ?_
  refine hAllOk.c 10 (ok_no) ?_
  refine hAllOk.c 11 (ok_aload_n (f := 0) rfl (by decide +kernel) rfl) ?_
  refine hAllOk.c 12 (ok_iconst (n := 1) (by decide +kernel) (by decide +kernel) rfl) ?_
  refine hAllOk.c 13 (ok_putfield (idx := 26) (N := 8) (T := TX5) tyX5_ok nmX5 rfl rfl inTb5 (by decide) rfl rfl wd_t_197 (by decide +kernel) rfl) ?_
  refine hAllOk.c 14 (ok_no) ?_
  refine hAllOk.c 15 (ok_no) ?_
  refine hAllOk.c 16 (ok_aload_n (f := 0) rfl (by decide +kernel) rfl) ?_
  refine hAllOk.c 17 (ok_getfield (idx := 12) (N := 8) (T := TX5) rfl inTb5 (by decide) rfl wd_t_194 (by decide +kernel) rfl) ?_
  refine hAllOk.c 18 (ok_no) ?_
  refine hAllOk.c 19 (ok_no) ?_
  refine hAllOk.c 20 (ok_getfieldN (idx := 60) (N := 10) (T := TX4) rfl inTb4 (by decide) rfl wd_n_78 (by decide +kernel) rfl) ?_
  refine hAllOk.c 21 (ok_no) ?_
  refine hAllOk.c 22 (ok_no) ?_
  refine hAllOk.c 23 (ok_ireturn (by decide +kernel)) ?_
  trivial
def M_Hi_takeBack : hM := (yX1_takeBack, prog_3_method_3_code, 3, none, 3, 69)
def code_Hi_takeBack (K : hK) (B : Nat × Nat) (Q : hPost) : List hSem := [x_aload 1 0, x_aload 2 0, x_getfield 5 1 1, x_no, x_no, x_const 6 (1), x_isub 7, x_callV K 10 M_Hi_at 1 1, x_no, x_no, x_astore 11 2, x_aload 12 2, x_ifnull 30 15, x_no, x_no, x_aload 16 1, x_aload 17 2, x_callV K 20 M_St_copyFrom 4 1, x_no, x_no, x_aload 21 0, x_dup 22, x_getfield 25 1 1, x_no, x_no, x_const 26 (1), x_isub 27, x_putfield 30 1 1 (.int), x_no, x_no, x_return Q]
set_option maxRecDepth 100000 in
set_option maxHeartbeats 4000000 in
theorem okc_Hi_takeBack (K : hK) (B : Nat × Nat) (Q : hPost) : hAllOk (hJ K M_Hi_takeBack B Q) 0 (code_Hi_takeBack K B Q) := by
  refine hAllOk.c 0 (ok_aload_n (f := 0) rfl (by decide +kernel) rfl) ?_
  refine hAllOk.c 1 (ok_aload_n (f := 0) rfl (by decide +kernel) rfl) ?_
  refine hAllOk.c 2 (ok_getfield (idx := 17) (N := 2) (T := TX1) rfl inTb1 (by decide) rfl wd_t_125 (by decide +kernel) rfl) ?_
  refine hAllOk.c 3 (ok_no) ?_
  refine hAllOk.c 4 (ok_no) ?_
  refine hAllOk.c 5 (ok_iconst (n := 1) (by decide +kernel) (by decide +kernel) rfl) ?_
  refine hAllOk.c 6 (ok_isub (by decide +kernel) rfl) ?_
  refine hAllOk.c 7 (ok_callV (idx := 25) ⟨wd_t_238, wd_t_4, by decide +kernel, by decide +kernel⟩ rfl rfl wd_t_235 wd_t_237 wd_s_2 (by decide +kernel) rfl) ?_
  refine hAllOk.c 8 (ok_no) ?_
  refine hAllOk.c 9 (ok_no) ?_
  refine hAllOk.c 10 (ok_astore_n (f := 2) rfl (by decide) (by decide +kernel) rfl) ?_
  refine hAllOk.c 11 (ok_aload_n (f := 2) rfl (by decide +kernel) rfl) ?_
  refine hAllOk.c 12 (ok_ifnull (off := 18) (by decide +kernel) (by decide +kernel) rfl) ?_
  refine hAllOk.c 13 (ok_no) ?_
  refine hAllOk.c 14 (ok_no) ?_
  refine hAllOk.c 15 (ok_aload_n (f := 1) rfl (by decide +kernel) rfl) ?_
  refine hAllOk.c 16 (ok_aload_n (f := 2) rfl (by decide +kernel) rfl) ?_
  refine hAllOk.c 17 (ok_callVN (idx := 29) ⟨wd_t_242, wd_t_2, by decide +kernel, by decide +kernel⟩ rfl rfl wd_n_239 wd_t_241 wd_s_3 (by decide +kernel) rfl) ?_
  refine hAllOk.c 18 (ok_no) ?_
  refine hAllOk.c 19 (ok_no) ?_
  refine hAllOk.c 20 (ok_aload_n (f := 0) rfl (by decide +kernel) rfl) ?_
  refine hAllOk.c 21 (ok_dup (by decide +kernel) rfl) ?_
  refine hAllOk.c 22 (ok_getfield (idx := 17) (N := 2) (T := TX1) rfl inTb1 (by decide) rfl wd_t_125 (by decide +kernel) rfl) ?_
  refine hAllOk.c 23 (ok_no) ?_
  refine hAllOk.c 24 (ok_no) ?_
  refine hAllOk.c 25 (ok_iconst (n := 1) (by decide +kernel) (by decide +kernel) rfl) ?_
  refine hAllOk.c 26 (ok_isub (by decide +kernel) rfl) ?_
  refine hAllOk.c 27 (ok_putfield (idx := 17) (N := 2) (T := TX1) tyX1_ok nmX1 rfl rfl inTb1 (by decide) rfl rfl wd_t_125 (by decide +kernel) rfl) ?_
  refine hAllOk.c 28 (ok_no) ?_
  refine hAllOk.c 29 (ok_no) ?_
  refine hAllOk.c 30 (ok_return rfl (by decide +kernel)) ?_
  trivial
theorem wd_n_377 : Cond.methodLinkNest RX5 151 yX1_takeBack "StableParty" ∈ tables_1 := List.mem_of_getElem? (i := 377) (by decide +kernel)
theorem wd_t_380 : Cond.code yX1_takeBack prog_3_method_3_code 3 none ∈ hTb := hTb_t (List.mem_of_getElem? (i := 380) (by decide +kernel)) (by decide +kernel)
theorem wd_t_379 : Cond.instanceMethod yX1_takeBack ∈ hTb := hTb_t (List.mem_of_getElem? (i := 379) (by decide +kernel)) (by decide +kernel)
theorem wd_s_24 : Cond.selects RX1 yX1_takeBack yX1_takeBack ∈ hTb := hTb_s (List.mem_of_getElem? (i := 24) (by decide +kernel)) (by decide +kernel)
def M_Pa_undo : hM := (yX5_undo, prog_1_method_14_code, 1, (some .int), 4, 91)
def code_Pa_undo (K : hK) (B : Nat × Nat) (Q : hPost) : List hSem := [x_aload 1 0, x_getfield 4 5 1, x_no, x_no, x_getfield 7 1 1, x_no, x_no, x_ifne 13 10, x_no, x_no, x_const 12 (-5), x_no, x_ireturn (some .int) Q, x_aload 14 0, x_getfield 17 5 1, x_no, x_no, x_aload 18 0, x_getfield 21 5 0, x_no, x_no, x_callV K 24 M_Hi_takeBack 1 1, x_no, x_no, x_aload 25 0, x_getfield 28 5 1, x_no, x_no, x_getfield 31 1 1, x_no, x_no, x_ireturn (some .int) Q]
set_option maxRecDepth 100000 in
set_option maxHeartbeats 4000000 in
theorem okc_Pa_undo (K : hK) (B : Nat × Nat) (Q : hPost) : hAllOk (hJ K M_Pa_undo B Q) 0 (code_Pa_undo K B Q) := by
  refine hAllOk.c 0 (ok_aload_n (f := 0) rfl (by decide +kernel) rfl) ?_
  refine hAllOk.c 1 (ok_getfield (idx := 19) (N := 8) (T := TX5) rfl inTb5 (by decide) rfl wd_t_195 (by decide +kernel) rfl) ?_
  refine hAllOk.c 2 (ok_no) ?_
  refine hAllOk.c 3 (ok_no) ?_
  refine hAllOk.c 4 (ok_getfieldN (idx := 148) (N := 2) (T := TX1) rfl inTb1 (by decide) rfl wd_n_126 (by decide +kernel) rfl) ?_
  refine hAllOk.c 5 (ok_no) ?_
  refine hAllOk.c 6 (ok_no) ?_
  refine hAllOk.c 7 (ok_ifne (off := 6) (by decide +kernel) (by decide +kernel) rfl) ?_
  refine hAllOk.c 8 (ok_no) ?_
  refine hAllOk.c 9 (ok_no) ?_
  refine hAllOk.c 10 (ok_bipush (n := -5) (by decide +kernel) (by decide +kernel) rfl) ?_
  refine hAllOk.c 11 (ok_no) ?_
  refine hAllOk.c 12 (ok_ireturn (by decide +kernel)) ?_
  refine hAllOk.c 13 (ok_aload_n (f := 0) rfl (by decide +kernel) rfl) ?_
  refine hAllOk.c 14 (ok_getfield (idx := 19) (N := 8) (T := TX5) rfl inTb5 (by decide) rfl wd_t_195 (by decide +kernel) rfl) ?_
  refine hAllOk.c 15 (ok_no) ?_
  refine hAllOk.c 16 (ok_no) ?_
  refine hAllOk.c 17 (ok_aload_n (f := 0) rfl (by decide +kernel) rfl) ?_
  refine hAllOk.c 18 (ok_getfield (idx := 12) (N := 8) (T := TX5) rfl inTb5 (by decide) rfl wd_t_194 (by decide +kernel) rfl) ?_
  refine hAllOk.c 19 (ok_no) ?_
  refine hAllOk.c 20 (ok_no) ?_
  refine hAllOk.c 21 (ok_callVN (idx := 151) ⟨wd_t_380, wd_t_4, by decide +kernel, by decide +kernel⟩ rfl rfl wd_n_377 wd_t_379 wd_s_24 (by decide +kernel) rfl) ?_
  refine hAllOk.c 22 (ok_no) ?_
  refine hAllOk.c 23 (ok_no) ?_
  refine hAllOk.c 24 (ok_aload_n (f := 0) rfl (by decide +kernel) rfl) ?_
  refine hAllOk.c 25 (ok_getfield (idx := 19) (N := 8) (T := TX5) rfl inTb5 (by decide) rfl wd_t_195 (by decide +kernel) rfl) ?_
  refine hAllOk.c 26 (ok_no) ?_
  refine hAllOk.c 27 (ok_no) ?_
  refine hAllOk.c 28 (ok_getfieldN (idx := 148) (N := 2) (T := TX1) rfl inTb1 (by decide) rfl wd_n_126 (by decide +kernel) rfl) ?_
  refine hAllOk.c 29 (ok_no) ?_
  refine hAllOk.c 30 (ok_no) ?_
  refine hAllOk.c 31 (ok_ireturn (by decide +kernel)) ?_
  trivial
def M_Pa_restore : hM := (yX5_restore, prog_1_method_16_code, 1, (some .int), 4, 91)
def code_Pa_restore (K : hK) (B : Nat × Nat) (Q : hPost) : List hSem := [x_aload 1 0, x_getfield 4 5 3, x_no, x_no, x_ifne 10 7, x_no, x_no, x_const 9 (-5), x_no, x_ireturn (some .int) Q, x_aload 11 0, x_getfield 14 5 1, x_no, x_no, x_aload 15 0, x_getfield 18 5 0, x_no, x_no, x_callV K 21 M_Hi_record 1 1, x_no, x_no, x_aload 22 0, x_getfield 25 5 0, x_no, x_no, x_aload 26 0, x_getfield 29 5 2, x_no, x_no, x_callV K 32 M_St_copyFrom 4 1, x_no, x_no, x_aload 33 0, x_getfield 36 5 0, x_no, x_no, x_getfield 39 4 1, x_no, x_no, x_ireturn (some .int) Q]
set_option maxRecDepth 100000 in
set_option maxHeartbeats 4000000 in
theorem okc_Pa_restore (K : hK) (B : Nat × Nat) (Q : hPost) : hAllOk (hJ K M_Pa_restore B Q) 0 (code_Pa_restore K B Q) := by
  refine hAllOk.c 0 (ok_aload_n (f := 0) rfl (by decide +kernel) rfl) ?_
  refine hAllOk.c 1 (ok_getfield (idx := 26) (N := 8) (T := TX5) rfl inTb5 (by decide) rfl wd_t_197 (by decide +kernel) rfl) ?_
  refine hAllOk.c 2 (ok_no) ?_
  refine hAllOk.c 3 (ok_no) ?_
  refine hAllOk.c 4 (ok_ifne (off := 6) (by decide +kernel) (by decide +kernel) rfl) ?_
  refine hAllOk.c 5 (ok_no) ?_
  refine hAllOk.c 6 (ok_no) ?_
  refine hAllOk.c 7 (ok_bipush (n := -5) (by decide +kernel) (by decide +kernel) rfl) ?_
  refine hAllOk.c 8 (ok_no) ?_
  refine hAllOk.c 9 (ok_ireturn (by decide +kernel)) ?_
  refine hAllOk.c 10 (ok_aload_n (f := 0) rfl (by decide +kernel) rfl) ?_
  refine hAllOk.c 11 (ok_getfield (idx := 19) (N := 8) (T := TX5) rfl inTb5 (by decide) rfl wd_t_195 (by decide +kernel) rfl) ?_
  refine hAllOk.c 12 (ok_no) ?_
  refine hAllOk.c 13 (ok_no) ?_
  refine hAllOk.c 14 (ok_aload_n (f := 0) rfl (by decide +kernel) rfl) ?_
  refine hAllOk.c 15 (ok_getfield (idx := 12) (N := 8) (T := TX5) rfl inTb5 (by decide) rfl wd_t_194 (by decide +kernel) rfl) ?_
  refine hAllOk.c 16 (ok_no) ?_
  refine hAllOk.c 17 (ok_no) ?_
  refine hAllOk.c 18 (ok_callVN (idx := 63) ⟨wd_t_230, wd_t_4, by decide +kernel, by decide +kernel⟩ rfl rfl wd_n_227 wd_t_229 wd_s_0 (by decide +kernel) rfl) ?_
  refine hAllOk.c 19 (ok_no) ?_
  refine hAllOk.c 20 (ok_no) ?_
  refine hAllOk.c 21 (ok_aload_n (f := 0) rfl (by decide +kernel) rfl) ?_
  refine hAllOk.c 22 (ok_getfield (idx := 12) (N := 8) (T := TX5) rfl inTb5 (by decide) rfl wd_t_194 (by decide +kernel) rfl) ?_
  refine hAllOk.c 23 (ok_no) ?_
  refine hAllOk.c 24 (ok_no) ?_
  refine hAllOk.c 25 (ok_aload_n (f := 0) rfl (by decide +kernel) rfl) ?_
  refine hAllOk.c 26 (ok_getfield (idx := 23) (N := 8) (T := TX5) rfl inTb5 (by decide) rfl wd_t_196 (by decide +kernel) rfl) ?_
  refine hAllOk.c 27 (ok_no) ?_
  refine hAllOk.c 28 (ok_no) ?_
  refine hAllOk.c 29 (ok_callVN (idx := 154) ⟨wd_t_242, wd_t_2, by decide +kernel, by decide +kernel⟩ rfl rfl wd_n_385 wd_t_241 wd_s_3 (by decide +kernel) rfl) ?_
  refine hAllOk.c 30 (ok_no) ?_
  refine hAllOk.c 31 (ok_no) ?_
  refine hAllOk.c 32 (ok_aload_n (f := 0) rfl (by decide +kernel) rfl) ?_
  refine hAllOk.c 33 (ok_getfield (idx := 12) (N := 8) (T := TX5) rfl inTb5 (by decide) rfl wd_t_194 (by decide +kernel) rfl) ?_
  refine hAllOk.c 34 (ok_no) ?_
  refine hAllOk.c 35 (ok_no) ?_
  refine hAllOk.c 36 (ok_getfieldN (idx := 60) (N := 10) (T := TX4) rfl inTb4 (by decide) rfl wd_n_78 (by decide +kernel) rfl) ?_
  refine hAllOk.c 37 (ok_no) ?_
  refine hAllOk.c 38 (ok_no) ?_
  refine hAllOk.c 39 (ok_ireturn (by decide +kernel)) ?_
  trivial
