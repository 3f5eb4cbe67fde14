theorem wd_t_600 : Cond.methodLink RX6 1 Lib.objectInit ∈ hTb := hTb_t (List.mem_of_getElem? (i := 600) (by decide +kernel)) (by decide +kernel)
theorem wd_t_602 : Cond.fieldLink RX6 7 RX6 "v" "[I" ∈ hTb := hTb_t (List.mem_of_getElem? (i := 602) (by decide +kernel)) (by decide +kernel)
theorem wd_t_603 : Cond.fieldLink RX6 13 RX6 "history" "[I" ∈ hTb := hTb_t (List.mem_of_getElem? (i := 603) (by decide +kernel)) (by decide +kernel)
theorem wd_t_605 : Cond.fieldLink RX6 16 RX6 "kept" "[I" ∈ hTb := hTb_t (List.mem_of_getElem? (i := 605) (by decide +kernel)) (by decide +kernel)
theorem wd_t_607 : Cond.fieldLink RX6 19 RX6 "text" "[I" ∈ hTb := hTb_t (List.mem_of_getElem? (i := 607) (by decide +kernel)) (by decide +kernel)
theorem wd_t_609 : Cond.fieldLink RX6 22 RX6 "lows" "[I" ∈ hTb := hTb_t (List.mem_of_getElem? (i := 609) (by decide +kernel)) (by decide +kernel)
theorem wd_t_601 : Cond.constant RX6 25 (99999) ∈ hTb := hTb_t (List.mem_of_getElem? (i := 601) (by decide +kernel)) (by decide +kernel)
theorem wd_t_610 : Cond.fieldLink RX6 26 RX6 "highs" "[I" ∈ hTb := hTb_t (List.mem_of_getElem? (i := 610) (by decide +kernel)) (by decide +kernel)
theorem wd_t_651 : Cond.arrayClass .boolean ∈ hTb := hTb_t (List.mem_of_getElem? (i := 651) (by decide +kernel)) (by decide +kernel)
theorem wd_t_613 : Cond.fieldLink RX6 29 RX6 "any" "[Z" ∈ hTb := hTb_t (List.mem_of_getElem? (i := 613) (by decide +kernel)) (by decide +kernel)
theorem wd_t_614 : Cond.fieldLink RX6 33 RX6 "part" "[Z" ∈ hTb := hTb_t (List.mem_of_getElem? (i := 614) (by decide +kernel)) (by decide +kernel)
theorem wd_t_615 : Cond.fieldLink RX6 36 RX6 "reasons" "[I" ∈ hTb := hTb_t (List.mem_of_getElem? (i := 615) (by decide +kernel)) (by decide +kernel)
theorem wd_t_616 : Cond.fieldLink RX6 39 RX6 "roundOf" "[I" ∈ hTb := hTb_t (List.mem_of_getElem? (i := 616) (by decide +kernel)) (by decide +kernel)
def M_Mo_init : hM := (yX6_init, prog_8_method_1_code, 1, none, 1, 20)
def code_Mo_init (K : hK) (B : Nat × Nat) (Q : hPost) : List hSem := [x_aload 1 0, x_objinit 4, x_no, x_no, x_aload 5 0, x_const 8 (1647), x_no, x_no, x_newarray K B 10 0, x_no, x_putfield 13 6 0 (.array .int), x_no, x_no, x_aload 14 0, x_const 17 (6588), x_no, x_no, x_newarray K B 19 0, x_no, x_putfield 22 6 1 (.array .int), x_no, x_no, x_aload 23 0, x_const 26 (1647), x_no, x_no, x_newarray K B 28 0, x_no, x_putfield 31 6 3 (.array .int), x_no, x_no, x_aload 32 0, x_const 34 (60), x_no, x_newarray K B 36 0, x_no, x_putfield 39 6 5 (.array .int), x_no, x_no, x_aload 40 0, x_const 41 (5), x_newarray K B 43 0, x_no, x_dup 44, x_const 45 (0), x_const 46 (0), x_iastore K 47, x_dup 48, x_const 49 (1), x_const 50 (0), x_iastore K 51, x_dup 52, x_const 53 (2), x_const 54 (1), x_iastore K 55, x_dup 56, x_const 57 (3), x_const 58 (0), x_iastore K 59, x_dup 60, x_const 61 (4), x_const 62 (0), x_iastore K 63, x_putfield 66 6 7 (.array .int), x_no, x_no, x_aload 67 0, x_const 68 (5), x_newarray K B 70 0, x_no, x_dup 71, x_const 72 (0), x_const 74 (99999), x_no, x_iastore K 75, x_dup 76, x_const 77 (1), x_const 80 (9999), x_no, x_no, x_iastore K 81, x_dup 82, x_const 83 (2), x_const 85 (12), x_no, x_iastore K 86, x_dup 87, x_const 88 (3), x_const 91 (999), x_no, x_no, x_iastore K 92, x_dup 93, x_const 94 (4), x_const 97 (9999), x_no, x_no, x_iastore K 98, x_putfield 101 6 8 (.array .int), x_no, x_no, x_aload 102 0, x_const 104 (9), x_no, x_newarray K B 106 2, x_no, x_putfield 109 6 11 (.array .boolean), x_no, x_no, x_aload 110 0, x_const 112 (9), x_no, x_newarray K B 114 2, x_no, x_putfield 117 6 12 (.array .boolean), x_no, x_no, x_aload 118 0, x_const 120 (12), x_no, x_newarray K B 122 0, x_no, x_putfield 125 6 13 (.array .int), x_no, x_no, x_aload 126 0, x_const 128 (12), x_no, x_newarray K B 130 0, x_no, x_putfield 133 6 14 (.array .int), x_no, x_no, x_aload 134 0, x_getfield 137 6 0, x_no, x_no, x_const 138 (2), x_const 141 (10000), x_no, x_no, x_iastore K 142, x_aload 143 0, x_getfield 146 6 0, x_no, x_no, x_const 147 (3), x_const 150 (500), x_no, x_no, x_iastore K 151, x_aload 152 0, x_getfield 155 6 0, x_no, x_no, x_const 156 (4), x_const 158 (12), x_no, x_iastore K 159, x_aload 160 0, x_getfield 163 6 0, x_no, x_no, x_const 164 (5), x_const 166 (10), x_no, x_iastore K 167, x_aload 168 0, x_getfield 171 6 0, x_no, x_no, x_const 173 (6), x_no, x_const 176 (200), x_no, x_no, x_iastore K 177, x_return Q]
set_option maxRecDepth 100000 in
set_option maxHeartbeats 4000000 in
theorem okc_Mo_init (K : hK) (B : Nat × Nat) (Q : hPost) : hAllOk (hJ K M_Mo_init B Q) 0 (code_Mo_init K B Q) := by
  refine hAllOk.c 0 (ok_aload_n (f := 0) rfl (by decide +kernel) rfl) ?_
  refine hAllOk.c 1 (ok_objinit (idx := 1) wd_t_600 wd_t_15 wd_t_16 (by decide) (by decide) (by decide +kernel) rfl) ?_
  refine hAllOk.c 2 (ok_no) ?_
  refine hAllOk.c 3 (ok_no) ?_
  refine hAllOk.c 4 (ok_aload_n (f := 0) rfl (by decide +kernel) rfl) ?_
  refine hAllOk.c 5 (ok_sipush (n := 1647) (by decide +kernel) (by decide +kernel) rfl) ?_
  refine hAllOk.c 6 (ok_no) ?_
  refine hAllOk.c 7 (ok_no) ?_
  refine hAllOk.c 8 (ok_newarray (by decide) wd_t_74 (by decide +kernel) rfl) ?_
  refine hAllOk.c 9 (ok_no) ?_
  refine hAllOk.c 10 (ok_putfieldF (idx := 7) (N := 16) (T := TX6) tyX6_ok nmX6 rfl rfl inTb6 (by decide) rfl rfl rfl rfl wd_t_602 (by decide +kernel) rfl) ?_
  refine hAllOk.c 11 (ok_no) ?_
  refine hAllOk.c 12 (ok_no) ?_
  refine hAllOk.c 13 (ok_aload_n (f := 0) rfl (by decide +kernel) rfl) ?_
  refine hAllOk.c 14 (ok_sipush (n := 6588) (by decide +kernel) (by decide +kernel) rfl) ?_
  refine hAllOk.c 15 (ok_no) ?_
  refine hAllOk.c 16 (ok_no) ?_
  refine hAllOk.c 17 (ok_newarray (by decide) wd_t_74 (by decide +kernel) rfl) ?_
  refine hAllOk.c 18 (ok_no) ?_
  refine hAllOk.c 19 (ok_putfieldF (idx := 13) (N := 16) (T := TX6) tyX6_ok nmX6 rfl rfl inTb6 (by decide) rfl rfl rfl rfl wd_t_603 (by decide +kernel) rfl) ?_
  refine hAllOk.c 20 (ok_no) ?_
  refine hAllOk.c 21 (ok_no) ?_
  refine hAllOk.c 22 (ok_aload_n (f := 0) rfl (by decide +kernel) rfl) ?_
  refine hAllOk.c 23 (ok_sipush (n := 1647) (by decide +kernel) (by decide +kernel) rfl) ?_
  refine hAllOk.c 24 (ok_no) ?_
  refine hAllOk.c 25 (ok_no) ?_
  refine hAllOk.c 26 (ok_newarray (by decide) wd_t_74 (by decide +kernel) rfl) ?_
  refine hAllOk.c 27 (ok_no) ?_
  refine hAllOk.c 28 (ok_putfieldF (idx := 16) (N := 16) (T := TX6) tyX6_ok nmX6 rfl rfl inTb6 (by decide) rfl rfl rfl rfl wd_t_605 (by decide +kernel) rfl) ?_
  refine hAllOk.c 29 (ok_no) ?_
  refine hAllOk.c 30 (ok_no) ?_
  refine hAllOk.c 31 (ok_aload_n (f := 0) rfl (by decide +kernel) rfl) ?_
  refine hAllOk.c 32 (ok_bipush (n := 60) (by decide +kernel) (by decide +kernel) rfl) ?_
  refine hAllOk.c 33 (ok_no) ?_
  refine hAllOk.c 34 (ok_newarray (by decide) wd_t_74 (by decide +kernel) rfl) ?_
  refine hAllOk.c 35 (ok_no) ?_
  refine hAllOk.c 36 (ok_putfieldF (idx := 19) (N := 16) (T := TX6) tyX6_ok nmX6 rfl rfl inTb6 (by decide) rfl rfl rfl rfl wd_t_607 (by decide +kernel) rfl) ?_
  refine hAllOk.c 37 (ok_no) ?_
  refine hAllOk.c 38 (ok_no) ?_
  refine hAllOk.c 39 (ok_aload_n (f := 0) rfl (by decide +kernel) rfl) ?_
  refine hAllOk.c 40 (ok_iconst (n := 5) (by decide +kernel) (by decide +kernel) rfl) ?_
  refine hAllOk.c 41 (ok_newarray (by decide) wd_t_74 (by decide +kernel) rfl) ?_
  refine hAllOk.c 42 (ok_no) ?_
  refine hAllOk.c 43 (ok_dup (by decide +kernel) rfl) ?_
  refine hAllOk.c 44 (ok_iconst (n := 0) (by decide +kernel) (by decide +kernel) rfl) ?_
  refine hAllOk.c 45 (ok_iconst (n := 0) (by decide +kernel) (by decide +kernel) rfl) ?_
  refine hAllOk.c 46 (ok_iastore (by decide +kernel) rfl) ?_
  refine hAllOk.c 47 (ok_dup (by decide +kernel) rfl) ?_
  refine hAllOk.c 48 (ok_iconst (n := 1) (by decide +kernel) (by decide +kernel) rfl) ?_
  refine hAllOk.c 49 (ok_iconst (n := 0) (by decide +kernel) (by decide +kernel) rfl) ?_
  refine hAllOk.c 50 (ok_iastore (by decide +kernel) rfl) ?_
  refine hAllOk.c 51 (ok_dup (by decide +kernel) rfl) ?_
  refine hAllOk.c 52 (ok_iconst (n := 2) (by decide +kernel) (by decide +kernel) rfl) ?_
  refine hAllOk.c 53 (ok_iconst (n := 1) (by decide +kernel) (by decide +kernel) rfl) ?_
  refine hAllOk.c 54 (ok_iastore (by decide +kernel) rfl) ?_
  refine hAllOk.c 55 (ok_dup (by decide +kernel) rfl) ?_
  refine hAllOk.c 56 (ok_iconst (n := 3) (by decide +kernel) (by decide +kernel) rfl) ?_
  refine hAllOk.c 57 (ok_iconst (n := 0) (by decide +kernel) (by decide +kernel) rfl) ?_
  refine hAllOk.c 58 (ok_iastore (by decide +kernel) rfl) ?_
  refine hAllOk.c 59 (ok_dup (by decide +kernel) rfl) ?_
  refine hAllOk.c 60 (ok_iconst (n := 4) (by decide +kernel) (by decide +kernel) rfl) ?_
  refine hAllOk.c 61 (ok_iconst (n := 0) (by decide +kernel) (by decide +kernel) rfl) ?_
  refine hAllOk.c 62 (ok_iastore (by decide +kernel) rfl) ?_
  refine hAllOk.c 63 (ok_putfieldF (idx := 22) (N := 16) (T := TX6) tyX6_ok nmX6 rfl rfl inTb6 (by decide) rfl rfl rfl rfl wd_t_609 (by decide +kernel) rfl) ?_
  refine hAllOk.c 64 (ok_no) ?_
  refine hAllOk.c 65 (ok_no) ?_
  refine hAllOk.c 66 (ok_aload_n (f := 0) rfl (by decide +kernel) rfl) ?_
  refine hAllOk.c 67 (ok_iconst (n := 5) (by decide +kernel) (by decide +kernel) rfl) ?_
  refine hAllOk.c 68 (ok_newarray (by decide) wd_t_74 (by decide +kernel) rfl) ?_
  refine hAllOk.c 69 (ok_no) ?_
  refine hAllOk.c 70 (ok_dup (by decide +kernel) rfl) ?_
  refine hAllOk.c 71 (ok_iconst (n := 0) (by decide +kernel) (by decide +kernel) rfl) ?_
  refine hAllOk.c 72 (ok_ldc (i := 25) wd_t_601 (by decide +kernel) rfl) ?_
  refine hAllOk.c 73 (ok_no) ?_
  refine hAllOk.c 74 (ok_iastore (by decide +kernel) rfl) ?_
  refine hAllOk.c 75 (ok_dup (by decide +kernel) rfl) ?_
  refine hAllOk.c 76 (ok_iconst (n := 1) (by decide +kernel) (by decide +kernel) rfl) ?_
  refine hAllOk.c 77 (ok_sipush (n := 9999) (by decide +kernel) (by decide +kernel) rfl) ?_
  refine hAllOk.c 78 (ok_no) ?_
  refine hAllOk.c 79 (ok_no) ?_
  refine hAllOk.c 80 (ok_iastore (by decide +kernel) rfl) ?_
  refine hAllOk.c 81 (ok_dup (by decide +kernel) rfl) ?_
  refine hAllOk.c 82 (ok_iconst (n := 2) (by decide +kernel) (by decide +kernel) rfl) ?_
  refine hAllOk.c 83 (ok_bipush (n := 12) (by decide +kernel) (by decide +kernel) rfl) ?_
  refine hAllOk.c 84 (ok_no) ?_
  refine hAllOk.c 85 (ok_iastore (by decide +kernel) rfl) ?_
  refine hAllOk.c 86 (ok_dup (by decide +kernel) rfl) ?_
  refine hAllOk.c 87 (ok_iconst (n := 3) (by decide +kernel) (by decide +kernel) rfl) ?_
  refine hAllOk.c 88 (ok_sipush (n := 999) (by decide +kernel) (by decide +kernel) rfl) ?_
  refine hAllOk.c 89 (ok_no) ?_
  refine hAllOk.c 90 (ok_no) ?_
  refine hAllOk.c 91 (ok_iastore (by decide +kernel) rfl) ?_
  refine hAllOk.c 92 (ok_dup (by decide +kernel) rfl) ?_
  refine hAllOk.c 93 (ok_iconst (n := 4) (by decide +kernel) (by decide +kernel) rfl) ?_
  refine hAllOk.c 94 (ok_sipush (n := 9999) (by decide +kernel) (by decide +kernel) rfl) ?_
  refine hAllOk.c 95 (ok_no) ?_
  refine hAllOk.c 96 (ok_no) ?_
  refine hAllOk.c 97 (ok_iastore (by decide +kernel) rfl) ?_
  refine hAllOk.c 98 (ok_putfieldF (idx := 26) (N := 16) (T := TX6) tyX6_ok nmX6 rfl rfl inTb6 (by decide) rfl rfl rfl rfl wd_t_610 (by decide +kernel) rfl) ?_
  refine hAllOk.c 99 (ok_no) ?_
  refine hAllOk.c 100 (ok_no) ?_
  refine hAllOk.c 101 (ok_aload_n (f := 0) rfl (by decide +kernel) rfl) ?_
  refine hAllOk.c 102 (ok_bipush (n := 9) (by decide +kernel) (by decide +kernel) rfl) ?_
  refine hAllOk.c 103 (ok_no) ?_
  refine hAllOk.c 104 (ok_newarray (by decide) wd_t_651 (by decide +kernel) rfl) ?_
  refine hAllOk.c 105 (ok_no) ?_
  refine hAllOk.c 106 (ok_putfieldF (idx := 29) (N := 16) (T := TX6) tyX6_ok nmX6 rfl rfl inTb6 (by decide) rfl rfl rfl rfl wd_t_613 (by decide +kernel) rfl) ?_
  refine hAllOk.c 107 (ok_no) ?_
  refine hAllOk.c 108 (ok_no) ?_
  refine hAllOk.c 109 (ok_aload_n (f := 0) rfl (by decide +kernel) rfl) ?_
  refine hAllOk.c 110 (ok_bipush (n := 9) (by decide +kernel) (by decide +kernel) rfl) ?_
  refine hAllOk.c 111 (ok_no) ?_
  refine hAllOk.c 112 (ok_newarray (by decide) wd_t_651 (by decide +kernel) rfl) ?_
  refine hAllOk.c 113 (ok_no) ?_
  refine hAllOk.c 114 (ok_putfieldF (idx := 33) (N := 16) (T := TX6) tyX6_ok nmX6 rfl rfl inTb6 (by decide) rfl rfl rfl rfl wd_t_614 (by decide +kernel) rfl) ?_
  refine hAllOk.c 115 (ok_no) ?_
  refine hAllOk.c 116 (ok_no) ?_
  refine hAllOk.c 117 (ok_aload_n (f := 0) rfl (by decide +kernel) rfl) ?_
  refine hAllOk.c 118 (ok_bipush (n := 12) (by decide +kernel) (by decide +kernel) rfl) ?_
  refine hAllOk.c 119 (ok_no) ?_
  refine hAllOk.c 120 (ok_newarray (by decide) wd_t_74 (by decide +kernel) rfl) ?_
  refine hAllOk.c 121 (ok_no) ?_
  refine hAllOk.c 122 (ok_putfieldF (idx := 36) (N := 16) (T := TX6) tyX6_ok nmX6 rfl rfl inTb6 (by decide) rfl rfl rfl rfl wd_t_615 (by decide +kernel) rfl) ?_
  refine hAllOk.c 123 (ok_no) ?_
  refine hAllOk.c 124 (ok_no) ?_
  refine hAllOk.c 125 (ok_aload_n (f := 0) rfl (by decide +kernel) rfl) ?_
  refine hAllOk.c 126 (ok_bipush (n := 12) (by decide +kernel) (by decide +kernel) rfl) ?_
  refine hAllOk.c 127 (ok_no) ?_
  refine hAllOk.c 128 (ok_newarray (by decide) wd_t_74 (by decide +kernel) rfl) ?_
  refine hAllOk.c 129 (ok_no) ?_
  refine hAllOk.c 130 (ok_putfieldF (idx := 39) (N := 16) (T := TX6) tyX6_ok nmX6 rfl rfl inTb6 (by decide) rfl rfl rfl rfl wd_t_616 (by decide +kernel) rfl) ?_
  refine hAllOk.c 131 (ok_no) ?_
  refine hAllOk.c 132 (ok_no) ?_
  refine hAllOk.c 133 (ok_aload_n (f := 0) rfl (by decide +kernel) rfl) ?_
  refine hAllOk.c 134 (ok_getfield (idx := 7) (N := 16) (T := TX6) rfl inTb6 (by decide) rfl wd_t_602 (by decide +kernel) rfl) ?_
  refine hAllOk.c 135 (ok_no) ?_
  refine hAllOk.c 136 (ok_no) ?_
  refine hAllOk.c 137 (ok_iconst (n := 2) (by decide +kernel) (by decide +kernel) rfl) ?_
  refine hAllOk.c 138 (ok_sipush (n := 10000) (by decide +kernel) (by decide +kernel) rfl) ?_
  refine hAllOk.c 139 (ok_no) ?_
  refine hAllOk.c 140 (ok_no) ?_
  refine hAllOk.c 141 (ok_iastore (by decide +kernel) rfl) ?_
  refine hAllOk.c 142 (ok_aload_n (f := 0) rfl (by decide +kernel) rfl) ?_
  refine hAllOk.c 143 (ok_getfield (idx := 7) (N := 16) (T := TX6) rfl inTb6 (by decide) rfl wd_t_602 (by decide +kernel) rfl) ?_
  refine hAllOk.c 144 (ok_no) ?_
  refine hAllOk.c 145 (ok_no) ?_
  refine hAllOk.c 146 (ok_iconst (n := 3) (by decide +kernel) (by decide +kernel) rfl) ?_
  refine hAllOk.c 147 (ok_sipush (n := 500) (by decide +kernel) (by decide +kernel) rfl) ?_
  refine hAllOk.c 148 (ok_no) ?_
  refine hAllOk.c 149 (ok_no) ?_
  refine hAllOk.c 150 (ok_iastore (by decide +kernel) rfl) ?_
  refine hAllOk.c 151 (ok_aload_n (f := 0) rfl (by decide +kernel) rfl) ?_
  refine hAllOk.c 152 (ok_getfield (idx := 7) (N := 16) (T := TX6) rfl inTb6 (by decide) rfl wd_t_602 (by decide +kernel) rfl) ?_
  refine hAllOk.c 153 (ok_no) ?_
  refine hAllOk.c 154 (ok_no) ?_
  refine hAllOk.c 155 (ok_iconst (n := 4) (by decide +kernel) (by decide +kernel) rfl) ?_
  refine hAllOk.c 156 (ok_bipush (n := 12) (by decide +kernel) (by decide +kernel) rfl) ?_
  refine hAllOk.c 157 (ok_no) ?_
  refine hAllOk.c 158 (ok_iastore (by decide +kernel) rfl) ?_
  refine hAllOk.c 159 (ok_aload_n (f := 0) rfl (by decide +kernel) rfl) ?_
  refine hAllOk.c 160 (ok_getfield (idx := 7) (N := 16) (T := TX6) rfl inTb6 (by decide) rfl wd_t_602 (by decide +kernel) rfl) ?_
  refine hAllOk.c 161 (ok_no) ?_
  refine hAllOk.c 162 (ok_no) ?_
  refine hAllOk.c 163 (ok_iconst (n := 5) (by decide +kernel) (by decide +kernel) rfl) ?_
  refine hAllOk.c 164 (ok_bipush (n := 10) (by decide +kernel) (by decide +kernel) rfl) ?_
  refine hAllOk.c 165 (ok_no) ?_
  refine hAllOk.c 166 (ok_iastore (by decide +kernel) rfl) ?_
  refine hAllOk.c 167 (ok_aload_n (f := 0) rfl (by decide +kernel) rfl) ?_
  refine hAllOk.c 168 (ok_getfield (idx := 7) (N := 16) (T := TX6) rfl inTb6 (by decide) rfl wd_t_602 (by decide +kernel) rfl) ?_
  refine hAllOk.c 169 (ok_no) ?_
  refine hAllOk.c 170 (ok_no) ?_
  refine hAllOk.c 171 (ok_bipush (n := 6) (by decide +kernel) (by decide +kernel) rfl) ?_
  refine hAllOk.c 172 (ok_no) ?_
  refine hAllOk.c 173 (ok_sipush (n := 200) (by decide +kernel) (by decide +kernel) rfl) ?_
  refine hAllOk.c 174 (ok_no) ?_
  refine hAllOk.c 175 (ok_no) ?_
  refine hAllOk.c 176 (ok_iastore (by decide +kernel) rfl) ?_
  refine hAllOk.c 177 (ok_return rfl (by decide +kernel)) ?_
  trivial
def M_Mo_in : hM := (yX6_in, prog_8_method_3_code, 3, (some .boolean), 0, 0)
def code_Mo_in (K : hK) (B : Nat × Nat) (Q : hPost) : List hSem := [x_iload 1 0, x_iload 2 1, x_iclt 14 5, x_no, x_no, x_iload 6 0, x_iload 7 2, x_icgt 14 10, x_no, x_no, x_const 11 (1), x_goto 15, x_no, x_no, x_const 15 (0), x_ireturn (some .boolean) Q]
set_option maxRecDepth 100000 in
set_option maxHeartbeats 4000000 in
theorem okc_Mo_in (K : hK) (B : Nat × Nat) (Q : hPost) : hAllOk (hJ K M_Mo_in B Q) 0 (code_Mo_in K B Q) := by
  refine hAllOk.c 0 (ok_iload_n (f := 0) rfl (by decide +kernel) rfl) ?_
  refine hAllOk.c 1 (ok_iload_n (f := 1) rfl (by decide +kernel) rfl) ?_
  refine hAllOk.c 2 (ok_iclt (off := 12) (by decide +kernel) (by decide +kernel) rfl) ?_
  refine hAllOk.c 3 (ok_no) ?_
  refine hAllOk.c 4 (ok_no) ?_
  refine hAllOk.c 5 (ok_iload_n (f := 0) rfl (by decide +kernel) rfl) ?_
  refine hAllOk.c 6 (ok_iload_n (f := 2) rfl (by decide +kernel) rfl) ?_
  refine hAllOk.c 7 (ok_icgt (off := 7) (by decide +kernel) (by decide +kernel) rfl) ?_
  refine hAllOk.c 8 (ok_no) ?_
  refine hAllOk.c 9 (ok_no) ?_
  refine hAllOk.c 10 (ok_iconst (n := 1) (by decide +kernel) (by decide +kernel) rfl) ?_
  refine hAllOk.c 11 (ok_goto (off := 4) (by decide +kernel) (by decide +kernel)) ?_
  refine hAllOk.c 12 (ok_no) ?_
  refine hAllOk.c 13 (ok_no) ?_
  refine hAllOk.c 14 (ok_iconst (n := 0) (by decide +kernel) (by decide +kernel) rfl) ?_
  refine hAllOk.c 15 (ok_ireturn (by decide +kernel)) ?_
  trivial
def M_Mo_isFixed : hM := (yX6_isFixed, prog_8_method_8_code, 1, (some .boolean), 0, 0)
def code_Mo_isFixed (K : hK) (B : Nat × Nat) (Q : hPost) : List hSem := [x_aload 1 0, x_getfield 4 6 0, x_no, x_no, x_const 6 (7), x_no, x_iaload K 7, x_const 8 (1), x_icne 15 11, x_no, x_no, x_const 12 (1), x_goto 16, x_no, x_no, x_const 16 (0), x_ireturn (some .boolean) Q]
set_option maxRecDepth 100000 in
set_option maxHeartbeats 4000000 in
theorem okc_Mo_isFixed (K : hK) (B : Nat × Nat) (Q : hPost) : hAllOk (hJ K M_Mo_isFixed B Q) 0 (code_Mo_isFixed K B Q) := by
  refine hAllOk.c 0 (ok_aload_n (f := 0) rfl (by decide +kernel) rfl) ?_
  refine hAllOk.c 1 (ok_getfield (idx := 7) (N := 16) (T := TX6) rfl inTb6 (by decide) rfl wd_t_602 (by decide +kernel) rfl) ?_
  refine hAllOk.c 2 (ok_no) ?_
  refine hAllOk.c 3 (ok_no) ?_
  refine hAllOk.c 4 (ok_bipush (n := 7) (by decide +kernel) (by decide +kernel) rfl) ?_
  refine hAllOk.c 5 (ok_no) ?_
  refine hAllOk.c 6 (ok_iaload (by decide +kernel) rfl) ?_
  refine hAllOk.c 7 (ok_iconst (n := 1) (by decide +kernel) (by decide +kernel) rfl) ?_
  refine hAllOk.c 8 (ok_icne (off := 7) (by decide +kernel) (by decide +kernel) rfl) ?_
  refine hAllOk.c 9 (ok_no) ?_
  refine hAllOk.c 10 (ok_no) ?_
  refine hAllOk.c 11 (ok_iconst (n := 1) (by decide +kernel) (by decide +kernel) rfl) ?_
  refine hAllOk.c 12 (ok_goto (off := 4) (by decide +kernel) (by decide +kernel)) ?_
  refine hAllOk.c 13 (ok_no) ?_
  refine hAllOk.c 14 (ok_no) ?_
  refine hAllOk.c 15 (ok_iconst (n := 0) (by decide +kernel) (by decide +kernel) rfl) ?_
  refine hAllOk.c 16 (ok_ireturn (by decide +kernel)) ?_
  trivial
theorem wd_t_604 : Cond.fieldLink RX6 42 RX6 "states" "I" ∈ hTb := hTb_t (List.mem_of_getElem? (i := 604) (by decide +kernel)) (by decide +kernel)
def M_Mo_record : hM := (yX6_record, prog_8_method_6_code, 2, none, 0, 0)
def code_Mo_record (K : hK) (B : Nat × Nat) (Q : hPost) : List hSem := [x_aload 1 0, x_getfield 4 6 2, x_no, x_no, x_const 5 (4), x_icne 49 8, x_no, x_no, x_const 9 (0), x_istore 10 1, x_iload 11 1, x_const 14 (4941), x_no, x_no, x_icge 39 17, x_no, x_no, x_aload 18 0, x_getfield 21 6 1, x_no, x_no, x_iload 22 1, x_aload 23 0, x_getfield 26 6 1, x_no, x_no, x_iload 27 1, x_const 30 (1647), x_no, x_no, x_iadd 31, x_iaload K 32, x_iastore K 33, x_iinc 36 1 (1), x_no, x_no, x_goto 10, x_no, x_no, x_aload 40 0, x_dup 41, x_getfield 44 6 2, x_no, x_no, x_const 45 (1), x_isub 46, x_putfield 49 6 2 (.int), x_no, x_no, x_const 50 (0), x_istore 51 1, x_iload 52 1, x_const 55 (1647), x_no, x_no, x_icge 85 58, x_no, x_no, x_aload 59 0, x_getfield 62 6 1, x_no, x_no, x_const 65 (1647), x_no, x_no, x_aload 66 0, x_getfield 69 6 2, x_no, x_no, x_imul 70, x_iload 71 1, x_iadd 72, x_aload 73 0, x_getfield 76 6 0, x_no, x_no, x_iload 77 1, x_iaload K 78, x_iastore K 79, x_iinc 82 1 (1), x_no, x_no, x_goto 51, x_no, x_no, x_aload 86 0, x_dup 87, x_getfield 90 6 2, x_no, x_no, x_const 91 (1), x_iadd 92, x_putfield 95 6 2 (.int), x_no, x_no, x_return Q]
set_option maxRecDepth 100000 in
set_option maxHeartbeats 4000000 in
theorem okc_Mo_record (K : hK) (B : Nat × Nat) (Q : hPost) : hAllOk (hJ K M_Mo_record B Q) 0 (code_Mo_record K B Q) := by
  refine hAllOk.c 0 (ok_aload_n (f := 0) rfl (by decide +kernel) rfl) ?_
  refine hAllOk.c 1 (ok_getfield (idx := 42) (N := 16) (T := TX6) rfl inTb6 (by decide) rfl wd_t_604 (by decide +kernel) rfl) ?_
  refine hAllOk.c 2 (ok_no) ?_
  refine hAllOk.c 3 (ok_no) ?_
  refine hAllOk.c 4 (ok_iconst (n := 4) (by decide +kernel) (by decide +kernel) rfl) ?_
  refine hAllOk.c 5 (ok_icne (off := 44) (by decide +kernel) (by decide +kernel) rfl) ?_
  refine hAllOk.c 6 (ok_no) ?_
  refine hAllOk.c 7 (ok_no) ?_
  refine hAllOk.c 8 (ok_iconst (n := 0) (by decide +kernel) (by decide +kernel) rfl) ?_
  refine hAllOk.c 9 (ok_istore_n (f := 1) rfl (by decide) (by decide +kernel) rfl) ?_
  refine hAllOk.c 10 (ok_iload_n (f := 1) rfl (by decide +kernel) rfl) ?_
  refine hAllOk.c 11 (ok_sipush (n := 4941) (by decide +kernel) (by decide +kernel) rfl) ?_
  refine hAllOk.c 12 (ok_no) ?_
  refine hAllOk.c 13 (ok_no) ?_
  refine hAllOk.c 14 (ok_icge (off := 25) (by decide +kernel) (by decide +kernel) rfl) ?_
  refine hAllOk.c 15 (ok_no) ?_
  refine hAllOk.c 16 (ok_no) ?_
  refine hAllOk.c 17 (ok_aload_n (f := 0) rfl (by decide +kernel) rfl) ?_
  refine hAllOk.c 18 (ok_getfield (idx := 13) (N := 16) (T := TX6) rfl inTb6 (by decide) rfl wd_t_603 (by decide +kernel) rfl) ?_
  refine hAllOk.c 19 (ok_no) ?_
  refine hAllOk.c 20 (ok_no) ?_
  refine hAllOk.c 21 (ok_iload_n (f := 1) rfl (by decide +kernel) rfl) ?_
  refine hAllOk.c 22 (ok_aload_n (f := 0) rfl (by decide +kernel) rfl) ?_
  refine hAllOk.c 23 (ok_getfield (idx := 13) (N := 16) (T := TX6) rfl inTb6 (by decide) rfl wd_t_603 (by decide +kernel) rfl) ?_
  refine hAllOk.c 24 (ok_no) ?_
  refine hAllOk.c 25 (ok_no) ?_
  refine hAllOk.c 26 (ok_iload_n (f := 1) rfl (by decide +kernel) rfl) ?_
  refine hAllOk.c 27 (ok_sipush (n := 1647) (by decide +kernel) (by decide +kernel) rfl) ?_
  refine hAllOk.c 28 (ok_no) ?_
  refine hAllOk.c 29 (ok_no) ?_
  refine hAllOk.c 30 (ok_iadd (by decide +kernel) rfl) ?_
  refine hAllOk.c 31 (ok_iaload (by decide +kernel) rfl) ?_
  refine hAllOk.c 32 (ok_iastore (by decide +kernel) rfl) ?_
  refine hAllOk.c 33 (ok_iinc (n := 1) (by decide +kernel) (by decide) (by decide +kernel) rfl) ?_
  refine hAllOk.c 34 (ok_no) ?_
  refine hAllOk.c 35 (ok_no) ?_
  refine hAllOk.c 36 (ok_goto (off := (-26)) (by decide +kernel) (by decide +kernel)) ?_
  refine hAllOk.c 37 (ok_no) ?_
  refine hAllOk.c 38 (ok_no) ?_
  refine hAllOk.c 39 (ok_aload_n (f := 0) rfl (by decide +kernel) rfl) ?_
  refine hAllOk.c 40 (ok_dup (by decide +kernel) rfl) ?_
  refine hAllOk.c 41 (ok_getfield (idx := 42) (N := 16) (T := TX6) rfl inTb6 (by decide) rfl wd_t_604 (by decide +kernel) rfl) ?_
  refine hAllOk.c 42 (ok_no) ?_
  refine hAllOk.c 43 (ok_no) ?_
  refine hAllOk.c 44 (ok_iconst (n := 1) (by decide +kernel) (by decide +kernel) rfl) ?_
  refine hAllOk.c 45 (ok_isub (by decide +kernel) rfl) ?_
  refine hAllOk.c 46 (ok_putfield (idx := 42) (N := 16) (T := TX6) tyX6_ok nmX6 rfl rfl inTb6 (by decide) rfl rfl wd_t_604 (by decide +kernel) rfl) ?_
  refine hAllOk.c 47 (ok_no) ?_
  refine hAllOk.c 48 (ok_no) ?_
  refine hAllOk.c 49 (ok_iconst (n := 0) (by decide +kernel) (by decide +kernel) rfl) ?_
  refine hAllOk.c 50 (ok_istore_n (f := 1) rfl (by decide) (by decide +kernel) rfl) ?_
  refine hAllOk.c 51 (ok_iload_n (f := 1) rfl (by decide +kernel) rfl) ?_
  refine hAllOk.c 52 (ok_sipush (n := 1647) (by decide +kernel) (by decide +kernel) rfl) ?_
  refine hAllOk.c 53 (ok_no) ?_
  refine hAllOk.c 54 (ok_no) ?_
  refine hAllOk.c 55 (ok_icge (off := 30) (by decide +kernel) (by decide +kernel) rfl) ?_
  refine hAllOk.c 56 (ok_no) ?_
  refine hAllOk.c 57 (ok_no) ?_
  refine hAllOk.c 58 (ok_aload_n (f := 0) rfl (by decide +kernel) rfl) ?_
  refine hAllOk.c 59 (ok_getfield (idx := 13) (N := 16) (T := TX6) rfl inTb6 (by decide) rfl wd_t_603 (by decide +kernel) rfl) ?_
  refine hAllOk.c 60 (ok_no) ?_
  refine hAllOk.c 61 (ok_no) ?_
  refine hAllOk.c 62 (ok_sipush (n := 1647) (by decide +kernel) (by decide +kernel) rfl) ?_
  refine hAllOk.c 63 (ok_no) ?_
  refine hAllOk.c 64 (ok_no) ?_
  refine hAllOk.c 65 (ok_aload_n (f := 0) rfl (by decide +kernel) rfl) ?_
  refine hAllOk.c 66 (ok_getfield (idx := 42) (N := 16) (T := TX6) rfl inTb6 (by decide) rfl wd_t_604 (by decide +kernel) rfl) ?_
  refine hAllOk.c 67 (ok_no) ?_
  refine hAllOk.c 68 (ok_no) ?_
  refine hAllOk.c 69 (ok_imul (by decide +kernel) rfl) ?_
  refine hAllOk.c 70 (ok_iload_n (f := 1) rfl (by decide +kernel) rfl) ?_
  refine hAllOk.c 71 (ok_iadd (by decide +kernel) rfl) ?_
  refine hAllOk.c 72 (ok_aload_n (f := 0) rfl (by decide +kernel) rfl) ?_
  refine hAllOk.c 73 (ok_getfield (idx := 7) (N := 16) (T := TX6) rfl inTb6 (by decide) rfl wd_t_602 (by decide +kernel) rfl) ?_
  refine hAllOk.c 74 (ok_no) ?_
  refine hAllOk.c 75 (ok_no) ?_
  refine hAllOk.c 76 (ok_iload_n (f := 1) rfl (by decide +kernel) rfl) ?_
  refine hAllOk.c 77 (ok_iaload (by decide +kernel) rfl) ?_
  refine hAllOk.c 78 (ok_iastore (by decide +kernel) rfl) ?_
  refine hAllOk.c 79 (ok_iinc (n := 1) (by decide +kernel) (by decide) (by decide +kernel) rfl) ?_
  refine hAllOk.c 80 (ok_no) ?_
  refine hAllOk.c 81 (ok_no) ?_
  refine hAllOk.c 82 (ok_goto (off := (-31)) (by decide +kernel) (by decide +kernel)) ?_
  refine hAllOk.c 83 (ok_no) ?_
  refine hAllOk.c 84 (ok_no) ?_
  refine hAllOk.c 85 (ok_aload_n (f := 0) rfl (by decide +kernel) rfl) ?_
  refine hAllOk.c 86 (ok_dup (by decide +kernel) rfl) ?_
  refine hAllOk.c 87 (ok_getfield (idx := 42) (N := 16) (T := TX6) rfl inTb6 (by decide) rfl wd_t_604 (by decide +kernel) rfl) ?_
  refine hAllOk.c 88 (ok_no) ?_
  refine hAllOk.c 89 (ok_no) ?_
  refine hAllOk.c 90 (ok_iconst (n := 1) (by decide +kernel) (by decide +kernel) rfl) ?_
  refine hAllOk.c 91 (ok_iadd (by decide +kernel) rfl) ?_
  refine hAllOk.c 92 (ok_putfield (idx := 42) (N := 16) (T := TX6) tyX6_ok nmX6 rfl rfl inTb6 (by decide) rfl rfl wd_t_604 (by decide +kernel) rfl) ?_
  refine hAllOk.c 93 (ok_no) ?_
  refine hAllOk.c 94 (ok_no) ?_
  refine hAllOk.c 95 (ok_return rfl (by decide +kernel)) ?_
  trivial
def M_Mo_at : hM := (yX6_at, prog_8_method_9_code, 2, (some .int), 0, 0)
def code_Mo_at (K : hK) (B : Nat × Nat) (Q : hPost) : List hSem := [x_const 2 (15), x_no, x_const 4 (8), x_no, x_iload 5 0, x_imul 6, x_iadd 7, x_iload 8 1, x_iadd 9, x_ireturn (some .int) Q]
set_option maxRecDepth 100000 in
set_option maxHeartbeats 4000000 in
theorem okc_Mo_at (K : hK) (B : Nat × Nat) (Q : hPost) : hAllOk (hJ K M_Mo_at B Q) 0 (code_Mo_at K B Q) := by
  refine hAllOk.c 0 (ok_bipush (n := 15) (by decide +kernel) (by decide +kernel) rfl) ?_
  refine hAllOk.c 1 (ok_no) ?_
  refine hAllOk.c 2 (ok_bipush (n := 8) (by decide +kernel) (by decide +kernel) rfl) ?_
  refine hAllOk.c 3 (ok_no) ?_
  refine hAllOk.c 4 (ok_iload_n (f := 0) rfl (by decide +kernel) rfl) ?_
  refine hAllOk.c 5 (ok_imul (by decide +kernel) rfl) ?_
  refine hAllOk.c 6 (ok_iadd (by decide +kernel) rfl) ?_
  refine hAllOk.c 7 (ok_iload_n (f := 1) rfl (by decide +kernel) rfl) ?_
  refine hAllOk.c 8 (ok_iadd (by decide +kernel) rfl) ?_
  refine hAllOk.c 9 (ok_ireturn (by decide +kernel)) ?_
  trivial
def M_Mo_allMeet : hM := (yX6_allMeet, prog_8_method_26_code, 3, none, 0, 0)
def code_Mo_allMeet (K : hK) (B : Nat × Nat) (Q : hPost) : List hSem := [x_const 1 (0), x_istore 2 2, x_iload 3 2, x_const 6 (128), x_no, x_no, x_icge 31 9, x_no, x_no, x_aload 10 0, x_getfield 13 6 0, x_no, x_no, x_const 15 (111), x_no, x_const 18 (128), x_no, x_no, x_iload 19 1, x_imul 20, x_iadd 21, x_iload 22 2, x_iadd 23, x_const 24 (-1), x_iastore K 25, x_iinc 28 2 (1), x_no, x_no, x_goto 2, x_no, x_no, x_return Q]
set_option maxRecDepth 100000 in
set_option maxHeartbeats 4000000 in
theorem okc_Mo_allMeet (K : hK) (B : Nat × Nat) (Q : hPost) : hAllOk (hJ K M_Mo_allMeet B Q) 0 (code_Mo_allMeet K B Q) := by
  refine hAllOk.c 0 (ok_iconst (n := 0) (by decide +kernel) (by decide +kernel) rfl) ?_
  refine hAllOk.c 1 (ok_istore_n (f := 2) rfl (by decide) (by decide +kernel) rfl) ?_
  refine hAllOk.c 2 (ok_iload_n (f := 2) rfl (by decide +kernel) rfl) ?_
  refine hAllOk.c 3 (ok_sipush (n := 128) (by decide +kernel) (by decide +kernel) rfl) ?_
  refine hAllOk.c 4 (ok_no) ?_
  refine hAllOk.c 5 (ok_no) ?_
  refine hAllOk.c 6 (ok_icge (off := 25) (by decide +kernel) (by decide +kernel) rfl) ?_
  refine hAllOk.c 7 (ok_no) ?_
  refine hAllOk.c 8 (ok_no) ?_
  refine hAllOk.c 9 (ok_aload_n (f := 0) rfl (by decide +kernel) rfl) ?_
  refine hAllOk.c 10 (ok_getfield (idx := 7) (N := 16) (T := TX6) rfl inTb6 (by decide) rfl wd_t_602 (by decide +kernel) rfl) ?_
  refine hAllOk.c 11 (ok_no) ?_
  refine hAllOk.c 12 (ok_no) ?_
  refine hAllOk.c 13 (ok_bipush (n := 111) (by decide +kernel) (by decide +kernel) rfl) ?_
  refine hAllOk.c 14 (ok_no) ?_
  refine hAllOk.c 15 (ok_sipush (n := 128) (by decide +kernel) (by decide +kernel) rfl) ?_
  refine hAllOk.c 16 (ok_no) ?_
  refine hAllOk.c 17 (ok_no) ?_
  refine hAllOk.c 18 (ok_iload_n (f := 1) rfl (by decide +kernel) rfl) ?_
  refine hAllOk.c 19 (ok_imul (by decide +kernel) rfl) ?_
  refine hAllOk.c 20 (ok_iadd (by decide +kernel) rfl) ?_
  refine hAllOk.c 21 (ok_iload_n (f := 2) rfl (by decide +kernel) rfl) ?_
  refine hAllOk.c 22 (ok_iadd (by decide +kernel) rfl) ?_
  refine hAllOk.c 23 (ok_iconst (n := -1) (by decide +kernel) (by decide +kernel) rfl) ?_
  refine hAllOk.c 24 (ok_iastore (by decide +kernel) rfl) ?_
  refine hAllOk.c 25 (ok_iinc (n := 1) (by decide +kernel) (by decide) (by decide +kernel) rfl) ?_
  refine hAllOk.c 26 (ok_no) ?_
  refine hAllOk.c 27 (ok_no) ?_
  refine hAllOk.c 28 (ok_goto (off := (-26)) (by decide +kernel) (by decide +kernel)) ?_
  refine hAllOk.c 29 (ok_no) ?_
  refine hAllOk.c 30 (ok_no) ?_
  refine hAllOk.c 31 (ok_return rfl (by decide +kernel)) ?_
  trivial
theorem wd_t_656 : Cond.methodLink RX6 46 yX6_in ∈ hTb := hTb_t (List.mem_of_getElem? (i := 656) (by decide +kernel)) (by decide +kernel)
theorem wd_t_658 : Cond.code yX6_in prog_8_method_3_code 3 (some .boolean) ∈ hTb := hTb_t (List.mem_of_getElem? (i := 658) (by decide +kernel)) (by decide +kernel)
theorem wd_t_7 : Cond.initialized RX6 ∈ hTb := hTb_t (List.mem_of_getElem? (i := 7) (by decide +kernel)) (by decide +kernel)
theorem wd_t_657 : Cond.static yX6_in ∈ hTb := hTb_t (List.mem_of_getElem? (i := 657) (by decide +kernel)) (by decide +kernel)
theorem wd_t_659 : Cond.methodLink RX6 113 yX6_isFixed ∈ hTb := hTb_t (List.mem_of_getElem? (i := 659) (by decide +kernel)) (by decide +kernel)
theorem wd_t_662 : Cond.code yX6_isFixed prog_8_method_8_code 1 (some .boolean) ∈ hTb := hTb_t (List.mem_of_getElem? (i := 662) (by decide +kernel)) (by decide +kernel)
theorem wd_t_661 : Cond.instanceMethod yX6_isFixed ∈ hTb := hTb_t (List.mem_of_getElem? (i := 661) (by decide +kernel)) (by decide +kernel)
theorem wd_s_50 : Cond.selects RX6 yX6_isFixed yX6_isFixed ∈ hTb := hTb_s (List.mem_of_getElem? (i := 50) (by decide +kernel)) (by decide +kernel)
theorem wd_t_663 : Cond.methodLink RX6 116 yX6_record ∈ hTb := hTb_t (List.mem_of_getElem? (i := 663) (by decide +kernel)) (by decide +kernel)
theorem wd_t_666 : Cond.code yX6_record prog_8_method_6_code 2 none ∈ hTb := hTb_t (List.mem_of_getElem? (i := 666) (by decide +kernel)) (by decide +kernel)
theorem wd_t_665 : Cond.instanceMethod yX6_record ∈ hTb := hTb_t (List.mem_of_getElem? (i := 665) (by decide +kernel)) (by decide +kernel)
theorem wd_s_51 : Cond.selects RX6 yX6_record yX6_record ∈ hTb := hTb_s (List.mem_of_getElem? (i := 51) (by decide +kernel)) (by decide +kernel)
theorem wd_t_667 : Cond.methodLink RX6 50 yX6_at ∈ hTb := hTb_t (List.mem_of_getElem? (i := 667) (by decide +kernel)) (by decide +kernel)
theorem wd_t_669 : Cond.code yX6_at prog_8_method_9_code 2 (some .int) ∈ hTb := hTb_t (List.mem_of_getElem? (i := 669) (by decide +kernel)) (by decide +kernel)
theorem wd_t_668 : Cond.static yX6_at ∈ hTb := hTb_t (List.mem_of_getElem? (i := 668) (by decide +kernel)) (by decide +kernel)
theorem wd_t_670 : Cond.methodLink RX6 119 yX6_allMeet ∈ hTb := hTb_t (List.mem_of_getElem? (i := 670) (by decide +kernel)) (by decide +kernel)
theorem wd_t_673 : Cond.code yX6_allMeet prog_8_method_26_code 3 none ∈ hTb := hTb_t (List.mem_of_getElem? (i := 673) (by decide +kernel)) (by decide +kernel)
theorem wd_t_672 : Cond.instanceMethod yX6_allMeet ∈ hTb := hTb_t (List.mem_of_getElem? (i := 672) (by decide +kernel)) (by decide +kernel)
theorem wd_s_52 : Cond.selects RX6 yX6_allMeet yX6_allMeet ∈ hTb := hTb_s (List.mem_of_getElem? (i := 52) (by decide +kernel)) (by decide +kernel)
def M_Mo_addGuest : hM := (yX6_addGuest, prog_8_method_27_code, 4, (some .int), 1, 22)
def code_Mo_addGuest (K : hK) (B : Nat × Nat) (Q : hPost) : List hSem := [x_iload 1 1, x_const 2 (0), x_const 4 (99999), x_no, x_callS K 7 M_Mo_in 3, x_no, x_no, x_ifeq 20 10, x_no, x_no, x_iload 11 2, x_const 12 (1), x_const 14 (9), x_no, x_callS K 17 M_Mo_in 3, x_no, x_no, x_ifne 23 20, x_no, x_no, x_const 22 (-2), x_no, x_ireturn (some .int) Q, x_aload 24 0, x_callV K 27 M_Mo_isFixed 6 0, x_no, x_no, x_ifeq 33 30, x_no, x_no, x_const 32 (-4), x_no, x_ireturn (some .int) Q, x_aload 34 0, x_getfield 37 6 0, x_no, x_no, x_const 38 (0), x_iaload K 39, x_const 41 (12), x_no, x_icne 47 44, x_no, x_no, x_const 46 (-3), x_no, x_ireturn (some .int) Q, x_aload 48 0, x_callV K 51 M_Mo_record 6 0, x_no, x_no, x_aload 52 0, x_getfield 55 6 0, x_no, x_no, x_const 56 (0), x_iaload K 57, x_istore 58 3, x_aload 59 0, x_getfield 62 6 0, x_no, x_no, x_iload 63 3, x_const 64 (0), x_callS K 67 M_Mo_at 2, x_no, x_no, x_iload 68 1, x_iastore K 69, x_aload 70 0, x_getfield 73 6 0, x_no, x_no, x_iload 74 3, x_const 75 (1), x_callS K 78 M_Mo_at 2, x_no, x_no, x_iload 79 2, x_iastore K 80, x_aload 81 0, x_getfield 84 6 0, x_no, x_no, x_iload 85 3, x_const 86 (2), x_callS K 89 M_Mo_at 2, x_no, x_no, x_const 90 (1), x_iastore K 91, x_aload 92 0, x_getfield 95 6 0, x_no, x_no, x_iload 96 3, x_const 98 (7), x_no, x_callS K 101 M_Mo_at 2, x_no, x_no, x_const 103 (-5), x_no, x_iastore K 104, x_aload 105 0, x_iload 106 3, x_callV K 109 M_Mo_allMeet 6 1, x_no, x_no, x_aload 110 0, x_getfield 113 6 0, x_no, x_no, x_const 114 (0), x_dup2 115, x_iaload K 116, x_const 117 (1), x_iadd 118, x_iastore K 119, x_iload 120 3, x_ireturn (some .int) Q]
set_option maxRecDepth 100000 in
set_option maxHeartbeats 4000000 in
theorem okc_Mo_addGuest (K : hK) (B : Nat × Nat) (Q : hPost) : hAllOk (hJ K M_Mo_addGuest B Q) 0 (code_Mo_addGuest K B Q) := by
  refine hAllOk.c 0 (ok_iload_n (f := 1) rfl (by decide +kernel) rfl) ?_
  refine hAllOk.c 1 (ok_iconst (n := 0) (by decide +kernel) (by decide +kernel) rfl) ?_
  refine hAllOk.c 2 (ok_ldc (i := 25) wd_t_601 (by decide +kernel) rfl) ?_
  refine hAllOk.c 3 (ok_no) ?_
  refine hAllOk.c 4 (ok_callS (idx := 46) ⟨wd_t_658, wd_t_7, by decide +kernel, by decide +kernel⟩ wd_t_656 wd_t_657 (by decide +kernel) rfl) ?_
  refine hAllOk.c 5 (ok_no) ?_
  refine hAllOk.c 6 (ok_no) ?_
  refine hAllOk.c 7 (ok_ifeq (off := 13) (by decide +kernel) (by decide +kernel) rfl) ?_
  refine hAllOk.c 8 (ok_no) ?_
  refine hAllOk.c 9 (ok_no) ?_
  refine hAllOk.c 10 (ok_iload_n (f := 2) rfl (by decide +kernel) rfl) ?_
  refine hAllOk.c 11 (ok_iconst (n := 1) (by decide +kernel) (by decide +kernel) rfl) ?_
  refine hAllOk.c 12 (ok_bipush (n := 9) (by decide +kernel) (by decide +kernel) rfl) ?_
  refine hAllOk.c 13 (ok_no) ?_
  refine hAllOk.c 14 (ok_callS (idx := 46) ⟨wd_t_658, wd_t_7, by decide +kernel, by decide +kernel⟩ wd_t_656 wd_t_657 (by decide +kernel) rfl) ?_
  refine hAllOk.c 15 (ok_no) ?_
  refine hAllOk.c 16 (ok_no) ?_
  refine hAllOk.c 17 (ok_ifne (off := 6) (by decide +kernel) (by decide +kernel) rfl) ?_
  refine hAllOk.c 18 (ok_no) ?_
  refine hAllOk.c 19 (ok_no) ?_
  refine hAllOk.c 20 (ok_bipush (n := -2) (by decide +kernel) (by decide +kernel) rfl) ?_
  refine hAllOk.c 21 (ok_no) ?_
  refine hAllOk.c 22 (ok_ireturn (by decide +kernel)) ?_
  refine hAllOk.c 23 (ok_aload_n (f := 0) rfl (by decide +kernel) rfl) ?_
  refine hAllOk.c 24 (ok_callV (idx := 113) ⟨wd_t_662, wd_t_7, by decide +kernel, by decide +kernel⟩ rfl rfl wd_t_659 wd_t_661 wd_s_50 (by decide +kernel) rfl) ?_
  refine hAllOk.c 25 (ok_no) ?_
  refine hAllOk.c 26 (ok_no) ?_
  refine hAllOk.c 27 (ok_ifeq (off := 6) (by decide +kernel) (by decide +kernel) rfl) ?_
  refine hAllOk.c 28 (ok_no) ?_
  refine hAllOk.c 29 (ok_no) ?_
  refine hAllOk.c 30 (ok_bipush (n := -4) (by decide +kernel) (by decide +kernel) rfl) ?_
  refine hAllOk.c 31 (ok_no) ?_
  refine hAllOk.c 32 (ok_ireturn (by decide +kernel)) ?_
  refine hAllOk.c 33 (ok_aload_n (f := 0) rfl (by decide +kernel) rfl) ?_
  refine hAllOk.c 34 (ok_getfield (idx := 7) (N := 16) (T := TX6) rfl inTb6 (by decide) rfl wd_t_602 (by decide +kernel) rfl) ?_
  refine hAllOk.c 35 (ok_no) ?_
  refine hAllOk.c 36 (ok_no) ?_
  refine hAllOk.c 37 (ok_iconst (n := 0) (by decide +kernel) (by decide +kernel) rfl) ?_
  refine hAllOk.c 38 (ok_iaload (by decide +kernel) rfl) ?_
  refine hAllOk.c 39 (ok_bipush (n := 12) (by decide +kernel) (by decide +kernel) rfl) ?_
  refine hAllOk.c 40 (ok_no) ?_
  refine hAllOk.c 41 (ok_icne (off := 6) (by decide +kernel) (by decide +kernel) rfl) ?_
  refine hAllOk.c 42 (ok_no) ?_
  refine hAllOk.c 43 (ok_no) ?_
  refine hAllOk.c 44 (ok_bipush (n := -3) (by decide +kernel) (by decide +kernel) rfl) ?_
  refine hAllOk.c 45 (ok_no) ?_
  refine hAllOk.c 46 (ok_ireturn (by decide +kernel)) ?_
  refine hAllOk.c 47 (ok_aload_n (f := 0) rfl (by decide +kernel) rfl) ?_
  refine hAllOk.c 48 (ok_callV (idx := 116) ⟨wd_t_666, wd_t_7, by decide +kernel, by decide +kernel⟩ rfl rfl wd_t_663 wd_t_665 wd_s_51 (by decide +kernel) rfl) ?_
  refine hAllOk.c 49 (ok_no) ?_
  refine hAllOk.c 50 (ok_no) ?_
  refine hAllOk.c 51 (ok_aload_n (f := 0) rfl (by decide +kernel) rfl) ?_
  refine hAllOk.c 52 (ok_getfield (idx := 7) (N := 16) (T := TX6) rfl inTb6 (by decide) rfl wd_t_602 (by decide +kernel) rfl) ?_
  refine hAllOk.c 53 (ok_no) ?_
  refine hAllOk.c 54 (ok_no) ?_
  refine hAllOk.c 55 (ok_iconst (n := 0) (by decide +kernel) (by decide +kernel) rfl) ?_
  refine hAllOk.c 56 (ok_iaload (by decide +kernel) rfl) ?_
  refine hAllOk.c 57 (ok_istore_n (f := 3) rfl (by decide) (by decide +kernel) rfl) ?_
  refine hAllOk.c 58 (ok_aload_n (f := 0) rfl (by decide +kernel) rfl) ?_
  refine hAllOk.c 59 (ok_getfield (idx := 7) (N := 16) (T := TX6) rfl inTb6 (by decide) rfl wd_t_602 (by decide +kernel) rfl) ?_
  refine hAllOk.c 60 (ok_no) ?_
  refine hAllOk.c 61 (ok_no) ?_
  refine hAllOk.c 62 (ok_iload_n (f := 3) rfl (by decide +kernel) rfl) ?_
  refine hAllOk.c 63 (ok_iconst (n := 0) (by decide +kernel) (by decide +kernel) rfl) ?_
  refine hAllOk.c 64 (ok_callS (idx := 50) ⟨wd_t_669, wd_t_7, by decide +kernel, by decide +kernel⟩ wd_t_667 wd_t_668 (by decide +kernel) rfl) ?_
  refine hAllOk.c 65 (ok_no) ?_
  refine hAllOk.c 66 (ok_no) ?_
  refine hAllOk.c 67 (ok_iload_n (f := 1) rfl (by decide +kernel) rfl) ?_
  refine hAllOk.c 68 (ok_iastore (by decide +kernel) rfl) ?_
  refine hAllOk.c 69 (ok_aload_n (f := 0) rfl (by decide +kernel) rfl) ?_
  refine hAllOk.c 70 (ok_getfield (idx := 7) (N := 16) (T := TX6) rfl inTb6 (by decide) rfl wd_t_602 (by decide +kernel) rfl) ?_
  refine hAllOk.c 71 (ok_no) ?_
  refine hAllOk.c 72 (ok_no) ?_
  refine hAllOk.c 73 (ok_iload_n (f := 3) rfl (by decide +kernel) rfl) ?_
  refine hAllOk.c 74 (ok_iconst (n := 1) (by decide +kernel) (by decide +kernel) rfl) ?_
  refine hAllOk.c 75 (ok_callS (idx := 50) ⟨wd_t_669, wd_t_7, by decide +kernel, by decide +kernel⟩ wd_t_667 wd_t_668 (by decide +kernel) rfl) ?_
  refine hAllOk.c 76 (ok_no) ?_
  refine hAllOk.c 77 (ok_no) ?_
  refine hAllOk.c 78 (ok_iload_n (f := 2) rfl (by decide +kernel) rfl) ?_
  refine hAllOk.c 79 (ok_iastore (by decide +kernel) rfl) ?_
  refine hAllOk.c 80 (ok_aload_n (f := 0) rfl (by decide +kernel) rfl) ?_
  refine hAllOk.c 81 (ok_getfield (idx := 7) (N := 16) (T := TX6) rfl inTb6 (by decide) rfl wd_t_602 (by decide +kernel) rfl) ?_
  refine hAllOk.c 82 (ok_no) ?_
  refine hAllOk.c 83 (ok_no) ?_
  refine hAllOk.c 84 (ok_iload_n (f := 3) rfl (by decide +kernel) rfl) ?_
  refine hAllOk.c 85 (ok_iconst (n := 2) (by decide +kernel) (by decide +kernel) rfl) ?_
  refine hAllOk.c 86 (ok_callS (idx := 50) ⟨wd_t_669, wd_t_7, by decide +kernel, by decide +kernel⟩ wd_t_667 wd_t_668 (by decide +kernel) rfl) ?_
  refine hAllOk.c 87 (ok_no) ?_
  refine hAllOk.c 88 (ok_no) ?_
  refine hAllOk.c 89 (ok_iconst (n := 1) (by decide +kernel) (by decide +kernel) rfl) ?_
  refine hAllOk.c 90 (ok_iastore (by decide +kernel) rfl) ?_
  refine hAllOk.c 91 (ok_aload_n (f := 0) rfl (by decide +kernel) rfl) ?_
  refine hAllOk.c 92 (ok_getfield (idx := 7) (N := 16) (T := TX6) rfl inTb6 (by decide) rfl wd_t_602 (by decide +kernel) rfl) ?_
  refine hAllOk.c 93 (ok_no) ?_
  refine hAllOk.c 94 (ok_no) ?_
  refine hAllOk.c 95 (ok_iload_n (f := 3) rfl (by decide +kernel) rfl) ?_
  refine hAllOk.c 96 (ok_bipush (n := 7) (by decide +kernel) (by decide +kernel) rfl) ?_
  refine hAllOk.c 97 (ok_no) ?_
  refine hAllOk.c 98 (ok_callS (idx := 50) ⟨wd_t_669, wd_t_7, by decide +kernel, by decide +kernel⟩ wd_t_667 wd_t_668 (by decide +kernel) rfl) ?_
  refine hAllOk.c 99 (ok_no) ?_
  refine hAllOk.c 100 (ok_no) ?_
  refine hAllOk.c 101 (ok_bipush (n := -5) (by decide +kernel) (by decide +kernel) rfl) ?_
  refine hAllOk.c 102 (ok_no) ?_
  refine hAllOk.c 103 (ok_iastore (by decide +kernel) rfl) ?_
  refine hAllOk.c 104 (ok_aload_n (f := 0) rfl (by decide +kernel) rfl) ?_
  refine hAllOk.c 105 (ok_iload_n (f := 3) rfl (by decide +kernel) rfl) ?_
  refine hAllOk.c 106 (ok_callV (idx := 119) ⟨wd_t_673, wd_t_7, by decide +kernel, by decide +kernel⟩ rfl rfl wd_t_670 wd_t_672 wd_s_52 (by decide +kernel) rfl) ?_
  refine hAllOk.c 107 (ok_no) ?_
  refine hAllOk.c 108 (ok_no) ?_
  refine hAllOk.c 109 (ok_aload_n (f := 0) rfl (by decide +kernel) rfl) ?_
  refine hAllOk.c 110 (ok_getfield (idx := 7) (N := 16) (T := TX6) rfl inTb6 (by decide) rfl wd_t_602 (by decide +kernel) rfl) ?_
  refine hAllOk.c 111 (ok_no) ?_
  refine hAllOk.c 112 (ok_no) ?_
  refine hAllOk.c 113 (ok_iconst (n := 0) (by decide +kernel) (by decide +kernel) rfl) ?_
  refine hAllOk.c 114 (ok_dup2 (by decide +kernel) rfl) ?_
  refine hAllOk.c 115 (ok_iaload (by decide +kernel) rfl) ?_
  refine hAllOk.c 116 (ok_iconst (n := 1) (by decide +kernel) (by decide +kernel) rfl) ?_
  refine hAllOk.c 117 (ok_iadd (by decide +kernel) rfl) ?_
  refine hAllOk.c 118 (ok_iastore (by decide +kernel) rfl) ?_
  refine hAllOk.c 119 (ok_iload_n (f := 3) rfl (by decide +kernel) rfl) ?_
  refine hAllOk.c 120 (ok_ireturn (by decide +kernel)) ?_
  trivial
def M_Mo_isGuest : hM := (yX6_isGuest, prog_8_method_7_code, 2, (some .boolean), 1, 22)
def code_Mo_isGuest (K : hK) (B : Nat × Nat) (Q : hPost) : List hSem := [x_iload 1 1, x_const 2 (0), x_aload 3 0, x_getfield 6 6 0, x_no, x_no, x_const 7 (0), x_iaload K 8, x_const 9 (1), x_isub 10, x_callS K 13 M_Mo_in 3, x_no, x_no, x_ireturn (some .boolean) Q]
set_option maxRecDepth 100000 in
set_option maxHeartbeats 4000000 in
theorem okc_Mo_isGuest (K : hK) (B : Nat × Nat) (Q : hPost) : hAllOk (hJ K M_Mo_isGuest B Q) 0 (code_Mo_isGuest K B Q) := by
  refine hAllOk.c 0 (ok_iload_n (f := 1) rfl (by decide +kernel) rfl) ?_
  refine hAllOk.c 1 (ok_iconst (n := 0) (by decide +kernel) (by decide +kernel) rfl) ?_
  refine hAllOk.c 2 (ok_aload_n (f := 0) rfl (by decide +kernel) rfl) ?_
  refine hAllOk.c 3 (ok_getfield (idx := 7) (N := 16) (T := TX6) rfl inTb6 (by decide) rfl wd_t_602 (by decide +kernel) rfl) ?_
  refine hAllOk.c 4 (ok_no) ?_
  refine hAllOk.c 5 (ok_no) ?_
  refine hAllOk.c 6 (ok_iconst (n := 0) (by decide +kernel) (by decide +kernel) rfl) ?_
  refine hAllOk.c 7 (ok_iaload (by decide +kernel) rfl) ?_
  refine hAllOk.c 8 (ok_iconst (n := 1) (by decide +kernel) (by decide +kernel) rfl) ?_
  refine hAllOk.c 9 (ok_isub (by decide +kernel) rfl) ?_
  refine hAllOk.c 10 (ok_callS (idx := 46) ⟨wd_t_658, wd_t_7, by decide +kernel, by decide +kernel⟩ wd_t_656 wd_t_657 (by decide +kernel) rfl) ?_
  refine hAllOk.c 11 (ok_no) ?_
  refine hAllOk.c 12 (ok_no) ?_
  refine hAllOk.c 13 (ok_ireturn (by decide +kernel)) ?_
  trivial
theorem wd_t_608 : Cond.fieldLink RX6 57 RX6 "length" "I" ∈ hTb := hTb_t (List.mem_of_getElem? (i := 608) (by decide +kernel)) (by decide +kernel)
def M_Mo_charAt : hM := (yX6_charAt, prog_8_method_13_code, 2, (some .int), 0, 0)
def code_Mo_charAt (K : hK) (B : Nat × Nat) (Q : hPost) : List hSem := [x_iload 1 1, x_aload 2 0, x_getfield 5 6 6, x_no, x_no, x_icge 17 8, x_no, x_no, x_aload 9 0, x_getfield 12 6 5, x_no, x_no, x_iload 13 1, x_iaload K 14, x_goto 18, x_no, x_no, x_const 18 (-1), x_ireturn (some .int) Q]
set_option maxRecDepth 100000 in
set_option maxHeartbeats 4000000 in
theorem okc_Mo_charAt (K : hK) (B : Nat × Nat) (Q : hPost) : hAllOk (hJ K M_Mo_charAt B Q) 0 (code_Mo_charAt K B Q) := by
  refine hAllOk.c 0 (ok_iload_n (f := 1) rfl (by decide +kernel) rfl) ?_
  refine hAllOk.c 1 (ok_aload_n (f := 0) rfl (by decide +kernel) rfl) ?_
  refine hAllOk.c 2 (ok_getfield (idx := 57) (N := 16) (T := TX6) rfl inTb6 (by decide) rfl wd_t_608 (by decide +kernel) rfl) ?_
  refine hAllOk.c 3 (ok_no) ?_
  refine hAllOk.c 4 (ok_no) ?_
  refine hAllOk.c 5 (ok_icge (off := 12) (by decide +kernel) (by decide +kernel) rfl) ?_
  refine hAllOk.c 6 (ok_no) ?_
  refine hAllOk.c 7 (ok_no) ?_
  refine hAllOk.c 8 (ok_aload_n (f := 0) rfl (by decide +kernel) rfl) ?_
  refine hAllOk.c 9 (ok_getfield (idx := 19) (N := 16) (T := TX6) rfl inTb6 (by decide) rfl wd_t_607 (by decide +kernel) rfl) ?_
  refine hAllOk.c 10 (ok_no) ?_
  refine hAllOk.c 11 (ok_no) ?_
  refine hAllOk.c 12 (ok_iload_n (f := 1) rfl (by decide +kernel) rfl) ?_
  refine hAllOk.c 13 (ok_iaload (by decide +kernel) rfl) ?_
  refine hAllOk.c 14 (ok_goto (off := 4) (by decide +kernel) (by decide +kernel)) ?_
  refine hAllOk.c 15 (ok_no) ?_
  refine hAllOk.c 16 (ok_no) ?_
  refine hAllOk.c 17 (ok_iconst (n := -1) (by decide +kernel) (by decide +kernel) rfl) ?_
  refine hAllOk.c 18 (ok_ireturn (by decide +kernel)) ?_
  trivial
theorem wd_t_611 : Cond.fieldLink RX6 54 RX6 "place" "I" ∈ hTb := hTb_t (List.mem_of_getElem? (i := 611) (by decide +kernel)) (by decide +kernel)
def M_Mo_isLetter : hM := (yX6_isLetter, prog_8_method_12_code, 1, (some .boolean), 1, 22)
def code_Mo_isLetter (K : hK) (B : Nat × Nat) (Q : hPost) : List hSem := [x_aload 1 0, x_getfield 4 6 9, x_no, x_no, x_aload 5 0, x_getfield 8 6 6, x_no, x_no, x_icge 34 11, x_no, x_no, x_aload 12 0, x_getfield 15 6 5, x_no, x_no, x_aload 16 0, x_getfield 19 6 9, x_no, x_no, x_iaload K 20, x_const 22 (97), x_no, x_const 24 (108), x_no, x_callS K 27 M_Mo_in 3, x_no, x_no, x_ifeq 34 30, x_no, x_no, x_const 31 (1), x_goto 35, x_no, x_no, x_const 35 (0), x_ireturn (some .boolean) Q]
set_option maxRecDepth 100000 in
set_option maxHeartbeats 4000000 in
theorem okc_Mo_isLetter (K : hK) (B : Nat × Nat) (Q : hPost) : hAllOk (hJ K M_Mo_isLetter B Q) 0 (code_Mo_isLetter K B Q) := by
  refine hAllOk.c 0 (ok_aload_n (f := 0) rfl (by decide +kernel) rfl) ?_
  refine hAllOk.c 1 (ok_getfield (idx := 54) (N := 16) (T := TX6) rfl inTb6 (by decide) rfl wd_t_611 (by decide +kernel) rfl) ?_
  refine hAllOk.c 2 (ok_no) ?_
  refine hAllOk.c 3 (ok_no) ?_
  refine hAllOk.c 4 (ok_aload_n (f := 0) rfl (by decide +kernel) rfl) ?_
  refine hAllOk.c 5 (ok_getfield (idx := 57) (N := 16) (T := TX6) rfl inTb6 (by decide) rfl wd_t_608 (by decide +kernel) rfl) ?_
  refine hAllOk.c 6 (ok_no) ?_
  refine hAllOk.c 7 (ok_no) ?_
  refine hAllOk.c 8 (ok_icge (off := 26) (by decide +kernel) (by decide +kernel) rfl) ?_
  refine hAllOk.c 9 (ok_no) ?_
  refine hAllOk.c 10 (ok_no) ?_
  refine hAllOk.c 11 (ok_aload_n (f := 0) rfl (by decide +kernel) rfl) ?_
  refine hAllOk.c 12 (ok_getfield (idx := 19) (N := 16) (T := TX6) rfl inTb6 (by decide) rfl wd_t_607 (by decide +kernel) rfl) ?_
  refine hAllOk.c 13 (ok_no) ?_
  refine hAllOk.c 14 (ok_no) ?_
  refine hAllOk.c 15 (ok_aload_n (f := 0) rfl (by decide +kernel) rfl) ?_
  refine hAllOk.c 16 (ok_getfield (idx := 54) (N := 16) (T := TX6) rfl inTb6 (by decide) rfl wd_t_611 (by decide +kernel) rfl) ?_
  refine hAllOk.c 17 (ok_no) ?_
  refine hAllOk.c 18 (ok_no) ?_
  refine hAllOk.c 19 (ok_iaload (by decide +kernel) rfl) ?_
  refine hAllOk.c 20 (ok_bipush (n := 97) (by decide +kernel) (by decide +kernel) rfl) ?_
  refine hAllOk.c 21 (ok_no) ?_
  refine hAllOk.c 22 (ok_bipush (n := 108) (by decide +kernel) (by decide +kernel) rfl) ?_
  refine hAllOk.c 23 (ok_no) ?_
  refine hAllOk.c 24 (ok_callS (idx := 46) ⟨wd_t_658, wd_t_7, by decide +kernel, by decide +kernel⟩ wd_t_656 wd_t_657 (by decide +kernel) rfl) ?_
  refine hAllOk.c 25 (ok_no) ?_
  refine hAllOk.c 26 (ok_no) ?_
  refine hAllOk.c 27 (ok_ifeq (off := 7) (by decide +kernel) (by decide +kernel) rfl) ?_
  refine hAllOk.c 28 (ok_no) ?_
  refine hAllOk.c 29 (ok_no) ?_
  refine hAllOk.c 30 (ok_iconst (n := 1) (by decide +kernel) (by decide +kernel) rfl) ?_
  refine hAllOk.c 31 (ok_goto (off := 4) (by decide +kernel) (by decide +kernel)) ?_
  refine hAllOk.c 32 (ok_no) ?_
  refine hAllOk.c 33 (ok_no) ?_
  refine hAllOk.c 34 (ok_iconst (n := 0) (by decide +kernel) (by decide +kernel) rfl) ?_
  refine hAllOk.c 35 (ok_ireturn (by decide +kernel)) ?_
  trivial
theorem wd_t_686 : Cond.methodLink RX6 60 yX6_charAt ∈ hTb := hTb_t (List.mem_of_getElem? (i := 686) (by decide +kernel)) (by decide +kernel)
theorem wd_t_689 : Cond.code yX6_charAt prog_8_method_13_code 2 (some .int) ∈ hTb := hTb_t (List.mem_of_getElem? (i := 689) (by decide +kernel)) (by decide +kernel)
theorem wd_t_688 : Cond.instanceMethod yX6_charAt ∈ hTb := hTb_t (List.mem_of_getElem? (i := 688) (by decide +kernel)) (by decide +kernel)
theorem wd_s_55 : Cond.selects RX6 yX6_charAt yX6_charAt ∈ hTb := hTb_s (List.mem_of_getElem? (i := 55) (by decide +kernel)) (by decide +kernel)
theorem wd_t_694 : Cond.methodLink RX6 64 yX6_isLetter ∈ hTb := hTb_t (List.mem_of_getElem? (i := 694) (by decide +kernel)) (by decide +kernel)
theorem wd_t_697 : Cond.code yX6_isLetter prog_8_method_12_code 1 (some .boolean) ∈ hTb := hTb_t (List.mem_of_getElem? (i := 697) (by decide +kernel)) (by decide +kernel)
theorem wd_t_696 : Cond.instanceMethod yX6_isLetter ∈ hTb := hTb_t (List.mem_of_getElem? (i := 696) (by decide +kernel)) (by decide +kernel)
theorem wd_s_57 : Cond.selects RX6 yX6_isLetter yX6_isLetter ∈ hTb := hTb_s (List.mem_of_getElem? (i := 57) (by decide +kernel)) (by decide +kernel)
theorem wd_t_612 : Cond.fieldLink RX6 68 RX6 "letters" "I" ∈ hTb := hTb_t (List.mem_of_getElem? (i := 612) (by decide +kernel)) (by decide +kernel)
def M_Mo_overAtom : hM := (yX6_overAtom, prog_8_method_14_code, 3, (some .boolean), 2, 42)
def code_Mo_overAtom (K : hK) (B : Nat × Nat) (Q : hPost) : List hSem := [x_aload 1 0, x_aload 2 0, x_getfield 5 6 9, x_no, x_no, x_callV K 8 M_Mo_charAt 6 1, x_no, x_no, x_istore 9 1, x_iload 10 1, x_const 12 (42), x_no, x_icne 27 15, x_no, x_no, x_aload 16 0, x_dup 17, x_getfield 20 6 9, x_no, x_no, x_const 21 (1), x_iadd 22, x_putfield 25 6 9 (.int), x_no, x_no, x_const 26 (1), x_ireturn (some .boolean) Q, x_aload 28 0, x_callV K 31 M_Mo_isLetter 6 0, x_no, x_no, x_ifeq 61 34, x_no, x_no, x_aload 35 0, x_dup 36, x_getfield 39 6 10, x_no, x_no, x_const 40 (1), x_iload 41 1, x_const 43 (97), x_no, x_isub 44, x_ishl 45, x_ior 46, x_putfield 49 6 10 (.int), x_no, x_no, x_aload 50 0, x_dup 51, x_getfield 54 6 9, x_no, x_no, x_const 55 (1), x_iadd 56, x_putfield 59 6 9 (.int), x_no, x_no, x_const 60 (1), x_ireturn (some .boolean) Q, x_iload 62 1, x_const 64 (35), x_no, x_icne 156 67, x_no, x_no, x_aload 68 0, x_dup 69, x_getfield 72 6 9, x_no, x_no, x_const 73 (1), x_iadd 74, x_putfield 77 6 9 (.int), x_no, x_no, x_aload 78 0, x_aload 79 0, x_getfield 82 6 9, x_no, x_no, x_callV K 85 M_Mo_charAt 6 1, x_no, x_no, x_const 87 (49), x_no, x_const 89 (57), x_no, x_callS K 92 M_Mo_in 3, x_no, x_no, x_ifne 97 95, x_no, x_no, x_const 96 (0), x_ireturn (some .boolean) Q, x_aload 98 0, x_dup 99, x_getfield 102 6 9, x_no, x_no, x_const 103 (1), x_iadd 104, x_putfield 107 6 9 (.int), x_no, x_no, x_aload 108 0, x_dup 109, x_getfield 112 6 9, x_no, x_no, x_aload 113 0, x_aload 114 0, x_getfield 117 6 9, x_no, x_no, x_const 118 (1), x_isub 119, x_callV K 122 M_Mo_charAt 6 1, x_no, x_no, x_const 124 (49), x_no, x_icne 149 127, x_no, x_no, x_aload 128 0, x_aload 129 0, x_getfield 132 6 9, x_no, x_no, x_callV K 135 M_Mo_charAt 6 1, x_no, x_no, x_const 137 (48), x_no, x_const 139 (50), x_no, x_callS K 142 M_Mo_in 3, x_no, x_no, x_ifeq 149 145, x_no, x_no, x_const 146 (1), x_goto 150, x_no, x_no, x_const 150 (0), x_iadd 151, x_putfield 154 6 9 (.int), x_no, x_no, x_const 155 (1), x_ireturn (some .boolean) Q, x_iload 157 1, x_const 159 (49), x_no, x_const 161 (57), x_no, x_callS K 164 M_Mo_in 3, x_no, x_no, x_ifne 169 167, x_no, x_no, x_const 168 (0), x_ireturn (some .boolean) Q, x_aload 170 0, x_dup 171, x_getfield 174 6 9, x_no, x_no, x_const 175 (1), x_iadd 176, x_putfield 179 6 9 (.int), x_no, x_no, x_aload 180 0, x_aload 181 0, x_getfield 184 6 9, x_no, x_no, x_callV K 187 M_Mo_charAt 6 1, x_no, x_no, x_const 189 (58), x_no, x_iceq 194 192, x_no, x_no, x_const 193 (0), x_ireturn (some .boolean) Q, x_aload 195 0, x_dup 196, x_getfield 199 6 9, x_no, x_no, x_const 200 (1), x_iadd 201, x_putfield 204 6 9 (.int), x_no, x_no, x_aload 205 0, x_getfield 208 6 9, x_no, x_no, x_istore 209 2, x_aload 210 0, x_callV K 213 M_Mo_isLetter 6 0, x_no, x_no, x_ifeq 252 216, x_no, x_no, x_aload 217 0, x_dup 218, x_getfield 221 6 10, x_no, x_no, x_const 222 (1), x_aload 223 0, x_getfield 226 6 5, x_no, x_no, x_aload 227 0, x_getfield 230 6 9, x_no, x_no, x_iaload K 231, x_const 233 (97), x_no, x_isub 234, x_ishl 235, x_ior 236, x_putfield 239 6 10 (.int), x_no, x_no, x_aload 240 0, x_dup 241, x_getfield 244 6 9, x_no, x_no, x_const 245 (1), x_iadd 246, x_putfield 249 6 9 (.int), x_no, x_no, x_goto 209, x_no, x_no, x_aload 253 0, x_getfield 256 6 9, x_no, x_no, x_iload 257 2, x_icle 264 260, x_no, x_no, x_const 261 (1), x_goto 265, x_no, x_no, x_const 265 (0), x_ireturn (some .boolean) Q]
set_option maxRecDepth 100000 in
set_option maxHeartbeats 4000000 in
theorem okc_Mo_overAtom (K : hK) (B : Nat × Nat) (Q : hPost) : hAllOk (hJ K M_Mo_overAtom B Q) 0 (code_Mo_overAtom K B Q) := by
  refine hAllOk.c 0 (ok_aload_n (f := 0) rfl (by decide +kernel) rfl) ?_
  refine hAllOk.c 1 (ok_aload_n (f := 0) rfl (by decide +kernel) rfl) ?_
  refine hAllOk.c 2 (ok_getfield (idx := 54) (N := 16) (T := TX6) rfl inTb6 (by decide) rfl wd_t_611 (by decide +kernel) rfl) ?_
  refine hAllOk.c 3 (ok_no) ?_
  refine hAllOk.c 4 (ok_no) ?_
  refine hAllOk.c 5 (ok_callV (idx := 60) ⟨wd_t_689, wd_t_7, by decide +kernel, by decide +kernel⟩ rfl rfl wd_t_686 wd_t_688 wd_s_55 (by decide +kernel) rfl) ?_
  refine hAllOk.c 6 (ok_no) ?_
  refine hAllOk.c 7 (ok_no) ?_
  refine hAllOk.c 8 (ok_istore_n (f := 1) rfl (by decide) (by decide +kernel) rfl) ?_
  refine hAllOk.c 9 (ok_iload_n (f := 1) rfl (by decide +kernel) rfl) ?_
  refine hAllOk.c 10 (ok_bipush (n := 42) (by decide +kernel) (by decide +kernel) rfl) ?_
  refine hAllOk.c 11 (ok_no) ?_
  refine hAllOk.c 12 (ok_icne (off := 15) (by decide +kernel) (by decide +kernel) rfl) ?_
  refine hAllOk.c 13 (ok_no) ?_
  refine hAllOk.c 14 (ok_no) ?_
  refine hAllOk.c 15 (ok_aload_n (f := 0) rfl (by decide +kernel) rfl) ?_
  refine hAllOk.c 16 (ok_dup (by decide +kernel) rfl) ?_
  refine hAllOk.c 17 (ok_getfield (idx := 54) (N := 16) (T := TX6) rfl inTb6 (by decide) rfl wd_t_611 (by decide +kernel) rfl) ?_
  refine hAllOk.c 18 (ok_no) ?_
  refine hAllOk.c 19 (ok_no) ?_
  refine hAllOk.c 20 (ok_iconst (n := 1) (by decide +kernel) (by decide +kernel) rfl) ?_
  refine hAllOk.c 21 (ok_iadd (by decide +kernel) rfl) ?_
  refine hAllOk.c 22 (ok_putfield (idx := 54) (N := 16) (T := TX6) tyX6_ok nmX6 rfl rfl inTb6 (by decide) rfl rfl wd_t_611 (by decide +kernel) rfl) ?_
  refine hAllOk.c 23 (ok_no) ?_
  refine hAllOk.c 24 (ok_no) ?_
  refine hAllOk.c 25 (ok_iconst (n := 1) (by decide +kernel) (by decide +kernel) rfl) ?_
  refine hAllOk.c 26 (ok_ireturn (by decide +kernel)) ?_
  refine hAllOk.c 27 (ok_aload_n (f := 0) rfl (by decide +kernel) rfl) ?_
  refine hAllOk.c 28 (ok_callV (idx := 64) ⟨wd_t_697, wd_t_7, by decide +kernel, by decide +kernel⟩ rfl rfl wd_t_694 wd_t_696 wd_s_57 (by decide +kernel) rfl) ?_
  refine hAllOk.c 29 (ok_no) ?_
  refine hAllOk.c 30 (ok_no) ?_
  refine hAllOk.c 31 (ok_ifeq (off := 30) (by decide +kernel) (by decide +kernel) rfl) ?_
  refine hAllOk.c 32 (ok_no) ?_
  refine hAllOk.c 33 (ok_no) ?_
  refine hAllOk.c 34 (ok_aload_n (f := 0) rfl (by decide +kernel) rfl) ?_
  refine hAllOk.c 35 (ok_dup (by decide +kernel) rfl) ?_
  refine hAllOk.c 36 (ok_getfield (idx := 68) (N := 16) (T := TX6) rfl inTb6 (by decide) rfl wd_t_612 (by decide +kernel) rfl) ?_
  refine hAllOk.c 37 (ok_no) ?_
  refine hAllOk.c 38 (ok_no) ?_
  refine hAllOk.c 39 (ok_iconst (n := 1) (by decide +kernel) (by decide +kernel) rfl) ?_
  refine hAllOk.c 40 (ok_iload_n (f := 1) rfl (by decide +kernel) rfl) ?_
  refine hAllOk.c 41 (ok_bipush (n := 97) (by decide +kernel) (by decide +kernel) rfl) ?_
  refine hAllOk.c 42 (ok_no) ?_
  refine hAllOk.c 43 (ok_isub (by decide +kernel) rfl) ?_
  refine hAllOk.c 44 (ok_ishl (by decide +kernel) rfl) ?_
  refine hAllOk.c 45 (ok_ior (by decide +kernel) rfl) ?_
  refine hAllOk.c 46 (ok_putfield (idx := 68) (N := 16) (T := TX6) tyX6_ok nmX6 rfl rfl inTb6 (by decide) rfl rfl wd_t_612 (by decide +kernel) rfl) ?_
  refine hAllOk.c 47 (ok_no) ?_
  refine hAllOk.c 48 (ok_no) ?_
  refine hAllOk.c 49 (ok_aload_n (f := 0) rfl (by decide +kernel) rfl) ?_
  refine hAllOk.c 50 (ok_dup (by decide +kernel) rfl) ?_
  refine hAllOk.c 51 (ok_getfield (idx := 54) (N := 16) (T := TX6) rfl inTb6 (by decide) rfl wd_t_611 (by decide +kernel) rfl) ?_
  refine hAllOk.c 52 (ok_no) ?_
  refine hAllOk.c 53 (ok_no) ?_
  refine hAllOk.c 54 (ok_iconst (n := 1) (by decide +kernel) (by decide +kernel) rfl) ?_
  refine hAllOk.c 55 (ok_iadd (by decide +kernel) rfl) ?_
  refine hAllOk.c 56 (ok_putfield (idx := 54) (N := 16) (T := TX6) tyX6_ok nmX6 rfl rfl inTb6 (by decide) rfl rfl wd_t_611 (by decide +kernel) rfl) ?_
  refine hAllOk.c 57 (ok_no) ?_
  refine hAllOk.c 58 (ok_no) ?_
  refine hAllOk.c 59 (ok_iconst (n := 1) (by decide +kernel) (by decide +kernel) rfl) ?_
  refine hAllOk.c 60 (ok_ireturn (by decide +kernel)) ?_
  refine hAllOk.c 61 (ok_iload_n (f := 1) rfl (by decide +kernel) rfl) ?_
  refine hAllOk.c 62 (ok_bipush (n := 35) (by decide +kernel) (by decide +kernel) rfl) ?_
  refine hAllOk.c 63 (ok_no) ?_
  refine hAllOk.c 64 (ok_icne (off := 92) (by decide +kernel) (by decide +kernel) rfl) ?_
  refine hAllOk.c 65 (ok_no) ?_
  refine hAllOk.c 66 (ok_no) ?_
  refine hAllOk.c 67 (ok_aload_n (f := 0) rfl (by decide +kernel) rfl) ?_
  refine hAllOk.c 68 (ok_dup (by decide +kernel) rfl) ?_
  refine hAllOk.c 69 (ok_getfield (idx := 54) (N := 16) (T := TX6) rfl inTb6 (by decide) rfl wd_t_611 (by decide +kernel) rfl) ?_
  refine hAllOk.c 70 (ok_no) ?_
  refine hAllOk.c 71 (ok_no) ?_
  refine hAllOk.c 72 (ok_iconst (n := 1) (by decide +kernel) (by decide +kernel) rfl) ?_
  refine hAllOk.c 73 (ok_iadd (by decide +kernel) rfl) ?_
  refine hAllOk.c 74 (ok_putfield (idx := 54) (N := 16) (T := TX6) tyX6_ok nmX6 rfl rfl inTb6 (by decide) rfl rfl wd_t_611 (by decide +kernel) rfl) ?_
  refine hAllOk.c 75 (ok_no) ?_
  refine hAllOk.c 76 (ok_no) ?_
  refine hAllOk.c 77 (ok_aload_n (f := 0) rfl (by decide +kernel) rfl) ?_
  refine hAllOk.c 78 (ok_aload_n (f := 0) rfl (by decide +kernel) rfl) ?_
  refine hAllOk.c 79 (ok_getfield (idx := 54) (N := 16) (T := TX6) rfl inTb6 (by decide) rfl wd_t_611 (by decide +kernel) rfl) ?_
  refine hAllOk.c 80 (ok_no) ?_
  refine hAllOk.c 81 (ok_no) ?_
  refine hAllOk.c 82 (ok_callV (idx := 60) ⟨wd_t_689, wd_t_7, by decide +kernel, by decide +kernel⟩ rfl rfl wd_t_686 wd_t_688 wd_s_55 (by decide +kernel) rfl) ?_
  refine hAllOk.c 83 (ok_no) ?_
  refine hAllOk.c 84 (ok_no) ?_
  refine hAllOk.c 85 (ok_bipush (n := 49) (by decide +kernel) (by decide +kernel) rfl) ?_
  refine hAllOk.c 86 (ok_no) ?_
  refine hAllOk.c 87 (ok_bipush (n := 57) (by decide +kernel) (by decide +kernel) rfl) ?_
  refine hAllOk.c 88 (ok_no) ?_
  refine hAllOk.c 89 (ok_callS (idx := 46) ⟨wd_t_658, wd_t_7, by decide +kernel, by decide +kernel⟩ wd_t_656 wd_t_657 (by decide +kernel) rfl) ?_
  refine hAllOk.c 90 (ok_no) ?_
  refine hAllOk.c 91 (ok_no) ?_
  refine hAllOk.c 92 (ok_ifne (off := 5) (by decide +kernel) (by decide +kernel) rfl) ?_
  refine hAllOk.c 93 (ok_no) ?_
  refine hAllOk.c 94 (ok_no) ?_
  refine hAllOk.c 95 (ok_iconst (n := 0) (by decide +kernel) (by decide +kernel) rfl) ?_
  refine hAllOk.c 96 (ok_ireturn (by decide +kernel)) ?_
  refine hAllOk.c 97 (ok_aload_n (f := 0) rfl (by decide +kernel) rfl) ?_
  refine hAllOk.c 98 (ok_dup (by decide +kernel) rfl) ?_
  refine hAllOk.c 99 (ok_getfield (idx := 54) (N := 16) (T := TX6) rfl inTb6 (by decide) rfl wd_t_611 (by decide +kernel) rfl) ?_
  refine hAllOk.c 100 (ok_no) ?_
  refine hAllOk.c 101 (ok_no) ?_
  refine hAllOk.c 102 (ok_iconst (n := 1) (by decide +kernel) (by decide +kernel) rfl) ?_
  refine hAllOk.c 103 (ok_iadd (by decide +kernel) rfl) ?_
  refine hAllOk.c 104 (ok_putfield (idx := 54) (N := 16) (T := TX6) tyX6_ok nmX6 rfl rfl inTb6 (by decide) rfl rfl wd_t_611 (by decide +kernel) rfl) ?_
  refine hAllOk.c 105 (ok_no) ?_
  refine hAllOk.c 106 (ok_no) ?_
  refine hAllOk.c 107 (ok_aload_n (f := 0) rfl (by decide +kernel) rfl) ?_
  refine hAllOk.c 108 (ok_dup (by decide +kernel) rfl) ?_
  refine hAllOk.c 109 (ok_getfield (idx := 54) (N := 16) (T := TX6) rfl inTb6 (by decide) rfl wd_t_611 (by decide +kernel) rfl) ?_
  refine hAllOk.c 110 (ok_no) ?_
  refine hAllOk.c 111 (ok_no) ?_
  refine hAllOk.c 112 (ok_aload_n (f := 0) rfl (by decide +kernel) rfl) ?_
  refine hAllOk.c 113 (ok_aload_n (f := 0) rfl (by decide +kernel) rfl) ?_
  refine hAllOk.c 114 (ok_getfield (idx := 54) (N := 16) (T := TX6) rfl inTb6 (by decide) rfl wd_t_611 (by decide +kernel) rfl) ?_
  refine hAllOk.c 115 (ok_no) ?_
  refine hAllOk.c 116 (ok_no) ?_
  refine hAllOk.c 117 (ok_iconst (n := 1) (by decide +kernel) (by decide +kernel) rfl) ?_
  refine hAllOk.c 118 (ok_isub (by decide +kernel) rfl) ?_
  refine hAllOk.c 119 (ok_callV (idx := 60) ⟨wd_t_689, wd_t_7, by decide +kernel, by decide +kernel⟩ rfl rfl wd_t_686 wd_t_688 wd_s_55 (by decide +kernel) rfl) ?_
  refine hAllOk.c 120 (ok_no) ?_
  refine hAllOk.c 121 (ok_no) ?_
  refine hAllOk.c 122 (ok_bipush (n := 49) (by decide +kernel) (by decide +kernel) rfl) ?_
  refine hAllOk.c 123 (ok_no) ?_
  refine hAllOk.c 124 (ok_icne (off := 25) (by decide +kernel) (by decide +kernel) rfl) ?_
  refine hAllOk.c 125 (ok_no) ?_
  refine hAllOk.c 126 (ok_no) ?_
  refine hAllOk.c 127 (ok_aload_n (f := 0) rfl (by decide +kernel) rfl) ?_
  refine hAllOk.c 128 (ok_aload_n (f := 0) rfl (by decide +kernel) rfl) ?_
  refine hAllOk.c 129 (ok_getfield (idx := 54) (N := 16) (T := TX6) rfl inTb6 (by decide) rfl wd_t_611 (by decide +kernel) rfl) ?_
  refine hAllOk.c 130 (ok_no) ?_
  refine hAllOk.c 131 (ok_no) ?_
  refine hAllOk.c 132 (ok_callV (idx := 60) ⟨wd_t_689, wd_t_7, by decide +kernel, by decide +kernel⟩ rfl rfl wd_t_686 wd_t_688 wd_s_55 (by decide +kernel) rfl) ?_
  refine hAllOk.c 133 (ok_no) ?_
  refine hAllOk.c 134 (ok_no) ?_
  refine hAllOk.c 135 (ok_bipush (n := 48) (by decide +kernel) (by decide +kernel) rfl) ?_
  refine hAllOk.c 136 (ok_no) ?_
  refine hAllOk.c 137 (ok_bipush (n := 50) (by decide +kernel) (by decide +kernel) rfl) ?_
  refine hAllOk.c 138 (ok_no) ?_
  refine hAllOk.c 139 (ok_callS (idx := 46) ⟨wd_t_658, wd_t_7, by decide +kernel, by decide +kernel⟩ wd_t_656 wd_t_657 (by decide +kernel) rfl) ?_
  refine hAllOk.c 140 (ok_no) ?_
  refine hAllOk.c 141 (ok_no) ?_
  refine hAllOk.c 142 (ok_ifeq (off := 7) (by decide +kernel) (by decide +kernel) rfl) ?_
  refine hAllOk.c 143 (ok_no) ?_
  refine hAllOk.c 144 (ok_no) ?_
  refine hAllOk.c 145 (ok_iconst (n := 1) (by decide +kernel) (by decide +kernel) rfl) ?_
  refine hAllOk.c 146 (ok_goto (off := 4) (by decide +kernel) (by decide +kernel)) ?_
  refine hAllOk.c 147 (ok_no) ?_
  refine hAllOk.c 148 (ok_no) ?_
  refine hAllOk.c 149 (ok_iconst (n := 0) (by decide +kernel) (by decide +kernel) rfl) ?_
  refine hAllOk.c 150 (ok_iadd (by decide +kernel) rfl) ?_
  refine hAllOk.c 151 (ok_putfield (idx := 54) (N := 16) (T := TX6) tyX6_ok nmX6 rfl rfl inTb6 (by decide) rfl rfl wd_t_611 (by decide +kernel) rfl) ?_
  refine hAllOk.c 152 (ok_no) ?_
  refine hAllOk.c 153 (ok_no) ?_
  refine hAllOk.c 154 (ok_iconst (n := 1) (by decide +kernel) (by decide +kernel) rfl) ?_
  refine hAllOk.c 155 (ok_ireturn (by decide +kernel)) ?_
  refine hAllOk.c 156 (ok_iload_n (f := 1) rfl (by decide +kernel) rfl) ?_
  refine hAllOk.c 157 (ok_bipush (n := 49) (by decide +kernel) (by decide +kernel) rfl) ?_
  refine hAllOk.c 158 (ok_no) ?_
  refine hAllOk.c 159 (ok_bipush (n := 57) (by decide +kernel) (by decide +kernel) rfl) ?_
  refine hAllOk.c 160 (ok_no) ?_
  refine hAllOk.c 161 (ok_callS (idx := 46) ⟨wd_t_658, wd_t_7, by decide +kernel, by decide +kernel⟩ wd_t_656 wd_t_657 (by decide +kernel) rfl) ?_
  refine hAllOk.c 162 (ok_no) ?_
  refine hAllOk.c 163 (ok_no) ?_
  refine hAllOk.c 164 (ok_ifne (off := 5) (by decide +kernel) (by decide +kernel) rfl) ?_
  refine hAllOk.c 165 (ok_no) ?_
  refine hAllOk.c 166 (ok_no) ?_
  refine hAllOk.c 167 (ok_iconst (n := 0) (by decide +kernel) (by decide +kernel) rfl) ?_
  refine hAllOk.c 168 (ok_ireturn (by decide +kernel)) ?_
  refine hAllOk.c 169 (ok_aload_n (f := 0) rfl (by decide +kernel) rfl) ?_
  refine hAllOk.c 170 (ok_dup (by decide +kernel) rfl) ?_
  refine hAllOk.c 171 (ok_getfield (idx := 54) (N := 16) (T := TX6) rfl inTb6 (by decide) rfl wd_t_611 (by decide +kernel) rfl) ?_
  refine hAllOk.c 172 (ok_no) ?_
  refine hAllOk.c 173 (ok_no) ?_
  refine hAllOk.c 174 (ok_iconst (n := 1) (by decide +kernel) (by decide +kernel) rfl) ?_
  refine hAllOk.c 175 (ok_iadd (by decide +kernel) rfl) ?_
  refine hAllOk.c 176 (ok_putfield (idx := 54) (N := 16) (T := TX6) tyX6_ok nmX6 rfl rfl inTb6 (by decide) rfl rfl wd_t_611 (by decide +kernel) rfl) ?_
  refine hAllOk.c 177 (ok_no) ?_
  refine hAllOk.c 178 (ok_no) ?_
  refine hAllOk.c 179 (ok_aload_n (f := 0) rfl (by decide +kernel) rfl) ?_
  refine hAllOk.c 180 (ok_aload_n (f := 0) rfl (by decide +kernel) rfl) ?_
  refine hAllOk.c 181 (ok_getfield (idx := 54) (N := 16) (T := TX6) rfl inTb6 (by decide) rfl wd_t_611 (by decide +kernel) rfl) ?_
  refine hAllOk.c 182 (ok_no) ?_
  refine hAllOk.c 183 (ok_no) ?_
  refine hAllOk.c 184 (ok_callV (idx := 60) ⟨wd_t_689, wd_t_7, by decide +kernel, by decide +kernel⟩ rfl rfl wd_t_686 wd_t_688 wd_s_55 (by decide +kernel) rfl) ?_
  refine hAllOk.c 185 (ok_no) ?_
  refine hAllOk.c 186 (ok_no) ?_
  refine hAllOk.c 187 (ok_bipush (n := 58) (by decide +kernel) (by decide +kernel) rfl) ?_
  refine hAllOk.c 188 (ok_no) ?_
  refine hAllOk.c 189 (ok_iceq (off := 5) (by decide +kernel) (by decide +kernel) rfl) ?_
  refine hAllOk.c 190 (ok_no) ?_
  refine hAllOk.c 191 (ok_no) ?_
  refine hAllOk.c 192 (ok_iconst (n := 0) (by decide +kernel) (by decide +kernel) rfl) ?_
  refine hAllOk.c 193 (ok_ireturn (by decide +kernel)) ?_
  refine hAllOk.c 194 (ok_aload_n (f := 0) rfl (by decide +kernel) rfl) ?_
  refine hAllOk.c 195 (ok_dup (by decide +kernel) rfl) ?_
  refine hAllOk.c 196 (ok_getfield (idx := 54) (N := 16) (T := TX6) rfl inTb6 (by decide) rfl wd_t_611 (by decide +kernel) rfl) ?_
  refine hAllOk.c 197 (ok_no) ?_
  refine hAllOk.c 198 (ok_no) ?_
  refine hAllOk.c 199 (ok_iconst (n := 1) (by decide +kernel) (by decide +kernel) rfl) ?_
  refine hAllOk.c 200 (ok_iadd (by decide +kernel) rfl) ?_
  refine hAllOk.c 201 (ok_putfield (idx := 54) (N := 16) (T := TX6) tyX6_ok nmX6 rfl rfl inTb6 (by decide) rfl rfl wd_t_611 (by decide +kernel) rfl) ?_
  refine hAllOk.c 202 (ok_no) ?_
  refine hAllOk.c 203 (ok_no) ?_
  refine hAllOk.c 204 (ok_aload_n (f := 0) rfl (by decide +kernel) rfl) ?_
  refine hAllOk.c 205 (ok_getfield (idx := 54) (N := 16) (T := TX6) rfl inTb6 (by decide) rfl wd_t_611 (by decide +kernel) rfl) ?_
  refine hAllOk.c 206 (ok_no) ?_
  refine hAllOk.c 207 (ok_no) ?_
  refine hAllOk.c 208 (ok_istore_n (f := 2) rfl (by decide) (by decide +kernel) rfl) ?_
  refine hAllOk.c 209 (ok_aload_n (f := 0) rfl (by decide +kernel) rfl) ?_
  refine hAllOk.c 210 (ok_callV (idx := 64) ⟨wd_t_697, wd_t_7, by decide +kernel, by decide +kernel⟩ rfl rfl wd_t_694 wd_t_696 wd_s_57 (by decide +kernel) rfl) ?_
  refine hAllOk.c 211 (ok_no) ?_
  refine hAllOk.c 212 (ok_no) ?_
  refine hAllOk.c 213 (ok_ifeq (off := 39) (by decide +kernel) (by decide +kernel) rfl) ?_
  refine hAllOk.c 214 (ok_no) ?_
  refine hAllOk.c 215 (ok_no) ?_
  refine hAllOk.c 216 (ok_aload_n (f := 0) rfl (by decide +kernel) rfl) ?_
  refine hAllOk.c 217 (ok_dup (by decide +kernel) rfl) ?_
  refine hAllOk.c 218 (ok_getfield (idx := 68) (N := 16) (T := TX6) rfl inTb6 (by decide) rfl wd_t_612 (by decide +kernel) rfl) ?_
  refine hAllOk.c 219 (ok_no) ?_
  refine hAllOk.c 220 (ok_no) ?_
  refine hAllOk.c 221 (ok_iconst (n := 1) (by decide +kernel) (by decide +kernel) rfl) ?_
  refine hAllOk.c 222 (ok_aload_n (f := 0) rfl (by decide +kernel) rfl) ?_
  refine hAllOk.c 223 (ok_getfield (idx := 19) (N := 16) (T := TX6) rfl inTb6 (by decide) rfl wd_t_607 (by decide +kernel) rfl) ?_
  refine hAllOk.c 224 (ok_no) ?_
  refine hAllOk.c 225 (ok_no) ?_
  refine hAllOk.c 226 (ok_aload_n (f := 0) rfl (by decide +kernel) rfl) ?_
  refine hAllOk.c 227 (ok_getfield (idx := 54) (N := 16) (T := TX6) rfl inTb6 (by decide) rfl wd_t_611 (by decide +kernel) rfl) ?_
  refine hAllOk.c 228 (ok_no) ?_
  refine hAllOk.c 229 (ok_no) ?_
  refine hAllOk.c 230 (ok_iaload (by decide +kernel) rfl) ?_
  refine hAllOk.c 231 (ok_bipush (n := 97) (by decide +kernel) (by decide +kernel) rfl) ?_
  refine hAllOk.c 232 (ok_no) ?_
  refine hAllOk.c 233 (ok_isub (by decide +kernel) rfl) ?_
  refine hAllOk.c 234 (ok_ishl (by decide +kernel) rfl) ?_
  refine hAllOk.c 235 (ok_ior (by decide +kernel) rfl) ?_
  refine hAllOk.c 236 (ok_putfield (idx := 68) (N := 16) (T := TX6) tyX6_ok nmX6 rfl rfl inTb6 (by decide) rfl rfl wd_t_612 (by decide +kernel) rfl) ?_
  refine hAllOk.c 237 (ok_no) ?_
  refine hAllOk.c 238 (ok_no) ?_
  refine hAllOk.c 239 (ok_aload_n (f := 0) rfl (by decide +kernel) rfl) ?_
  refine hAllOk.c 240 (ok_dup (by decide +kernel) rfl) ?_
  refine hAllOk.c 241 (ok_getfield (idx := 54) (N := 16) (T := TX6) rfl inTb6 (by decide) rfl wd_t_611 (by decide +kernel) rfl) ?_
  refine hAllOk.c 242 (ok_no) ?_
  refine hAllOk.c 243 (ok_no) ?_
  refine hAllOk.c 244 (ok_iconst (n := 1) (by decide +kernel) (by decide +kernel) rfl) ?_
  refine hAllOk.c 245 (ok_iadd (by decide +kernel) rfl) ?_
  refine hAllOk.c 246 (ok_putfield (idx := 54) (N := 16) (T := TX6) tyX6_ok nmX6 rfl rfl inTb6 (by decide) rfl rfl wd_t_611 (by decide +kernel) rfl) ?_
  refine hAllOk.c 247 (ok_no) ?_
  refine hAllOk.c 248 (ok_no) ?_
  refine hAllOk.c 249 (ok_goto (off := (-40)) (by decide +kernel) (by decide +kernel)) ?_
  refine hAllOk.c 250 (ok_no) ?_
  refine hAllOk.c 251 (ok_no) ?_
  refine hAllOk.c 252 (ok_aload_n (f := 0) rfl (by decide +kernel) rfl) ?_
  refine hAllOk.c 253 (ok_getfield (idx := 54) (N := 16) (T := TX6) rfl inTb6 (by decide) rfl wd_t_611 (by decide +kernel) rfl) ?_
  refine hAllOk.c 254 (ok_no) ?_
  refine hAllOk.c 255 (ok_no) ?_
  refine hAllOk.c 256 (ok_iload_n (f := 2) rfl (by decide +kernel) rfl) ?_
  refine hAllOk.c 257 (ok_icle (off := 7) (by decide +kernel) (by decide +kernel) rfl) ?_
  refine hAllOk.c 258 (ok_no) ?_
  refine hAllOk.c 259 (ok_no) ?_
  refine hAllOk.c 260 (ok_iconst (n := 1) (by decide +kernel) (by decide +kernel) rfl) ?_
  refine hAllOk.c 261 (ok_goto (off := 4) (by decide +kernel) (by decide +kernel)) ?_
  refine hAllOk.c 262 (ok_no) ?_
  refine hAllOk.c 263 (ok_no) ?_
  refine hAllOk.c 264 (ok_iconst (n := 0) (by decide +kernel) (by decide +kernel) rfl) ?_
  refine hAllOk.c 265 (ok_ireturn (by decide +kernel)) ?_
  trivial
theorem wd_t_690 : Cond.methodLink RX6 71 yX6_overAtom ∈ hTb := hTb_t (List.mem_of_getElem? (i := 690) (by decide +kernel)) (by decide +kernel)
theorem wd_t_693 : Cond.code yX6_overAtom prog_8_method_14_code 3 (some .boolean) ∈ hTb := hTb_t (List.mem_of_getElem? (i := 693) (by decide +kernel)) (by decide +kernel)
theorem wd_t_692 : Cond.instanceMethod yX6_overAtom ∈ hTb := hTb_t (List.mem_of_getElem? (i := 692) (by decide +kernel)) (by decide +kernel)
theorem wd_s_56 : Cond.selects RX6 yX6_overAtom yX6_overAtom ∈ hTb := hTb_s (List.mem_of_getElem? (i := 56) (by decide +kernel)) (by decide +kernel)
def M_Mo_fault : hM := (yX6_fault, prog_8_method_15_code, 2, (some .int), 3, 64)
def code_Mo_fault (K : hK) (B : Nat × Nat) (Q : hPost) : List hSem := [x_aload 1 0, x_const 2 (0), x_putfield 5 6 9 (.int), x_no, x_no, x_aload 6 0, x_const 7 (0), x_putfield 10 6 10 (.int), x_no, x_no, x_const 11 (0), x_istore 12 1, x_aload 13 0, x_aload 14 0, x_getfield 17 6 9, x_no, x_no, x_callV K 20 M_Mo_charAt 6 1, x_no, x_no, x_const 22 (40), x_no, x_icne 47 25, x_no, x_no, x_iload 26 1, x_const 28 (8), x_no, x_icge 47 31, x_no, x_no, x_iinc 34 1 (1), x_no, x_no, x_aload 35 0, x_dup 36, x_getfield 39 6 9, x_no, x_no, x_const 40 (1), x_iadd 41, x_putfield 44 6 9 (.int), x_no, x_no, x_goto 12, x_no, x_no, x_aload 48 0, x_callV K 51 M_Mo_overAtom 6 0, x_no, x_no, x_ifne 59 54, x_no, x_no, x_aload 55 0, x_getfield 58 6 9, x_no, x_no, x_ireturn (some .int) Q, x_iload 60 1, x_ifle 92 63, x_no, x_no, x_aload 64 0, x_aload 65 0, x_getfield 68 6 9, x_no, x_no, x_callV K 71 M_Mo_charAt 6 1, x_no, x_no, x_const 73 (41), x_no, x_icne 92 76, x_no, x_no, x_iinc 79 1 (-1), x_no, x_no, x_aload 80 0, x_dup 81, x_getfield 84 6 9, x_no, x_no, x_const 85 (1), x_iadd 86, x_putfield 89 6 9 (.int), x_no, x_no, x_goto 59, x_no, x_no, x_aload 93 0, x_getfield 96 6 9, x_no, x_no, x_aload 97 0, x_getfield 100 6 6, x_no, x_no, x_icne 116 103, x_no, x_no, x_iload 104 1, x_ifne 111 107, x_no, x_no, x_const 108 (-1), x_goto 115, x_no, x_no, x_aload 112 0, x_getfield 115 6 9, x_no, x_no, x_ireturn (some .int) Q, x_aload 117 0, x_aload 118 0, x_getfield 121 6 9, x_no, x_no, x_callV K 124 M_Mo_charAt 6 1, x_no, x_no, x_const 126 (124), x_no, x_iceq 147 129, x_no, x_no, x_aload 130 0, x_aload 131 0, x_getfield 134 6 9, x_no, x_no, x_callV K 137 M_Mo_charAt 6 1, x_no, x_no, x_const 139 (38), x_no, x_iceq 147 142, x_no, x_no, x_aload 143 0, x_getfield 146 6 9, x_no, x_no, x_ireturn (some .int) Q, x_aload 148 0, x_dup 149, x_getfield 152 6 9, x_no, x_no, x_const 153 (1), x_iadd 154, x_putfield 157 6 9 (.int), x_no, x_no, x_goto 12, x_no, x_no]
set_option maxRecDepth 100000 in
set_option maxHeartbeats 4000000 in
theorem okc_Mo_fault (K : hK) (B : Nat × Nat) (Q : hPost) : hAllOk (hJ K M_Mo_fault B Q) 0 (code_Mo_fault K B Q) := by
  refine hAllOk.c 0 (ok_aload_n (f := 0) rfl (by decide +kernel) rfl) ?_
  refine hAllOk.c 1 (ok_iconst (n := 0) (by decide +kernel) (by decide +kernel) rfl) ?_
  refine hAllOk.c 2 (ok_putfield (idx := 54) (N := 16) (T := TX6) tyX6_ok nmX6 rfl rfl inTb6 (by decide) rfl rfl wd_t_611 (by decide +kernel) rfl) ?_
  refine hAllOk.c 3 (ok_no) ?_
  refine hAllOk.c 4 (ok_no) ?_
  refine hAllOk.c 5 (ok_aload_n (f := 0) rfl (by decide +kernel) rfl) ?_
  refine hAllOk.c 6 (ok_iconst (n := 0) (by decide +kernel) (by decide +kernel) rfl) ?_
  refine hAllOk.c 7 (ok_putfield (idx := 68) (N := 16) (T := TX6) tyX6_ok nmX6 rfl rfl inTb6 (by decide) rfl rfl wd_t_612 (by decide +kernel) rfl) ?_
  refine hAllOk.c 8 (ok_no) ?_
  refine hAllOk.c 9 (ok_no) ?_
  refine hAllOk.c 10 (ok_iconst (n := 0) (by decide +kernel) (by decide +kernel) rfl) ?_
  refine hAllOk.c 11 (ok_istore_n (f := 1) rfl (by decide) (by decide +kernel) rfl) ?_
  refine hAllOk.c 12 (ok_aload_n (f := 0) rfl (by decide +kernel) rfl) ?_
  refine hAllOk.c 13 (ok_aload_n (f := 0) rfl (by decide +kernel) rfl) ?_
  refine hAllOk.c 14 (ok_getfield (idx := 54) (N := 16) (T := TX6) rfl inTb6 (by decide) rfl wd_t_611 (by decide +kernel) rfl) ?_
  refine hAllOk.c 15 (ok_no) ?_
  refine hAllOk.c 16 (ok_no) ?_
  refine hAllOk.c 17 (ok_callV (idx := 60) ⟨wd_t_689, wd_t_7, by decide +kernel, by decide +kernel⟩ rfl rfl wd_t_686 wd_t_688 wd_s_55 (by decide +kernel) rfl) ?_
  refine hAllOk.c 18 (ok_no) ?_
  refine hAllOk.c 19 (ok_no) ?_
  refine hAllOk.c 20 (ok_bipush (n := 40) (by decide +kernel) (by decide +kernel) rfl) ?_
  refine hAllOk.c 21 (ok_no) ?_
  refine hAllOk.c 22 (ok_icne (off := 25) (by decide +kernel) (by decide +kernel) rfl) ?_
  refine hAllOk.c 23 (ok_no) ?_
  refine hAllOk.c 24 (ok_no) ?_
  refine hAllOk.c 25 (ok_iload_n (f := 1) rfl (by decide +kernel) rfl) ?_
  refine hAllOk.c 26 (ok_bipush (n := 8) (by decide +kernel) (by decide +kernel) rfl) ?_
  refine hAllOk.c 27 (ok_no) ?_
  refine hAllOk.c 28 (ok_icge (off := 19) (by decide +kernel) (by decide +kernel) rfl) ?_
  refine hAllOk.c 29 (ok_no) ?_
  refine hAllOk.c 30 (ok_no) ?_
  refine hAllOk.c 31 (ok_iinc (n := 1) (by decide +kernel) (by decide) (by decide +kernel) rfl) ?_
  refine hAllOk.c 32 (ok_no) ?_
  refine hAllOk.c 33 (ok_no) ?_
  refine hAllOk.c 34 (ok_aload_n (f := 0) rfl (by decide +kernel) rfl) ?_
  refine hAllOk.c 35 (ok_dup (by decide +kernel) rfl) ?_
  refine hAllOk.c 36 (ok_getfield (idx := 54) (N := 16) (T := TX6) rfl inTb6 (by decide) rfl wd_t_611 (by decide +kernel) rfl) ?_
  refine hAllOk.c 37 (ok_no) ?_
  refine hAllOk.c 38 (ok_no) ?_
  refine hAllOk.c 39 (ok_iconst (n := 1) (by decide +kernel) (by decide +kernel) rfl) ?_
  refine hAllOk.c 40 (ok_iadd (by decide +kernel) rfl) ?_
  refine hAllOk.c 41 (ok_putfield (idx := 54) (N := 16) (T := TX6) tyX6_ok nmX6 rfl rfl inTb6 (by decide) rfl rfl wd_t_611 (by decide +kernel) rfl) ?_
  refine hAllOk.c 42 (ok_no) ?_
  refine hAllOk.c 43 (ok_no) ?_
  refine hAllOk.c 44 (ok_goto (off := (-32)) (by decide +kernel) (by decide +kernel)) ?_
  refine hAllOk.c 45 (ok_no) ?_
  refine hAllOk.c 46 (ok_no) ?_
  refine hAllOk.c 47 (ok_aload_n (f := 0) rfl (by decide +kernel) rfl) ?_
  refine hAllOk.c 48 (ok_callV (idx := 71) ⟨wd_t_693, wd_t_7, by decide +kernel, by decide +kernel⟩ rfl rfl wd_t_690 wd_t_692 wd_s_56 (by decide +kernel) rfl) ?_
  refine hAllOk.c 49 (ok_no) ?_
  refine hAllOk.c 50 (ok_no) ?_
  refine hAllOk.c 51 (ok_ifne (off := 8) (by decide +kernel) (by decide +kernel) rfl) ?_
  refine hAllOk.c 52 (ok_no) ?_
  refine hAllOk.c 53 (ok_no) ?_
  refine hAllOk.c 54 (ok_aload_n (f := 0) rfl (by decide +kernel) rfl) ?_
  refine hAllOk.c 55 (ok_getfield (idx := 54) (N := 16) (T := TX6) rfl inTb6 (by decide) rfl wd_t_611 (by decide +kernel) rfl) ?_
  refine hAllOk.c 56 (ok_no) ?_
  refine hAllOk.c 57 (ok_no) ?_
  refine hAllOk.c 58 (ok_ireturn (by decide +kernel)) ?_
  refine hAllOk.c 59 (ok_iload_n (f := 1) rfl (by decide +kernel) rfl) ?_
  refine hAllOk.c 60 (ok_ifle (off := 32) (by decide +kernel) (by decide +kernel) rfl) ?_
  refine hAllOk.c 61 (ok_no) ?_
  refine hAllOk.c 62 (ok_no) ?_
  refine hAllOk.c 63 (ok_aload_n (f := 0) rfl (by decide +kernel) rfl) ?_
  refine hAllOk.c 64 (ok_aload_n (f := 0) rfl (by decide +kernel) rfl) ?_
  refine hAllOk.c 65 (ok_getfield (idx := 54) (N := 16) (T := TX6) rfl inTb6 (by decide) rfl wd_t_611 (by decide +kernel) rfl) ?_
  refine hAllOk.c 66 (ok_no) ?_
  refine hAllOk.c 67 (ok_no) ?_
  refine hAllOk.c 68 (ok_callV (idx := 60) ⟨wd_t_689, wd_t_7, by decide +kernel, by decide +kernel⟩ rfl rfl wd_t_686 wd_t_688 wd_s_55 (by decide +kernel) rfl) ?_
  refine hAllOk.c 69 (ok_no) ?_
  refine hAllOk.c 70 (ok_no) ?_
  refine hAllOk.c 71 (ok_bipush (n := 41) (by decide +kernel) (by decide +kernel) rfl) ?_
  refine hAllOk.c 72 (ok_no) ?_
  refine hAllOk.c 73 (ok_icne (off := 19) (by decide +kernel) (by decide +kernel) rfl) ?_
  refine hAllOk.c 74 (ok_no) ?_
  refine hAllOk.c 75 (ok_no) ?_
  refine hAllOk.c 76 (ok_iinc (n := -1) (by decide +kernel) (by decide) (by decide +kernel) rfl) ?_
  refine hAllOk.c 77 (ok_no) ?_
  refine hAllOk.c 78 (ok_no) ?_
  refine hAllOk.c 79 (ok_aload_n (f := 0) rfl (by decide +kernel) rfl) ?_
  refine hAllOk.c 80 (ok_dup (by decide +kernel) rfl) ?_
  refine hAllOk.c 81 (ok_getfield (idx := 54) (N := 16) (T := TX6) rfl inTb6 (by decide) rfl wd_t_611 (by decide +kernel) rfl) ?_
  refine hAllOk.c 82 (ok_no) ?_
  refine hAllOk.c 83 (ok_no) ?_
  refine hAllOk.c 84 (ok_iconst (n := 1) (by decide +kernel) (by decide +kernel) rfl) ?_
  refine hAllOk.c 85 (ok_iadd (by decide +kernel) rfl) ?_
  refine hAllOk.c 86 (ok_putfield (idx := 54) (N := 16) (T := TX6) tyX6_ok nmX6 rfl rfl inTb6 (by decide) rfl rfl wd_t_611 (by decide +kernel) rfl) ?_
  refine hAllOk.c 87 (ok_no) ?_
  refine hAllOk.c 88 (ok_no) ?_
  refine hAllOk.c 89 (ok_goto (off := (-30)) (by decide +kernel) (by decide +kernel)) ?_
  refine hAllOk.c 90 (ok_no) ?_
  refine hAllOk.c 91 (ok_no) ?_
  refine hAllOk.c 92 (ok_aload_n (f := 0) rfl (by decide +kernel) rfl) ?_
  refine hAllOk.c 93 (ok_getfield (idx := 54) (N := 16) (T := TX6) rfl inTb6 (by decide) rfl wd_t_611 (by decide +kernel) rfl) ?_
  refine hAllOk.c 94 (ok_no) ?_
  refine hAllOk.c 95 (ok_no) ?_
  refine hAllOk.c 96 (ok_aload_n (f := 0) rfl (by decide +kernel) rfl) ?_
  refine hAllOk.c 97 (ok_getfield (idx := 57) (N := 16) (T := TX6) rfl inTb6 (by decide) rfl wd_t_608 (by decide +kernel) rfl) ?_
  refine hAllOk.c 98 (ok_no) ?_
  refine hAllOk.c 99 (ok_no) ?_
  refine hAllOk.c 100 (ok_icne (off := 16) (by decide +kernel) (by decide +kernel) rfl) ?_
  refine hAllOk.c 101 (ok_no) ?_
  refine hAllOk.c 102 (ok_no) ?_
  refine hAllOk.c 103 (ok_iload_n (f := 1) rfl (by decide +kernel) rfl) ?_
  refine hAllOk.c 104 (ok_ifne (off := 7) (by decide +kernel) (by decide +kernel) rfl) ?_
  refine hAllOk.c 105 (ok_no) ?_
  refine hAllOk.c 106 (ok_no) ?_
  refine hAllOk.c 107 (ok_iconst (n := -1) (by decide +kernel) (by decide +kernel) rfl) ?_
  refine hAllOk.c 108 (ok_goto (off := 7) (by decide +kernel) (by decide +kernel)) ?_
  refine hAllOk.c 109 (ok_no) ?_
  refine hAllOk.c 110 (ok_no) ?_
  refine hAllOk.c 111 (ok_aload_n (f := 0) rfl (by decide +kernel) rfl) ?_
  refine hAllOk.c 112 (ok_getfield (idx := 54) (N := 16) (T := TX6) rfl inTb6 (by decide) rfl wd_t_611 (by decide +kernel) rfl) ?_
  refine hAllOk.c 113 (ok_no) ?_
  refine hAllOk.c 114 (ok_no) ?_
  refine hAllOk.c 115 (ok_ireturn (by decide +kernel)) ?_
  refine hAllOk.c 116 (ok_aload_n (f := 0) rfl (by decide +kernel) rfl) ?_
  refine hAllOk.c 117 (ok_aload_n (f := 0) rfl (by decide +kernel) rfl) ?_
  refine hAllOk.c 118 (ok_getfield (idx := 54) (N := 16) (T := TX6) rfl inTb6 (by decide) rfl wd_t_611 (by decide +kernel) rfl) ?_
  refine hAllOk.c 119 (ok_no) ?_
  refine hAllOk.c 120 (ok_no) ?_
  refine hAllOk.c 121 (ok_callV (idx := 60) ⟨wd_t_689, wd_t_7, by decide +kernel, by decide +kernel⟩ rfl rfl wd_t_686 wd_t_688 wd_s_55 (by decide +kernel) rfl) ?_
  refine hAllOk.c 122 (ok_no) ?_
  refine hAllOk.c 123 (ok_no) ?_
  refine hAllOk.c 124 (ok_bipush (n := 124) (by decide +kernel) (by decide +kernel) rfl) ?_
  refine hAllOk.c 125 (ok_no) ?_
  refine hAllOk.c 126 (ok_iceq (off := 21) (by decide +kernel) (by decide +kernel) rfl) ?_
  refine hAllOk.c 127 (ok_no) ?_
  refine hAllOk.c 128 (ok_no) ?_
  refine hAllOk.c 129 (ok_aload_n (f := 0) rfl (by decide +kernel) rfl) ?_
  refine hAllOk.c 130 (ok_aload_n (f := 0) rfl (by decide +kernel) rfl) ?_
  refine hAllOk.c 131 (ok_getfield (idx := 54) (N := 16) (T := TX6) rfl inTb6 (by decide) rfl wd_t_611 (by decide +kernel) rfl) ?_
  refine hAllOk.c 132 (ok_no) ?_
  refine hAllOk.c 133 (ok_no) ?_
  refine hAllOk.c 134 (ok_callV (idx := 60) ⟨wd_t_689, wd_t_7, by decide +kernel, by decide +kernel⟩ rfl rfl wd_t_686 wd_t_688 wd_s_55 (by decide +kernel) rfl) ?_
  refine hAllOk.c 135 (ok_no) ?_
  refine hAllOk.c 136 (ok_no) ?_
  refine hAllOk.c 137 (ok_bipush (n := 38) (by decide +kernel) (by decide +kernel) rfl) ?_
  refine hAllOk.c 138 (ok_no) ?_
  refine hAllOk.c 139 (ok_iceq (off := 8) (by decide +kernel) (by decide +kernel) rfl) ?_
  refine hAllOk.c 140 (ok_no) ?_
  refine hAllOk.c 141 (ok_no) ?_
  refine hAllOk.c 142 (ok_aload_n (f := 0) rfl (by decide +kernel) rfl) ?_
  refine hAllOk.c 143 (ok_getfield (idx := 54) (N := 16) (T := TX6) rfl inTb6 (by decide) rfl wd_t_611 (by decide +kernel) rfl) ?_
  refine hAllOk.c 144 (ok_no) ?_
  refine hAllOk.c 145 (ok_no) ?_
  refine hAllOk.c 146 (ok_ireturn (by decide +kernel)) ?_
  refine hAllOk.c 147 (ok_aload_n (f := 0) rfl (by decide +kernel) rfl) ?_
  refine hAllOk.c 148 (ok_dup (by decide +kernel) rfl) ?_
  refine hAllOk.c 149 (ok_getfield (idx := 54) (N := 16) (T := TX6) rfl inTb6 (by decide) rfl wd_t_611 (by decide +kernel) rfl) ?_
  refine hAllOk.c 150 (ok_no) ?_
  refine hAllOk.c 151 (ok_no) ?_
  refine hAllOk.c 152 (ok_iconst (n := 1) (by decide +kernel) (by decide +kernel) rfl) ?_
  refine hAllOk.c 153 (ok_iadd (by decide +kernel) rfl) ?_
  refine hAllOk.c 154 (ok_putfield (idx := 54) (N := 16) (T := TX6) tyX6_ok nmX6 rfl rfl inTb6 (by decide) rfl rfl wd_t_611 (by decide +kernel) rfl) ?_
  refine hAllOk.c 155 (ok_no) ?_
  refine hAllOk.c 156 (ok_no) ?_
  refine hAllOk.c 157 (ok_goto (off := (-145)) (by decide +kernel) (by decide +kernel)) ?_
  refine hAllOk.c 158 (ok_no) ?_
  refine hAllOk.c 159 (ok_no) ?_
  trivial
def M_Mo_all : hM := (yX6_all, prog_8_method_11_code, 1, (some .int), 0, 0)
def code_Mo_all (K : hK) (B : Nat × Nat) (Q : hPost) : List hSem := [x_const 1 (1), x_aload 2 0, x_getfield 5 6 0, x_no, x_no, x_const 6 (0), x_iaload K 7, x_ishl 8, x_const 9 (1), x_isub 10, x_ireturn (some .int) Q]
set_option maxRecDepth 100000 in
set_option maxHeartbeats 4000000 in
theorem okc_Mo_all (K : hK) (B : Nat × Nat) (Q : hPost) : hAllOk (hJ K M_Mo_all B Q) 0 (code_Mo_all K B Q) := by
  refine hAllOk.c 0 (ok_iconst (n := 1) (by decide +kernel) (by decide +kernel) rfl) ?_
  refine hAllOk.c 1 (ok_aload_n (f := 0) rfl (by decide +kernel) rfl) ?_
  refine hAllOk.c 2 (ok_getfield (idx := 7) (N := 16) (T := TX6) rfl inTb6 (by decide) rfl wd_t_602 (by decide +kernel) rfl) ?_
  refine hAllOk.c 3 (ok_no) ?_
  refine hAllOk.c 4 (ok_no) ?_
  refine hAllOk.c 5 (ok_iconst (n := 0) (by decide +kernel) (by decide +kernel) rfl) ?_
  refine hAllOk.c 6 (ok_iaload (by decide +kernel) rfl) ?_
  refine hAllOk.c 7 (ok_ishl (by decide +kernel) rfl) ?_
  refine hAllOk.c 8 (ok_iconst (n := 1) (by decide +kernel) (by decide +kernel) rfl) ?_
  refine hAllOk.c 9 (ok_isub (by decide +kernel) rfl) ?_
  refine hAllOk.c 10 (ok_ireturn (by decide +kernel)) ?_
  trivial
def M_Mo_ones : hM := (yX6_ones, prog_8_method_5_code, 3, (some .int), 0, 0)
def code_Mo_ones (K : hK) (B : Nat × Nat) (Q : hPost) : List hSem := [x_const 1 (0), x_istore 2 1, x_iload 3 0, x_istore 4 2, x_iload 5 2, x_ifeq 20 8, x_no, x_no, x_iinc 11 1 (1), x_no, x_no, x_iload 12 2, x_iload 13 2, x_const 14 (1), x_isub 15, x_iand 16, x_istore 17 2, x_goto 4, x_no, x_no, x_iload 21 1, x_ireturn (some .int) Q]
set_option maxRecDepth 100000 in
set_option maxHeartbeats 4000000 in
theorem okc_Mo_ones (K : hK) (B : Nat × Nat) (Q : hPost) : hAllOk (hJ K M_Mo_ones B Q) 0 (code_Mo_ones K B Q) := by
  refine hAllOk.c 0 (ok_iconst (n := 0) (by decide +kernel) (by decide +kernel) rfl) ?_
  refine hAllOk.c 1 (ok_istore_n (f := 1) rfl (by decide) (by decide +kernel) rfl) ?_
  refine hAllOk.c 2 (ok_iload_n (f := 0) rfl (by decide +kernel) rfl) ?_
  refine hAllOk.c 3 (ok_istore_n (f := 2) rfl (by decide) (by decide +kernel) rfl) ?_
  refine hAllOk.c 4 (ok_iload_n (f := 2) rfl (by decide +kernel) rfl) ?_
  refine hAllOk.c 5 (ok_ifeq (off := 15) (by decide +kernel) (by decide +kernel) rfl) ?_
  refine hAllOk.c 6 (ok_no) ?_
  refine hAllOk.c 7 (ok_no) ?_
  refine hAllOk.c 8 (ok_iinc (n := 1) (by decide +kernel) (by decide) (by decide +kernel) rfl) ?_
  refine hAllOk.c 9 (ok_no) ?_
  refine hAllOk.c 10 (ok_no) ?_
  refine hAllOk.c 11 (ok_iload_n (f := 2) rfl (by decide +kernel) rfl) ?_
  refine hAllOk.c 12 (ok_iload_n (f := 2) rfl (by decide +kernel) rfl) ?_
  refine hAllOk.c 13 (ok_iconst (n := 1) (by decide +kernel) (by decide +kernel) rfl) ?_
  refine hAllOk.c 14 (ok_isub (by decide +kernel) rfl) ?_
  refine hAllOk.c 15 (ok_iand (by decide +kernel) rfl) ?_
  refine hAllOk.c 16 (ok_istore_n (f := 2) rfl (by decide) (by decide +kernel) rfl) ?_
  refine hAllOk.c 17 (ok_goto (off := (-13)) (by decide +kernel) (by decide +kernel)) ?_
  refine hAllOk.c 18 (ok_no) ?_
  refine hAllOk.c 19 (ok_no) ?_
  refine hAllOk.c 20 (ok_iload_n (f := 1) rfl (by decide +kernel) rfl) ?_
  refine hAllOk.c 21 (ok_ireturn (by decide +kernel)) ?_
  trivial
def M_Mo_has : hM := (yX6_has, prog_8_method_4_code, 2, (some .boolean), 0, 0)
def code_Mo_has (K : hK) (B : Nat × Nat) (Q : hPost) : List hSem := [x_iload 1 0, x_iload 2 1, x_ishr 3, x_const 4 (1), x_iand 5, x_const 6 (1), x_icne 13 9, x_no, x_no, x_const 10 (1), x_goto 14, x_no, x_no, x_const 14 (0), x_ireturn (some .boolean) Q]
set_option maxRecDepth 100000 in
set_option maxHeartbeats 4000000 in
theorem okc_Mo_has (K : hK) (B : Nat × Nat) (Q : hPost) : hAllOk (hJ K M_Mo_has B Q) 0 (code_Mo_has K B Q) := by
  refine hAllOk.c 0 (ok_iload_n (f := 0) rfl (by decide +kernel) rfl) ?_
  refine hAllOk.c 1 (ok_iload_n (f := 1) rfl (by decide +kernel) rfl) ?_
  refine hAllOk.c 2 (ok_ishr (by decide +kernel) rfl) ?_
  refine hAllOk.c 3 (ok_iconst (n := 1) (by decide +kernel) (by decide +kernel) rfl) ?_
  refine hAllOk.c 4 (ok_iand (by decide +kernel) rfl) ?_
  refine hAllOk.c 5 (ok_iconst (n := 1) (by decide +kernel) (by decide +kernel) rfl) ?_
  refine hAllOk.c 6 (ok_icne (off := 7) (by decide +kernel) (by decide +kernel) rfl) ?_
  refine hAllOk.c 7 (ok_no) ?_
  refine hAllOk.c 8 (ok_no) ?_
  refine hAllOk.c 9 (ok_iconst (n := 1) (by decide +kernel) (by decide +kernel) rfl) ?_
  refine hAllOk.c 10 (ok_goto (off := 4) (by decide +kernel) (by decide +kernel)) ?_
  refine hAllOk.c 11 (ok_no) ?_
  refine hAllOk.c 12 (ok_no) ?_
  refine hAllOk.c 13 (ok_iconst (n := 0) (by decide +kernel) (by decide +kernel) rfl) ?_
  refine hAllOk.c 14 (ok_ireturn (by decide +kernel)) ?_
  trivial
theorem wd_t_710 : Cond.methodLink RX6 78 yX6_ones ∈ hTb := hTb_t (List.mem_of_getElem? (i := 710) (by decide +kernel)) (by decide +kernel)
theorem wd_t_712 : Cond.code yX6_ones prog_8_method_5_code 3 (some .int) ∈ hTb := hTb_t (List.mem_of_getElem? (i := 712) (by decide +kernel)) (by decide +kernel)
theorem wd_t_711 : Cond.static yX6_ones ∈ hTb := hTb_t (List.mem_of_getElem? (i := 711) (by decide +kernel)) (by decide +kernel)
theorem wd_t_713 : Cond.methodLink RX6 81 yX6_has ∈ hTb := hTb_t (List.mem_of_getElem? (i := 713) (by decide +kernel)) (by decide +kernel)
theorem wd_t_715 : Cond.code yX6_has prog_8_method_4_code 2 (some .boolean) ∈ hTb := hTb_t (List.mem_of_getElem? (i := 715) (by decide +kernel)) (by decide +kernel)
theorem wd_t_714 : Cond.static yX6_has ∈ hTb := hTb_t (List.mem_of_getElem? (i := 714) (by decide +kernel)) (by decide +kernel)
def M_Mo_atom : hM := (yX6_atom, prog_8_method_17_code, 4, (some .boolean), 2, 42)
def code_Mo_atom (K : hK) (B : Nat × Nat) (Q : hPost) : List hSem := [x_iload 1 1, x_const 3 (42), x_no, x_icne 8 6, x_no, x_no, x_const 7 (1), x_ireturn (some .boolean) Q, x_iload 9 1, x_const 11 (35), x_no, x_icne 79 14, x_no, x_no, x_const 15 (0), x_istore 16 3, x_aload 17 0, x_aload 18 0, x_getfield 21 6 9, x_no, x_no, x_callV K 24 M_Mo_charAt 6 1, x_no, x_no, x_const 26 (48), x_no, x_const 28 (57), x_no, x_callS K 31 M_Mo_in 3, x_no, x_no, x_ifeq 65 34, x_no, x_no, x_const 36 (10), x_no, x_iload 37 3, x_imul 38, x_aload 39 0, x_getfield 42 6 5, x_no, x_no, x_aload 43 0, x_getfield 46 6 9, x_no, x_no, x_iaload K 47, x_iadd 48, x_const 50 (48), x_no, x_isub 51, x_istore 52 3, x_aload 53 0, x_dup 54, x_getfield 57 6 9, x_no, x_no, x_const 58 (1), x_iadd 59, x_putfield 62 6 9 (.int), x_no, x_no, x_goto 16, x_no, x_no, x_iload 66 2, x_callS K 69 M_Mo_ones 1, x_no, x_no, x_iload 70 3, x_iclt 77 73, x_no, x_no, x_const 74 (1), x_goto 78, x_no, x_no, x_const 78 (0), x_ireturn (some .boolean) Q, x_iload 80 1, x_const 82 (97), x_no, x_iclt 94 85, x_no, x_no, x_iload 86 2, x_iload 87 1, x_const 89 (97), x_no, x_isub 90, x_callS K 93 M_Mo_has 2, x_no, x_no, x_ireturn (some .boolean) Q, x_aload 95 0, x_dup 96, x_getfield 99 6 9, x_no, x_no, x_const 100 (1), x_iadd 101, x_putfield 104 6 9 (.int), x_no, x_no, x_const 105 (0), x_istore 106 3, x_aload 107 0, x_callV K 110 M_Mo_isLetter 6 0, x_no, x_no, x_ifeq 143 113, x_no, x_no, x_iload 114 3, x_const 115 (1), x_aload 116 0, x_getfield 119 6 5, x_no, x_no, x_aload 120 0, x_getfield 123 6 9, x_no, x_no, x_iaload K 124, x_const 126 (97), x_no, x_isub 127, x_ishl 128, x_ior 129, x_istore 130 3, x_aload 131 0, x_dup 132, x_getfield 135 6 9, x_no, x_no, x_const 136 (1), x_iadd 137, x_putfield 140 6 9 (.int), x_no, x_no, x_goto 106, x_no, x_no, x_iload 144 2, x_iload 145 3, x_iand 146, x_callS K 149 M_Mo_ones 1, x_no, x_no, x_iload 150 1, x_const 152 (48), x_no, x_isub 153, x_iclt 160 156, x_no, x_no, x_const 157 (1), x_goto 161, x_no, x_no, x_const 161 (0), x_ireturn (some .boolean) Q]
set_option maxRecDepth 100000 in
set_option maxHeartbeats 4000000 in
theorem okc_Mo_atom (K : hK) (B : Nat × Nat) (Q : hPost) : hAllOk (hJ K M_Mo_atom B Q) 0 (code_Mo_atom K B Q) := by
  refine hAllOk.c 0 (ok_iload_n (f := 1) rfl (by decide +kernel) rfl) ?_
  refine hAllOk.c 1 (ok_bipush (n := 42) (by decide +kernel) (by decide +kernel) rfl) ?_
  refine hAllOk.c 2 (ok_no) ?_
  refine hAllOk.c 3 (ok_icne (off := 5) (by decide +kernel) (by decide +kernel) rfl) ?_
  refine hAllOk.c 4 (ok_no) ?_
  refine hAllOk.c 5 (ok_no) ?_
  refine hAllOk.c 6 (ok_iconst (n := 1) (by decide +kernel) (by decide +kernel) rfl) ?_
  refine hAllOk.c 7 (ok_ireturn (by decide +kernel)) ?_
  refine hAllOk.c 8 (ok_iload_n (f := 1) rfl (by decide +kernel) rfl) ?_
  refine hAllOk.c 9 (ok_bipush (n := 35) (by decide +kernel) (by decide +kernel) rfl) ?_
  refine hAllOk.c 10 (ok_no) ?_
  refine hAllOk.c 11 (ok_icne (off := 68) (by decide +kernel) (by decide +kernel) rfl) ?_
  refine hAllOk.c 12 (ok_no) ?_
  refine hAllOk.c 13 (ok_no) ?_
  refine hAllOk.c 14 (ok_iconst (n := 0) (by decide +kernel) (by decide +kernel) rfl) ?_
  refine hAllOk.c 15 (ok_istore_n (f := 3) rfl (by decide) (by decide +kernel) rfl) ?_
  refine hAllOk.c 16 (ok_aload_n (f := 0) rfl (by decide +kernel) rfl) ?_
  refine hAllOk.c 17 (ok_aload_n (f := 0) rfl (by decide +kernel) rfl) ?_
  refine hAllOk.c 18 (ok_getfield (idx := 54) (N := 16) (T := TX6) rfl inTb6 (by decide) rfl wd_t_611 (by decide +kernel) rfl) ?_
  refine hAllOk.c 19 (ok_no) ?_
  refine hAllOk.c 20 (ok_no) ?_
  refine hAllOk.c 21 (ok_callV (idx := 60) ⟨wd_t_689, wd_t_7, by decide +kernel, by decide +kernel⟩ rfl rfl wd_t_686 wd_t_688 wd_s_55 (by decide +kernel) rfl) ?_
  refine hAllOk.c 22 (ok_no) ?_
  refine hAllOk.c 23 (ok_no) ?_
  refine hAllOk.c 24 (ok_bipush (n := 48) (by decide +kernel) (by decide +kernel) rfl) ?_
  refine hAllOk.c 25 (ok_no) ?_
  refine hAllOk.c 26 (ok_bipush (n := 57) (by decide +kernel) (by decide +kernel) rfl) ?_
  refine hAllOk.c 27 (ok_no) ?_
  refine hAllOk.c 28 (ok_callS (idx := 46) ⟨wd_t_658, wd_t_7, by decide +kernel, by decide +kernel⟩ wd_t_656 wd_t_657 (by decide +kernel) rfl) ?_
  refine hAllOk.c 29 (ok_no) ?_
  refine hAllOk.c 30 (ok_no) ?_
  refine hAllOk.c 31 (ok_ifeq (off := 34) (by decide +kernel) (by decide +kernel) rfl) ?_
  refine hAllOk.c 32 (ok_no) ?_
  refine hAllOk.c 33 (ok_no) ?_
  refine hAllOk.c 34 (ok_bipush (n := 10) (by decide +kernel) (by decide +kernel) rfl) ?_
  refine hAllOk.c 35 (ok_no) ?_
  refine hAllOk.c 36 (ok_iload_n (f := 3) rfl (by decide +kernel) rfl) ?_
  refine hAllOk.c 37 (ok_imul (by decide +kernel) rfl) ?_
  refine hAllOk.c 38 (ok_aload_n (f := 0) rfl (by decide +kernel) rfl) ?_
  refine hAllOk.c 39 (ok_getfield (idx := 19) (N := 16) (T := TX6) rfl inTb6 (by decide) rfl wd_t_607 (by decide +kernel) rfl) ?_
  refine hAllOk.c 40 (ok_no) ?_
  refine hAllOk.c 41 (ok_no) ?_
  refine hAllOk.c 42 (ok_aload_n (f := 0) rfl (by decide +kernel) rfl) ?_
  refine hAllOk.c 43 (ok_getfield (idx := 54) (N := 16) (T := TX6) rfl inTb6 (by decide) rfl wd_t_611 (by decide +kernel) rfl) ?_
  refine hAllOk.c 44 (ok_no) ?_
  refine hAllOk.c 45 (ok_no) ?_
  refine hAllOk.c 46 (ok_iaload (by decide +kernel) rfl) ?_
  refine hAllOk.c 47 (ok_iadd (by decide +kernel) rfl) ?_
  refine hAllOk.c 48 (ok_bipush (n := 48) (by decide +kernel) (by decide +kernel) rfl) ?_
  refine hAllOk.c 49 (ok_no) ?_
  refine hAllOk.c 50 (ok_isub (by decide +kernel) rfl) ?_
  refine hAllOk.c 51 (ok_istore_n (f := 3) rfl (by decide) (by decide +kernel) rfl) ?_
  refine hAllOk.c 52 (ok_aload_n (f := 0) rfl (by decide +kernel) rfl) ?_
  refine hAllOk.c 53 (ok_dup (by decide +kernel) rfl) ?_
  refine hAllOk.c 54 (ok_getfield (idx := 54) (N := 16) (T := TX6) rfl inTb6 (by decide) rfl wd_t_611 (by decide +kernel) rfl) ?_
  refine hAllOk.c 55 (ok_no) ?_
  refine hAllOk.c 56 (ok_no) ?_
  refine hAllOk.c 57 (ok_iconst (n := 1) (by decide +kernel) (by decide +kernel) rfl) ?_
  refine hAllOk.c 58 (ok_iadd (by decide +kernel) rfl) ?_
  refine hAllOk.c 59 (ok_putfield (idx := 54) (N := 16) (T := TX6) tyX6_ok nmX6 rfl rfl inTb6 (by decide) rfl rfl wd_t_611 (by decide +kernel) rfl) ?_
  refine hAllOk.c 60 (ok_no) ?_
  refine hAllOk.c 61 (ok_no) ?_
  refine hAllOk.c 62 (ok_goto (off := (-46)) (by decide +kernel) (by decide +kernel)) ?_
  refine hAllOk.c 63 (ok_no) ?_
  refine hAllOk.c 64 (ok_no) ?_
  refine hAllOk.c 65 (ok_iload_n (f := 2) rfl (by decide +kernel) rfl) ?_
  refine hAllOk.c 66 (ok_callS (idx := 78) ⟨wd_t_712, wd_t_7, by decide +kernel, by decide +kernel⟩ wd_t_710 wd_t_711 (by decide +kernel) rfl) ?_
  refine hAllOk.c 67 (ok_no) ?_
  refine hAllOk.c 68 (ok_no) ?_
  refine hAllOk.c 69 (ok_iload_n (f := 3) rfl (by decide +kernel) rfl) ?_
  refine hAllOk.c 70 (ok_iclt (off := 7) (by decide +kernel) (by decide +kernel) rfl) ?_
  refine hAllOk.c 71 (ok_no) ?_
  refine hAllOk.c 72 (ok_no) ?_
  refine hAllOk.c 73 (ok_iconst (n := 1) (by decide +kernel) (by decide +kernel) rfl) ?_
  refine hAllOk.c 74 (ok_goto (off := 4) (by decide +kernel) (by decide +kernel)) ?_
  refine hAllOk.c 75 (ok_no) ?_
  refine hAllOk.c 76 (ok_no) ?_
  refine hAllOk.c 77 (ok_iconst (n := 0) (by decide +kernel) (by decide +kernel) rfl) ?_
  refine hAllOk.c 78 (ok_ireturn (by decide +kernel)) ?_
  refine hAllOk.c 79 (ok_iload_n (f := 1) rfl (by decide +kernel) rfl) ?_
  refine hAllOk.c 80 (ok_bipush (n := 97) (by decide +kernel) (by decide +kernel) rfl) ?_
  refine hAllOk.c 81 (ok_no) ?_
  refine hAllOk.c 82 (ok_iclt (off := 12) (by decide +kernel) (by decide +kernel) rfl) ?_
  refine hAllOk.c 83 (ok_no) ?_
  refine hAllOk.c 84 (ok_no) ?_
  refine hAllOk.c 85 (ok_iload_n (f := 2) rfl (by decide +kernel) rfl) ?_
  refine hAllOk.c 86 (ok_iload_n (f := 1) rfl (by decide +kernel) rfl) ?_
  refine hAllOk.c 87 (ok_bipush (n := 97) (by decide +kernel) (by decide +kernel) rfl) ?_
  refine hAllOk.c 88 (ok_no) ?_
  refine hAllOk.c 89 (ok_isub (by decide +kernel) rfl) ?_
  refine hAllOk.c 90 (ok_callS (idx := 81) ⟨wd_t_715, wd_t_7, by decide +kernel, by decide +kernel⟩ wd_t_713 wd_t_714 (by decide +kernel) rfl) ?_
  refine hAllOk.c 91 (ok_no) ?_
  refine hAllOk.c 92 (ok_no) ?_
  refine hAllOk.c 93 (ok_ireturn (by decide +kernel)) ?_
  refine hAllOk.c 94 (ok_aload_n (f := 0) rfl (by decide +kernel) rfl) ?_
  refine hAllOk.c 95 (ok_dup (by decide +kernel) rfl) ?_
  refine hAllOk.c 96 (ok_getfield (idx := 54) (N := 16) (T := TX6) rfl inTb6 (by decide) rfl wd_t_611 (by decide +kernel) rfl) ?_
  refine hAllOk.c 97 (ok_no) ?_
  refine hAllOk.c 98 (ok_no) ?_
  refine hAllOk.c 99 (ok_iconst (n := 1) (by decide +kernel) (by decide +kernel) rfl) ?_
  refine hAllOk.c 100 (ok_iadd (by decide +kernel) rfl) ?_
  refine hAllOk.c 101 (ok_putfield (idx := 54) (N := 16) (T := TX6) tyX6_ok nmX6 rfl rfl inTb6 (by decide) rfl rfl wd_t_611 (by decide +kernel) rfl) ?_
  refine hAllOk.c 102 (ok_no) ?_
  refine hAllOk.c 103 (ok_no) ?_
  refine hAllOk.c 104 (ok_iconst (n := 0) (by decide +kernel) (by decide +kernel) rfl) ?_
  refine hAllOk.c 105 (ok_istore_n (f := 3) rfl (by decide) (by decide +kernel) rfl) ?_
  refine hAllOk.c 106 (ok_aload_n (f := 0) rfl (by decide +kernel) rfl) ?_
  refine hAllOk.c 107 (ok_callV (idx := 64) ⟨wd_t_697, wd_t_7, by decide +kernel, by decide +kernel⟩ rfl rfl wd_t_694 wd_t_696 wd_s_57 (by decide +kernel) rfl) ?_
  refine hAllOk.c 108 (ok_no) ?_
  refine hAllOk.c 109 (ok_no) ?_
  refine hAllOk.c 110 (ok_ifeq (off := 33) (by decide +kernel) (by decide +kernel) rfl) ?_
  refine hAllOk.c 111 (ok_no) ?_
  refine hAllOk.c 112 (ok_no) ?_
  refine hAllOk.c 113 (ok_iload_n (f := 3) rfl (by decide +kernel) rfl) ?_
  refine hAllOk.c 114 (ok_iconst (n := 1) (by decide +kernel) (by decide +kernel) rfl) ?_
  refine hAllOk.c 115 (ok_aload_n (f := 0) rfl (by decide +kernel) rfl) ?_
  refine hAllOk.c 116 (ok_getfield (idx := 19) (N := 16) (T := TX6) rfl inTb6 (by decide) rfl wd_t_607 (by decide +kernel) rfl) ?_
  refine hAllOk.c 117 (ok_no) ?_
  refine hAllOk.c 118 (ok_no) ?_
  refine hAllOk.c 119 (ok_aload_n (f := 0) rfl (by decide +kernel) rfl) ?_
  refine hAllOk.c 120 (ok_getfield (idx := 54) (N := 16) (T := TX6) rfl inTb6 (by decide) rfl wd_t_611 (by decide +kernel) rfl) ?_
  refine hAllOk.c 121 (ok_no) ?_
  refine hAllOk.c 122 (ok_no) ?_
  refine hAllOk.c 123 (ok_iaload (by decide +kernel) rfl) ?_
  refine hAllOk.c 124 (ok_bipush (n := 97) (by decide +kernel) (by decide +kernel) rfl) ?_
  refine hAllOk.c 125 (ok_no) ?_
  refine hAllOk.c 126 (ok_isub (by decide +kernel) rfl) ?_
  refine hAllOk.c 127 (ok_ishl (by decide +kernel) rfl) ?_
  refine hAllOk.c 128 (ok_ior (by decide +kernel) rfl) ?_
  refine hAllOk.c 129 (ok_istore_n (f := 3) rfl (by decide) (by decide +kernel) rfl) ?_
  refine hAllOk.c 130 (ok_aload_n (f := 0) rfl (by decide +kernel) rfl) ?_
  refine hAllOk.c 131 (ok_dup (by decide +kernel) rfl) ?_
  refine hAllOk.c 132 (ok_getfield (idx := 54) (N := 16) (T := TX6) rfl inTb6 (by decide) rfl wd_t_611 (by decide +kernel) rfl) ?_
  refine hAllOk.c 133 (ok_no) ?_
  refine hAllOk.c 134 (ok_no) ?_
  refine hAllOk.c 135 (ok_iconst (n := 1) (by decide +kernel) (by decide +kernel) rfl) ?_
  refine hAllOk.c 136 (ok_iadd (by decide +kernel) rfl) ?_
  refine hAllOk.c 137 (ok_putfield (idx := 54) (N := 16) (T := TX6) tyX6_ok nmX6 rfl rfl inTb6 (by decide) rfl rfl wd_t_611 (by decide +kernel) rfl) ?_
  refine hAllOk.c 138 (ok_no) ?_
  refine hAllOk.c 139 (ok_no) ?_
  refine hAllOk.c 140 (ok_goto (off := (-34)) (by decide +kernel) (by decide +kernel)) ?_
  refine hAllOk.c 141 (ok_no) ?_
  refine hAllOk.c 142 (ok_no) ?_
  refine hAllOk.c 143 (ok_iload_n (f := 2) rfl (by decide +kernel) rfl) ?_
  refine hAllOk.c 144 (ok_iload_n (f := 3) rfl (by decide +kernel) rfl) ?_
  refine hAllOk.c 145 (ok_iand (by decide +kernel) rfl) ?_
  refine hAllOk.c 146 (ok_callS (idx := 78) ⟨wd_t_712, wd_t_7, by decide +kernel, by decide +kernel⟩ wd_t_710 wd_t_711 (by decide +kernel) rfl) ?_
  refine hAllOk.c 147 (ok_no) ?_
  refine hAllOk.c 148 (ok_no) ?_
  refine hAllOk.c 149 (ok_iload_n (f := 1) rfl (by decide +kernel) rfl) ?_
  refine hAllOk.c 150 (ok_bipush (n := 48) (by decide +kernel) (by decide +kernel) rfl) ?_
  refine hAllOk.c 151 (ok_no) ?_
  refine hAllOk.c 152 (ok_isub (by decide +kernel) rfl) ?_
  refine hAllOk.c 153 (ok_iclt (off := 7) (by decide +kernel) (by decide +kernel) rfl) ?_
  refine hAllOk.c 154 (ok_no) ?_
  refine hAllOk.c 155 (ok_no) ?_
  refine hAllOk.c 156 (ok_iconst (n := 1) (by decide +kernel) (by decide +kernel) rfl) ?_
  refine hAllOk.c 157 (ok_goto (off := 4) (by decide +kernel) (by decide +kernel)) ?_
  refine hAllOk.c 158 (ok_no) ?_
  refine hAllOk.c 159 (ok_no) ?_
  refine hAllOk.c 160 (ok_iconst (n := 0) (by decide +kernel) (by decide +kernel) rfl) ?_
  refine hAllOk.c 161 (ok_ireturn (by decide +kernel)) ?_
  trivial
theorem wd_t_706 : Cond.methodLink RX6 74 yX6_atom ∈ hTb := hTb_t (List.mem_of_getElem? (i := 706) (by decide +kernel)) (by decide +kernel)
theorem wd_t_709 : Cond.code yX6_atom prog_8_method_17_code 4 (some .boolean) ∈ hTb := hTb_t (List.mem_of_getElem? (i := 709) (by decide +kernel)) (by decide +kernel)
theorem wd_t_708 : Cond.instanceMethod yX6_atom ∈ hTb := hTb_t (List.mem_of_getElem? (i := 708) (by decide +kernel)) (by decide +kernel)
theorem wd_s_60 : Cond.selects RX6 yX6_atom yX6_atom ∈ hTb := hTb_s (List.mem_of_getElem? (i := 60) (by decide +kernel)) (by decide +kernel)
def M_Mo_meets : hM := (yX6_meets, prog_8_method_16_code, 4, (some .boolean), 3, 65)
def code_Mo_meets (K : hK) (B : Nat × Nat) (Q : hPost) : List hSem := [x_const 1 (0), x_istore 2 2, x_aload 3 0, x_getfield 6 6 11, x_no, x_no, x_const 7 (0), x_const 8 (0), x_bastore K 9, x_aload 10 0, x_getfield 13 6 12, x_no, x_no, x_const 14 (0), x_const 15 (1), x_bastore K 16, x_aload 17 0, x_const 18 (0), x_putfield 21 6 9 (.int), x_no, x_no, x_aload 22 0, x_getfield 25 6 9, x_no, x_no, x_aload 26 0, x_getfield 29 6 6, x_no, x_no, x_icge 215 32, x_no, x_no, x_aload 33 0, x_getfield 36 6 5, x_no, x_no, x_aload 37 0, x_getfield 40 6 9, x_no, x_no, x_iaload K 41, x_istore 42 3, x_aload 43 0, x_dup 44, x_getfield 47 6 9, x_no, x_no, x_const 48 (1), x_iadd 49, x_putfield 52 6 9 (.int), x_no, x_no, x_iload 53 3, x_const 55 (40), x_no, x_icne 78 58, x_no, x_no, x_iinc 61 2 (1), x_no, x_no, x_aload 62 0, x_getfield 65 6 11, x_no, x_no, x_iload 66 2, x_const 67 (0), x_bastore K 68, x_aload 69 0, x_getfield 72 6 12, x_no, x_no, x_iload 73 2, x_const 74 (1), x_bastore K 75, x_goto 212, x_no, x_no, x_iload 79 3, x_const 81 (41), x_no, x_icne 132 84, x_no, x_no, x_iinc 87 2 (-1), x_no, x_no, x_aload 88 0, x_getfield 91 6 12, x_no, x_no, x_iload 92 2, x_aload 93 0, x_getfield 96 6 12, x_no, x_no, x_iload 97 2, x_baload K 98, x_ifeq 127 101, x_no, x_no, x_aload 102 0, x_getfield 105 6 11, x_no, x_no, x_iload 106 2, x_const 107 (1), x_iadd 108, x_baload K 109, x_ifne 123 112, x_no, x_no, x_aload 113 0, x_getfield 116 6 12, x_no, x_no, x_iload 117 2, x_const 118 (1), x_iadd 119, x_baload K 120, x_ifeq 127 123, x_no, x_no, x_const 124 (1), x_goto 128, x_no, x_no, x_const 128 (0), x_bastore K 129, x_goto 212, x_no, x_no, x_iload 133 3, x_const 135 (124), x_no, x_icne 177 138, x_no, x_no, x_aload 139 0, x_getfield 142 6 11, x_no, x_no, x_iload 143 2, x_aload 144 0, x_getfield 147 6 11, x_no, x_no, x_iload 148 2, x_baload K 149, x_ifne 161 152, x_no, x_no, x_aload 153 0, x_getfield 156 6 12, x_no, x_no, x_iload 157 2, x_baload K 158, x_ifeq 165 161, x_no, x_no, x_const 162 (1), x_goto 166, x_no, x_no, x_const 166 (0), x_bastore K 167, x_aload 168 0, x_getfield 171 6 12, x_no, x_no, x_iload 172 2, x_const 173 (1), x_bastore K 174, x_goto 212, x_no, x_no, x_iload 178 3, x_const 180 (38), x_no, x_iceq 212 183, x_no, x_no, x_aload 184 0, x_getfield 187 6 12, x_no, x_no, x_iload 188 2, x_aload 189 0, x_getfield 192 6 12, x_no, x_no, x_iload 193 2, x_baload K 194, x_ifeq 210 197, x_no, x_no, x_aload 198 0, x_iload 199 3, x_iload 200 1, x_callV K 203 M_Mo_atom 6 2, x_no, x_no, x_ifeq 210 206, x_no, x_no, x_const 207 (1), x_goto 211, x_no, x_no, x_const 211 (0), x_bastore K 212, x_goto 21, x_no, x_no, x_aload 216 0, x_getfield 219 6 11, x_no, x_no, x_const 220 (0), x_baload K 221, x_ifne 233 224, x_no, x_no, x_aload 225 0, x_getfield 228 6 12, x_no, x_no, x_const 229 (0), x_baload K 230, x_ifeq 237 233, x_no, x_no, x_const 234 (1), x_goto 238, x_no, x_no, x_const 238 (0), x_ireturn (some .boolean) Q]
set_option maxRecDepth 100000 in
set_option maxHeartbeats 4000000 in
theorem okc_Mo_meets (K : hK) (B : Nat × Nat) (Q : hPost) : hAllOk (hJ K M_Mo_meets B Q) 0 (code_Mo_meets K B Q) := by
  refine hAllOk.c 0 (ok_iconst (n := 0) (by decide +kernel) (by decide +kernel) rfl) ?_
  refine hAllOk.c 1 (ok_istore_n (f := 2) rfl (by decide) (by decide +kernel) rfl) ?_
  refine hAllOk.c 2 (ok_aload_n (f := 0) rfl (by decide +kernel) rfl) ?_
  refine hAllOk.c 3 (ok_getfield (idx := 29) (N := 16) (T := TX6) rfl inTb6 (by decide) rfl wd_t_613 (by decide +kernel) rfl) ?_
  refine hAllOk.c 4 (ok_no) ?_
  refine hAllOk.c 5 (ok_no) ?_
  refine hAllOk.c 6 (ok_iconst (n := 0) (by decide +kernel) (by decide +kernel) rfl) ?_
  refine hAllOk.c 7 (ok_iconst (n := 0) (by decide +kernel) (by decide +kernel) rfl) ?_
  refine hAllOk.c 8 (ok_bastore (by decide +kernel) rfl) ?_
  refine hAllOk.c 9 (ok_aload_n (f := 0) rfl (by decide +kernel) rfl) ?_
  refine hAllOk.c 10 (ok_getfield (idx := 33) (N := 16) (T := TX6) rfl inTb6 (by decide) rfl wd_t_614 (by decide +kernel) rfl) ?_
  refine hAllOk.c 11 (ok_no) ?_
  refine hAllOk.c 12 (ok_no) ?_
  refine hAllOk.c 13 (ok_iconst (n := 0) (by decide +kernel) (by decide +kernel) rfl) ?_
  refine hAllOk.c 14 (ok_iconst (n := 1) (by decide +kernel) (by decide +kernel) rfl) ?_
  refine hAllOk.c 15 (ok_bastore (by decide +kernel) rfl) ?_
  refine hAllOk.c 16 (ok_aload_n (f := 0) rfl (by decide +kernel) rfl) ?_
  refine hAllOk.c 17 (ok_iconst (n := 0) (by decide +kernel) (by decide +kernel) rfl) ?_
  refine hAllOk.c 18 (ok_putfield (idx := 54) (N := 16) (T := TX6) tyX6_ok nmX6 rfl rfl inTb6 (by decide) rfl rfl wd_t_611 (by decide +kernel) rfl) ?_
  refine hAllOk.c 19 (ok_no) ?_
  refine hAllOk.c 20 (ok_no) ?_
  refine hAllOk.c 21 (ok_aload_n (f := 0) rfl (by decide +kernel) rfl) ?_
  refine hAllOk.c 22 (ok_getfield (idx := 54) (N := 16) (T := TX6) rfl inTb6 (by decide) rfl wd_t_611 (by decide +kernel) rfl) ?_
  refine hAllOk.c 23 (ok_no) ?_
  refine hAllOk.c 24 (ok_no) ?_
  refine hAllOk.c 25 (ok_aload_n (f := 0) rfl (by decide +kernel) rfl) ?_
  refine hAllOk.c 26 (ok_getfield (idx := 57) (N := 16) (T := TX6) rfl inTb6 (by decide) rfl wd_t_608 (by decide +kernel) rfl) ?_
  refine hAllOk.c 27 (ok_no) ?_
  refine hAllOk.c 28 (ok_no) ?_
  refine hAllOk.c 29 (ok_icge (off := 186) (by decide +kernel) (by decide +kernel) rfl) ?_
  refine hAllOk.c 30 (ok_no) ?_
  refine hAllOk.c 31 (ok_no) ?_
  refine hAllOk.c 32 (ok_aload_n (f := 0) rfl (by decide +kernel) rfl) ?_
  refine hAllOk.c 33 (ok_getfield (idx := 19) (N := 16) (T := TX6) rfl inTb6 (by decide) rfl wd_t_607 (by decide +kernel) rfl) ?_
  refine hAllOk.c 34 (ok_no) ?_
  refine hAllOk.c 35 (ok_no) ?_
  refine hAllOk.c 36 (ok_aload_n (f := 0) rfl (by decide +kernel) rfl) ?_
  refine hAllOk.c 37 (ok_getfield (idx := 54) (N := 16) (T := TX6) rfl inTb6 (by decide) rfl wd_t_611 (by decide +kernel) rfl) ?_
  refine hAllOk.c 38 (ok_no) ?_
  refine hAllOk.c 39 (ok_no) ?_
  refine hAllOk.c 40 (ok_iaload (by decide +kernel) rfl) ?_
  refine hAllOk.c 41 (ok_istore_n (f := 3) rfl (by decide) (by decide +kernel) rfl) ?_
  refine hAllOk.c 42 (ok_aload_n (f := 0) rfl (by decide +kernel) rfl) ?_
  refine hAllOk.c 43 (ok_dup (by decide +kernel) rfl) ?_
  refine hAllOk.c 44 (ok_getfield (idx := 54) (N := 16) (T := TX6) rfl inTb6 (by decide) rfl wd_t_611 (by decide +kernel) rfl) ?_
  refine hAllOk.c 45 (ok_no) ?_
  refine hAllOk.c 46 (ok_no) ?_
  refine hAllOk.c 47 (ok_iconst (n := 1) (by decide +kernel) (by decide +kernel) rfl) ?_
  refine hAllOk.c 48 (ok_iadd (by decide +kernel) rfl) ?_
  refine hAllOk.c 49 (ok_putfield (idx := 54) (N := 16) (T := TX6) tyX6_ok nmX6 rfl rfl inTb6 (by decide) rfl rfl wd_t_611 (by decide +kernel) rfl) ?_
  refine hAllOk.c 50 (ok_no) ?_
  refine hAllOk.c 51 (ok_no) ?_
  refine hAllOk.c 52 (ok_iload_n (f := 3) rfl (by decide +kernel) rfl) ?_
  refine hAllOk.c 53 (ok_bipush (n := 40) (by decide +kernel) (by decide +kernel) rfl) ?_
  refine hAllOk.c 54 (ok_no) ?_
  refine hAllOk.c 55 (ok_icne (off := 23) (by decide +kernel) (by decide +kernel) rfl) ?_
  refine hAllOk.c 56 (ok_no) ?_
  refine hAllOk.c 57 (ok_no) ?_
  refine hAllOk.c 58 (ok_iinc (n := 1) (by decide +kernel) (by decide) (by decide +kernel) rfl) ?_
  refine hAllOk.c 59 (ok_no) ?_
  refine hAllOk.c 60 (ok_no) ?_
  refine hAllOk.c 61 (ok_aload_n (f := 0) rfl (by decide +kernel) rfl) ?_
  refine hAllOk.c 62 (ok_getfield (idx := 29) (N := 16) (T := TX6) rfl inTb6 (by decide) rfl wd_t_613 (by decide +kernel) rfl) ?_
  refine hAllOk.c 63 (ok_no) ?_
  refine hAllOk.c 64 (ok_no) ?_
  refine hAllOk.c 65 (ok_iload_n (f := 2) rfl (by decide +kernel) rfl) ?_
  refine hAllOk.c 66 (ok_iconst (n := 0) (by decide +kernel) (by decide +kernel) rfl) ?_
  refine hAllOk.c 67 (ok_bastore (by decide +kernel) rfl) ?_
  refine hAllOk.c 68 (ok_aload_n (f := 0) rfl (by decide +kernel) rfl) ?_
  refine hAllOk.c 69 (ok_getfield (idx := 33) (N := 16) (T := TX6) rfl inTb6 (by decide) rfl wd_t_614 (by decide +kernel) rfl) ?_
  refine hAllOk.c 70 (ok_no) ?_
  refine hAllOk.c 71 (ok_no) ?_
  refine hAllOk.c 72 (ok_iload_n (f := 2) rfl (by decide +kernel) rfl) ?_
  refine hAllOk.c 73 (ok_iconst (n := 1) (by decide +kernel) (by decide +kernel) rfl) ?_
  refine hAllOk.c 74 (ok_bastore (by decide +kernel) rfl) ?_
  refine hAllOk.c 75 (ok_goto (off := 137) (by decide +kernel) (by decide +kernel)) ?_
  refine hAllOk.c 76 (ok_no) ?_
  refine hAllOk.c 77 (ok_no) ?_
  refine hAllOk.c 78 (ok_iload_n (f := 3) rfl (by decide +kernel) rfl) ?_
  refine hAllOk.c 79 (ok_bipush (n := 41) (by decide +kernel) (by decide +kernel) rfl) ?_
  refine hAllOk.c 80 (ok_no) ?_
  refine hAllOk.c 81 (ok_icne (off := 51) (by decide +kernel) (by decide +kernel) rfl) ?_
  refine hAllOk.c 82 (ok_no) ?_
  refine hAllOk.c 83 (ok_no) ?_
  refine hAllOk.c 84 (ok_iinc (n := -1) (by decide +kernel) (by decide) (by decide +kernel) rfl) ?_
  refine hAllOk.c 85 (ok_no) ?_
  refine hAllOk.c 86 (ok_no) ?_
  refine hAllOk.c 87 (ok_aload_n (f := 0) rfl (by decide +kernel) rfl) ?_
  refine hAllOk.c 88 (ok_getfield (idx := 33) (N := 16) (T := TX6) rfl inTb6 (by decide) rfl wd_t_614 (by decide +kernel) rfl) ?_
  refine hAllOk.c 89 (ok_no) ?_
  refine hAllOk.c 90 (ok_no) ?_
  refine hAllOk.c 91 (ok_iload_n (f := 2) rfl (by decide +kernel) rfl) ?_
  refine hAllOk.c 92 (ok_aload_n (f := 0) rfl (by decide +kernel) rfl) ?_
  refine hAllOk.c 93 (ok_getfield (idx := 33) (N := 16) (T := TX6) rfl inTb6 (by decide) rfl wd_t_614 (by decide +kernel) rfl) ?_
  refine hAllOk.c 94 (ok_no) ?_
  refine hAllOk.c 95 (ok_no) ?_
  refine hAllOk.c 96 (ok_iload_n (f := 2) rfl (by decide +kernel) rfl) ?_
  refine hAllOk.c 97 (ok_baload (by decide +kernel) rfl) ?_
  refine hAllOk.c 98 (ok_ifeq (off := 29) (by decide +kernel) (by decide +kernel) rfl) ?_
  refine hAllOk.c 99 (ok_no) ?_
  refine hAllOk.c 100 (ok_no) ?_
  refine hAllOk.c 101 (ok_aload_n (f := 0) rfl (by decide +kernel) rfl) ?_
  refine hAllOk.c 102 (ok_getfield (idx := 29) (N := 16) (T := TX6) rfl inTb6 (by decide) rfl wd_t_613 (by decide +kernel) rfl) ?_
  refine hAllOk.c 103 (ok_no) ?_
  refine hAllOk.c 104 (ok_no) ?_
  refine hAllOk.c 105 (ok_iload_n (f := 2) rfl (by decide +kernel) rfl) ?_
  refine hAllOk.c 106 (ok_iconst (n := 1) (by decide +kernel) (by decide +kernel) rfl) ?_
  refine hAllOk.c 107 (ok_iadd (by decide +kernel) rfl) ?_
  refine hAllOk.c 108 (ok_baload (by decide +kernel) rfl) ?_
  refine hAllOk.c 109 (ok_ifne (off := 14) (by decide +kernel) (by decide +kernel) rfl) ?_
  refine hAllOk.c 110 (ok_no) ?_
  refine hAllOk.c 111 (ok_no) ?_
  refine hAllOk.c 112 (ok_aload_n (f := 0) rfl (by decide +kernel) rfl) ?_
  refine hAllOk.c 113 (ok_getfield (idx := 33) (N := 16) (T := TX6) rfl inTb6 (by decide) rfl wd_t_614 (by decide +kernel) rfl) ?_
  refine hAllOk.c 114 (ok_no) ?_
  refine hAllOk.c 115 (ok_no) ?_
  refine hAllOk.c 116 (ok_iload_n (f := 2) rfl (by decide +kernel) rfl) ?_
  refine hAllOk.c 117 (ok_iconst (n := 1) (by decide +kernel) (by decide +kernel) rfl) ?_
  refine hAllOk.c 118 (ok_iadd (by decide +kernel) rfl) ?_
  refine hAllOk.c 119 (ok_baload (by decide +kernel) rfl) ?_
  refine hAllOk.c 120 (ok_ifeq (off := 7) (by decide +kernel) (by decide +kernel) rfl) ?_
  refine hAllOk.c 121 (ok_no) ?_
  refine hAllOk.c 122 (ok_no) ?_
  refine hAllOk.c 123 (ok_iconst (n := 1) (by decide +kernel) (by decide +kernel) rfl) ?_
  refine hAllOk.c 124 (ok_goto (off := 4) (by decide +kernel) (by decide +kernel)) ?_
  refine hAllOk.c 125 (ok_no) ?_
  refine hAllOk.c 126 (ok_no) ?_
  refine hAllOk.c 127 (ok_iconst (n := 0) (by decide +kernel) (by decide +kernel) rfl) ?_
  refine hAllOk.c 128 (ok_bastore (by decide +kernel) rfl) ?_
  refine hAllOk.c 129 (ok_goto (off := 83) (by decide +kernel) (by decide +kernel)) ?_
  refine hAllOk.c 130 (ok_no) ?_
  refine hAllOk.c 131 (ok_no) ?_
  refine hAllOk.c 132 (ok_iload_n (f := 3) rfl (by decide +kernel) rfl) ?_
  refine hAllOk.c 133 (ok_bipush (n := 124) (by decide +kernel) (by decide +kernel) rfl) ?_
  refine hAllOk.c 134 (ok_no) ?_
  refine hAllOk.c 135 (ok_icne (off := 42) (by decide +kernel) (by decide +kernel) rfl) ?_
  refine hAllOk.c 136 (ok_no) ?_
  refine hAllOk.c 137 (ok_no) ?_
  refine hAllOk.c 138 (ok_aload_n (f := 0) rfl (by decide +kernel) rfl) ?_
  refine hAllOk.c 139 (ok_getfield (idx := 29) (N := 16) (T := TX6) rfl inTb6 (by decide) rfl wd_t_613 (by decide +kernel) rfl) ?_
  refine hAllOk.c 140 (ok_no) ?_
  refine hAllOk.c 141 (ok_no) ?_
  refine hAllOk.c 142 (ok_iload_n (f := 2) rfl (by decide +kernel) rfl) ?_
  refine hAllOk.c 143 (ok_aload_n (f := 0) rfl (by decide +kernel) rfl) ?_
  refine hAllOk.c 144 (ok_getfield (idx := 29) (N := 16) (T := TX6) rfl inTb6 (by decide) rfl wd_t_613 (by decide +kernel) rfl) ?_
  refine hAllOk.c 145 (ok_no) ?_
  refine hAllOk.c 146 (ok_no) ?_
  refine hAllOk.c 147 (ok_iload_n (f := 2) rfl (by decide +kernel) rfl) ?_
  refine hAllOk.c 148 (ok_baload (by decide +kernel) rfl) ?_
  refine hAllOk.c 149 (ok_ifne (off := 12) (by decide +kernel) (by decide +kernel) rfl) ?_
  refine hAllOk.c 150 (ok_no) ?_
  refine hAllOk.c 151 (ok_no) ?_
  refine hAllOk.c 152 (ok_aload_n (f := 0) rfl (by decide +kernel) rfl) ?_
  refine hAllOk.c 153 (ok_getfield (idx := 33) (N := 16) (T := TX6) rfl inTb6 (by decide) rfl wd_t_614 (by decide +kernel) rfl) ?_
  refine hAllOk.c 154 (ok_no) ?_
  refine hAllOk.c 155 (ok_no) ?_
  refine hAllOk.c 156 (ok_iload_n (f := 2) rfl (by decide +kernel) rfl) ?_
  refine hAllOk.c 157 (ok_baload (by decide +kernel) rfl) ?_
  refine hAllOk.c 158 (ok_ifeq (off := 7) (by decide +kernel) (by decide +kernel) rfl) ?_
  refine hAllOk.c 159 (ok_no) ?_
  refine hAllOk.c 160 (ok_no) ?_
  refine hAllOk.c 161 (ok_iconst (n := 1) (by decide +kernel) (by decide +kernel) rfl) ?_
  refine hAllOk.c 162 (ok_goto (off := 4) (by decide +kernel) (by decide +kernel)) ?_
  refine hAllOk.c 163 (ok_no) ?_
  refine hAllOk.c 164 (ok_no) ?_
  refine hAllOk.c 165 (ok_iconst (n := 0) (by decide +kernel) (by decide +kernel) rfl) ?_
  refine hAllOk.c 166 (ok_bastore (by decide +kernel) rfl) ?_
  refine hAllOk.c 167 (ok_aload_n (f := 0) rfl (by decide +kernel) rfl) ?_
  refine hAllOk.c 168 (ok_getfield (idx := 33) (N := 16) (T := TX6) rfl inTb6 (by decide) rfl wd_t_614 (by decide +kernel) rfl) ?_
  refine hAllOk.c 169 (ok_no) ?_
  refine hAllOk.c 170 (ok_no) ?_
  refine hAllOk.c 171 (ok_iload_n (f := 2) rfl (by decide +kernel) rfl) ?_
  refine hAllOk.c 172 (ok_iconst (n := 1) (by decide +kernel) (by decide +kernel) rfl) ?_
  refine hAllOk.c 173 (ok_bastore (by decide +kernel) rfl) ?_
  refine hAllOk.c 174 (ok_goto (off := 38) (by decide +kernel) (by decide +kernel)) ?_
  refine hAllOk.c 175 (ok_no) ?_
  refine hAllOk.c 176 (ok_no) ?_
  refine hAllOk.c 177 (ok_iload_n (f := 3) rfl (by decide +kernel) rfl) ?_
  refine hAllOk.c 178 (ok_bipush (n := 38) (by decide +kernel) (by decide +kernel) rfl) ?_
  refine hAllOk.c 179 (ok_no) ?_
  refine hAllOk.c 180 (ok_iceq (off := 32) (by decide +kernel) (by decide +kernel) rfl) ?_
  refine hAllOk.c 181 (ok_no) ?_
  refine hAllOk.c 182 (ok_no) ?_
  refine hAllOk.c 183 (ok_aload_n (f := 0) rfl (by decide +kernel) rfl) ?_
  refine hAllOk.c 184 (ok_getfield (idx := 33) (N := 16) (T := TX6) rfl inTb6 (by decide) rfl wd_t_614 (by decide +kernel) rfl) ?_
  refine hAllOk.c 185 (ok_no) ?_
  refine hAllOk.c 186 (ok_no) ?_
  refine hAllOk.c 187 (ok_iload_n (f := 2) rfl (by decide +kernel) rfl) ?_
  refine hAllOk.c 188 (ok_aload_n (f := 0) rfl (by decide +kernel) rfl) ?_
  refine hAllOk.c 189 (ok_getfield (idx := 33) (N := 16) (T := TX6) rfl inTb6 (by decide) rfl wd_t_614 (by decide +kernel) rfl) ?_
  refine hAllOk.c 190 (ok_no) ?_
  refine hAllOk.c 191 (ok_no) ?_
  refine hAllOk.c 192 (ok_iload_n (f := 2) rfl (by decide +kernel) rfl) ?_
  refine hAllOk.c 193 (ok_baload (by decide +kernel) rfl) ?_
  refine hAllOk.c 194 (ok_ifeq (off := 16) (by decide +kernel) (by decide +kernel) rfl) ?_
  refine hAllOk.c 195 (ok_no) ?_
  refine hAllOk.c 196 (ok_no) ?_
  refine hAllOk.c 197 (ok_aload_n (f := 0) rfl (by decide +kernel) rfl) ?_
  refine hAllOk.c 198 (ok_iload_n (f := 3) rfl (by decide +kernel) rfl) ?_
  refine hAllOk.c 199 (ok_iload_n (f := 1) rfl (by decide +kernel) rfl) ?_
  refine hAllOk.c 200 (ok_callV (idx := 74) ⟨wd_t_709, wd_t_7, by decide +kernel, by decide +kernel⟩ rfl rfl wd_t_706 wd_t_708 wd_s_60 (by decide +kernel) rfl) ?_
  refine hAllOk.c 201 (ok_no) ?_
  refine hAllOk.c 202 (ok_no) ?_
  refine hAllOk.c 203 (ok_ifeq (off := 7) (by decide +kernel) (by decide +kernel) rfl) ?_
  refine hAllOk.c 204 (ok_no) ?_
  refine hAllOk.c 205 (ok_no) ?_
  refine hAllOk.c 206 (ok_iconst (n := 1) (by decide +kernel) (by decide +kernel) rfl) ?_
  refine hAllOk.c 207 (ok_goto (off := 4) (by decide +kernel) (by decide +kernel)) ?_
  refine hAllOk.c 208 (ok_no) ?_
  refine hAllOk.c 209 (ok_no) ?_
  refine hAllOk.c 210 (ok_iconst (n := 0) (by decide +kernel) (by decide +kernel) rfl) ?_
  refine hAllOk.c 211 (ok_bastore (by decide +kernel) rfl) ?_
  refine hAllOk.c 212 (ok_goto (off := (-191)) (by decide +kernel) (by decide +kernel)) ?_
  refine hAllOk.c 213 (ok_no) ?_
  refine hAllOk.c 214 (ok_no) ?_
  refine hAllOk.c 215 (ok_aload_n (f := 0) rfl (by decide +kernel) rfl) ?_
  refine hAllOk.c 216 (ok_getfield (idx := 29) (N := 16) (T := TX6) rfl inTb6 (by decide) rfl wd_t_613 (by decide +kernel) rfl) ?_
  refine hAllOk.c 217 (ok_no) ?_
  refine hAllOk.c 218 (ok_no) ?_
  refine hAllOk.c 219 (ok_iconst (n := 0) (by decide +kernel) (by decide +kernel) rfl) ?_
  refine hAllOk.c 220 (ok_baload (by decide +kernel) rfl) ?_
  refine hAllOk.c 221 (ok_ifne (off := 12) (by decide +kernel) (by decide +kernel) rfl) ?_
  refine hAllOk.c 222 (ok_no) ?_
  refine hAllOk.c 223 (ok_no) ?_
  refine hAllOk.c 224 (ok_aload_n (f := 0) rfl (by decide +kernel) rfl) ?_
  refine hAllOk.c 225 (ok_getfield (idx := 33) (N := 16) (T := TX6) rfl inTb6 (by decide) rfl wd_t_614 (by decide +kernel) rfl) ?_
  refine hAllOk.c 226 (ok_no) ?_
  refine hAllOk.c 227 (ok_no) ?_
  refine hAllOk.c 228 (ok_iconst (n := 0) (by decide +kernel) (by decide +kernel) rfl) ?_
  refine hAllOk.c 229 (ok_baload (by decide +kernel) rfl) ?_
  refine hAllOk.c 230 (ok_ifeq (off := 7) (by decide +kernel) (by decide +kernel) rfl) ?_
  refine hAllOk.c 231 (ok_no) ?_
  refine hAllOk.c 232 (ok_no) ?_
  refine hAllOk.c 233 (ok_iconst (n := 1) (by decide +kernel) (by decide +kernel) rfl) ?_
  refine hAllOk.c 234 (ok_goto (off := 4) (by decide +kernel) (by decide +kernel)) ?_
  refine hAllOk.c 235 (ok_no) ?_
  refine hAllOk.c 236 (ok_no) ?_
  refine hAllOk.c 237 (ok_iconst (n := 0) (by decide +kernel) (by decide +kernel) rfl) ?_
  refine hAllOk.c 238 (ok_ireturn (by decide +kernel)) ?_
  trivial
def M_Mo_charges : hM := (yX6_charges, prog_8_method_28_code, 2, none, 1, 21)
def code_Mo_charges (K : hK) (B : Nat × Nat) (Q : hPost) : List hSem := [x_aload 1 0, x_getfield 4 6 0, x_no, x_no, x_iload 5 1, x_const 6 (3), x_callS K 9 M_Mo_at 2, x_no, x_no, x_dup2 10, x_iaload K 11, x_aload 12 0, x_getfield 15 6 0, x_no, x_no, x_const 16 (1), x_iaload K 17, x_aload 18 0, x_getfield 21 6 0, x_no, x_no, x_const 22 (5), x_iaload K 23, x_icle 36 26, x_no, x_no, x_aload 27 0, x_getfield 30 6 0, x_no, x_no, x_const 32 (6), x_no, x_iaload K 33, x_goto 37, x_no, x_no, x_const 37 (0), x_iadd 38, x_iastore K 39, x_return Q]
set_option maxRecDepth 100000 in
set_option maxHeartbeats 4000000 in
theorem okc_Mo_charges (K : hK) (B : Nat × Nat) (Q : hPost) : hAllOk (hJ K M_Mo_charges B Q) 0 (code_Mo_charges K B Q) := by
  refine hAllOk.c 0 (ok_aload_n (f := 0) rfl (by decide +kernel) rfl) ?_
  refine hAllOk.c 1 (ok_getfield (idx := 7) (N := 16) (T := TX6) rfl inTb6 (by decide) rfl wd_t_602 (by decide +kernel) rfl) ?_
  refine hAllOk.c 2 (ok_no) ?_
  refine hAllOk.c 3 (ok_no) ?_
  refine hAllOk.c 4 (ok_iload_n (f := 1) rfl (by decide +kernel) rfl) ?_
  refine hAllOk.c 5 (ok_iconst (n := 3) (by decide +kernel) (by decide +kernel) rfl) ?_
  refine hAllOk.c 6 (ok_callS (idx := 50) ⟨wd_t_669, wd_t_7, by decide +kernel, by decide +kernel⟩ wd_t_667 wd_t_668 (by decide +kernel) rfl) ?_
  refine hAllOk.c 7 (ok_no) ?_
  refine hAllOk.c 8 (ok_no) ?_
  refine hAllOk.c 9 (ok_dup2 (by decide +kernel) rfl) ?_
  refine hAllOk.c 10 (ok_iaload (by decide +kernel) rfl) ?_
  refine hAllOk.c 11 (ok_aload_n (f := 0) rfl (by decide +kernel) rfl) ?_
  refine hAllOk.c 12 (ok_getfield (idx := 7) (N := 16) (T := TX6) rfl inTb6 (by decide) rfl wd_t_602 (by decide +kernel) rfl) ?_
  refine hAllOk.c 13 (ok_no) ?_
  refine hAllOk.c 14 (ok_no) ?_
  refine hAllOk.c 15 (ok_iconst (n := 1) (by decide +kernel) (by decide +kernel) rfl) ?_
  refine hAllOk.c 16 (ok_iaload (by decide +kernel) rfl) ?_
  refine hAllOk.c 17 (ok_aload_n (f := 0) rfl (by decide +kernel) rfl) ?_
  refine hAllOk.c 18 (ok_getfield (idx := 7) (N := 16) (T := TX6) rfl inTb6 (by decide) rfl wd_t_602 (by decide +kernel) rfl) ?_
  refine hAllOk.c 19 (ok_no) ?_
  refine hAllOk.c 20 (ok_no) ?_
  refine hAllOk.c 21 (ok_iconst (n := 5) (by decide +kernel) (by decide +kernel) rfl) ?_
  refine hAllOk.c 22 (ok_iaload (by decide +kernel) rfl) ?_
  refine hAllOk.c 23 (ok_icle (off := 13) (by decide +kernel) (by decide +kernel) rfl) ?_
  refine hAllOk.c 24 (ok_no) ?_
  refine hAllOk.c 25 (ok_no) ?_
  refine hAllOk.c 26 (ok_aload_n (f := 0) rfl (by decide +kernel) rfl) ?_
  refine hAllOk.c 27 (ok_getfield (idx := 7) (N := 16) (T := TX6) rfl inTb6 (by decide) rfl wd_t_602 (by decide +kernel) rfl) ?_
  refine hAllOk.c 28 (ok_no) ?_
  refine hAllOk.c 29 (ok_no) ?_
  refine hAllOk.c 30 (ok_bipush (n := 6) (by decide +kernel) (by decide +kernel) rfl) ?_
  refine hAllOk.c 31 (ok_no) ?_
  refine hAllOk.c 32 (ok_iaload (by decide +kernel) rfl) ?_
  refine hAllOk.c 33 (ok_goto (off := 4) (by decide +kernel) (by decide +kernel)) ?_
  refine hAllOk.c 34 (ok_no) ?_
  refine hAllOk.c 35 (ok_no) ?_
  refine hAllOk.c 36 (ok_iconst (n := 0) (by decide +kernel) (by decide +kernel) rfl) ?_
  refine hAllOk.c 37 (ok_iadd (by decide +kernel) rfl) ?_
  refine hAllOk.c 38 (ok_iastore (by decide +kernel) rfl) ?_
  refine hAllOk.c 39 (ok_return rfl (by decide +kernel)) ?_
  trivial
theorem wd_t_678 : Cond.methodLink RX6 123 yX6_isGuest ∈ hTb := hTb_t (List.mem_of_getElem? (i := 678) (by decide +kernel)) (by decide +kernel)
theorem wd_t_681 : Cond.code yX6_isGuest prog_8_method_7_code 2 (some .boolean) ∈ hTb := hTb_t (List.mem_of_getElem? (i := 681) (by decide +kernel)) (by decide +kernel)
theorem wd_t_680 : Cond.instanceMethod yX6_isGuest ∈ hTb := hTb_t (List.mem_of_getElem? (i := 680) (by decide +kernel)) (by decide +kernel)
theorem wd_s_53 : Cond.selects RX6 yX6_isGuest yX6_isGuest ∈ hTb := hTb_s (List.mem_of_getElem? (i := 53) (by decide +kernel)) (by decide +kernel)
theorem wd_t_682 : Cond.methodLink RX6 126 yX6_fault ∈ hTb := hTb_t (List.mem_of_getElem? (i := 682) (by decide +kernel)) (by decide +kernel)
theorem wd_t_685 : Cond.code yX6_fault prog_8_method_15_code 2 (some .int) ∈ hTb := hTb_t (List.mem_of_getElem? (i := 685) (by decide +kernel)) (by decide +kernel)
theorem wd_t_684 : Cond.instanceMethod yX6_fault ∈ hTb := hTb_t (List.mem_of_getElem? (i := 684) (by decide +kernel)) (by decide +kernel)
theorem wd_s_54 : Cond.selects RX6 yX6_fault yX6_fault ∈ hTb := hTb_s (List.mem_of_getElem? (i := 54) (by decide +kernel)) (by decide +kernel)
theorem wd_t_698 : Cond.methodLink RX6 103 yX6_all ∈ hTb := hTb_t (List.mem_of_getElem? (i := 698) (by decide +kernel)) (by decide +kernel)
theorem wd_t_701 : Cond.code yX6_all prog_8_method_11_code 1 (some .int) ∈ hTb := hTb_t (List.mem_of_getElem? (i := 701) (by decide +kernel)) (by decide +kernel)
theorem wd_t_700 : Cond.instanceMethod yX6_all ∈ hTb := hTb_t (List.mem_of_getElem? (i := 700) (by decide +kernel)) (by decide +kernel)
theorem wd_s_58 : Cond.selects RX6 yX6_all yX6_all ∈ hTb := hTb_s (List.mem_of_getElem? (i := 58) (by decide +kernel)) (by decide +kernel)
theorem wd_t_702 : Cond.methodLink RX6 129 yX6_meets ∈ hTb := hTb_t (List.mem_of_getElem? (i := 702) (by decide +kernel)) (by decide +kernel)
theorem wd_t_705 : Cond.code yX6_meets prog_8_method_16_code 4 (some .boolean) ∈ hTb := hTb_t (List.mem_of_getElem? (i := 705) (by decide +kernel)) (by decide +kernel)
theorem wd_t_704 : Cond.instanceMethod yX6_meets ∈ hTb := hTb_t (List.mem_of_getElem? (i := 704) (by decide +kernel)) (by decide +kernel)
theorem wd_s_59 : Cond.selects RX6 yX6_meets yX6_meets ∈ hTb := hTb_s (List.mem_of_getElem? (i := 59) (by decide +kernel)) (by decide +kernel)
theorem wd_t_716 : Cond.methodLink RX6 132 yX6_charges ∈ hTb := hTb_t (List.mem_of_getElem? (i := 716) (by decide +kernel)) (by decide +kernel)
theorem wd_t_719 : Cond.code yX6_charges prog_8_method_28_code 2 none ∈ hTb := hTb_t (List.mem_of_getElem? (i := 719) (by decide +kernel)) (by decide +kernel)
theorem wd_t_718 : Cond.instanceMethod yX6_charges ∈ hTb := hTb_t (List.mem_of_getElem? (i := 718) (by decide +kernel)) (by decide +kernel)
theorem wd_s_61 : Cond.selects RX6 yX6_charges yX6_charges ∈ hTb := hTb_s (List.mem_of_getElem? (i := 61) (by decide +kernel)) (by decide +kernel)
def M_Mo_setCondition : hM := (yX6_setCondition, prog_8_method_29_code, 5, (some .int), 4, 88)
def code_Mo_setCondition (K : hK) (B : Nat × Nat) (Q : hPost) : List hSem := [x_aload 1 0, x_iload 2 1, x_callV K 5 M_Mo_isGuest 6 1, x_no, x_no, x_ifne 10 8, x_no, x_no, x_const 9 (-1), x_ireturn (some .int) Q, x_aload 11 0, x_callV K 14 M_Mo_fault 6 0, x_no, x_no, x_istore 15 2, x_iload 16 2, x_iflt 24 19, x_no, x_no, x_const 21 (-100), x_no, x_iload 22 2, x_isub 23, x_ireturn (some .int) Q, x_aload 25 0, x_getfield 28 6 10, x_no, x_no, x_aload 29 0, x_callV K 32 M_Mo_all 6 0, x_no, x_no, x_const 33 (-1), x_ixor 34, x_iand 35, x_ifeq 41 38, x_no, x_no, x_const 40 (-2), x_no, x_ireturn (some .int) Q, x_aload 42 0, x_callV K 45 M_Mo_isFixed 6 0, x_no, x_no, x_ifeq 51 48, x_no, x_no, x_const 50 (-4), x_no, x_ireturn (some .int) Q, x_aload 52 0, x_callV K 55 M_Mo_record 6 0, x_no, x_no, x_aload 56 0, x_getfield 59 6 0, x_no, x_no, x_iload 60 1, x_const 61 (4), x_callS K 64 M_Mo_at 2, x_no, x_no, x_aload 65 0, x_getfield 68 6 10, x_no, x_no, x_iastore K 69, x_const 71 (111), x_no, x_const 74 (128), x_no, x_no, x_iload 75 1, x_imul 76, x_iadd 77, x_istore 78 3, x_const 79 (0), x_istore 81 4, x_no, x_iload 83 4, x_no, x_const 86 (128), x_no, x_no, x_icge 105 89, x_no, x_no, x_aload 90 0, x_getfield 93 6 0, x_no, x_no, x_iload 94 3, x_iload 96 4, x_no, x_iadd 97, x_const 98 (0), x_iastore K 99, x_iinc 102 4 (1), x_no, x_no, x_goto 81, x_no, x_no, x_const 106 (0), x_istore 108 4, x_no, x_iload 110 4, x_no, x_const 113 (4096), x_no, x_no, x_icge 157 116, x_no, x_no, x_aload 117 0, x_getfield 120 6 0, x_no, x_no, x_iload 121 3, x_iload 123 4, x_no, x_const 125 (32), x_no, x_idiv 126, x_iadd 127, x_dup2 128, x_iaload K 129, x_aload 130 0, x_iload 132 4, x_no, x_callV K 135 M_Mo_meets 6 1, x_no, x_no, x_ifeq 148 138, x_no, x_no, x_const 139 (1), x_iload 141 4, x_no, x_const 143 (32), x_no, x_irem 144, x_ishl 145, x_goto 149, x_no, x_no, x_const 149 (0), x_ior 150, x_iastore K 151, x_iinc 154 4 (1), x_no, x_no, x_goto 108, x_no, x_no, x_aload 158 0, x_iload 159 1, x_callV K 162 M_Mo_charges 6 1, x_no, x_no, x_aload 163 0, x_getfield 166 6 0, x_no, x_no, x_iload 167 1, x_const 168 (4), x_callS K 171 M_Mo_at 2, x_no, x_no, x_iaload K 172, x_callS K 175 M_Mo_ones 1, x_no, x_no, x_ireturn (some .int) Q]
set_option maxRecDepth 100000 in
set_option maxHeartbeats 4000000 in
theorem okc_Mo_setCondition (K : hK) (B : Nat × Nat) (Q : hPost) : hAllOk (hJ K M_Mo_setCondition B Q) 0 (code_Mo_setCondition K B Q) := by
  refine hAllOk.c 0 (ok_aload_n (f := 0) rfl (by decide +kernel) rfl) ?_
  refine hAllOk.c 1 (ok_iload_n (f := 1) rfl (by decide +kernel) rfl) ?_
  refine hAllOk.c 2 (ok_callV (idx := 123) ⟨wd_t_681, wd_t_7, by decide +kernel, by decide +kernel⟩ rfl rfl wd_t_678 wd_t_680 wd_s_53 (by decide +kernel) rfl) ?_
  refine hAllOk.c 3 (ok_no) ?_
  refine hAllOk.c 4 (ok_no) ?_
  refine hAllOk.c 5 (ok_ifne (off := 5) (by decide +kernel) (by decide +kernel) rfl) ?_
  refine hAllOk.c 6 (ok_no) ?_
  refine hAllOk.c 7 (ok_no) ?_
  refine hAllOk.c 8 (ok_iconst (n := -1) (by decide +kernel) (by decide +kernel) rfl) ?_
  refine hAllOk.c 9 (ok_ireturn (by decide +kernel)) ?_
  refine hAllOk.c 10 (ok_aload_n (f := 0) rfl (by decide +kernel) rfl) ?_
  refine hAllOk.c 11 (ok_callV (idx := 126) ⟨wd_t_685, wd_t_7, by decide +kernel, by decide +kernel⟩ rfl rfl wd_t_682 wd_t_684 wd_s_54 (by decide +kernel) rfl) ?_
  refine hAllOk.c 12 (ok_no) ?_
  refine hAllOk.c 13 (ok_no) ?_
  refine hAllOk.c 14 (ok_istore_n (f := 2) rfl (by decide) (by decide +kernel) rfl) ?_
  refine hAllOk.c 15 (ok_iload_n (f := 2) rfl (by decide +kernel) rfl) ?_
  refine hAllOk.c 16 (ok_iflt (off := 8) (by decide +kernel) (by decide +kernel) rfl) ?_
  refine hAllOk.c 17 (ok_no) ?_
  refine hAllOk.c 18 (ok_no) ?_
  refine hAllOk.c 19 (ok_bipush (n := -100) (by decide +kernel) (by decide +kernel) rfl) ?_
  refine hAllOk.c 20 (ok_no) ?_
  refine hAllOk.c 21 (ok_iload_n (f := 2) rfl (by decide +kernel) rfl) ?_
  refine hAllOk.c 22 (ok_isub (by decide +kernel) rfl) ?_
  refine hAllOk.c 23 (ok_ireturn (by decide +kernel)) ?_
  refine hAllOk.c 24 (ok_aload_n (f := 0) rfl (by decide +kernel) rfl) ?_
  refine hAllOk.c 25 (ok_getfield (idx := 68) (N := 16) (T := TX6) rfl inTb6 (by decide) rfl wd_t_612 (by decide +kernel) rfl) ?_
  refine hAllOk.c 26 (ok_no) ?_
  refine hAllOk.c 27 (ok_no) ?_
  refine hAllOk.c 28 (ok_aload_n (f := 0) rfl (by decide +kernel) rfl) ?_
  refine hAllOk.c 29 (ok_callV (idx := 103) ⟨wd_t_701, wd_t_7, by decide +kernel, by decide +kernel⟩ rfl rfl wd_t_698 wd_t_700 wd_s_58 (by decide +kernel) rfl) ?_
  refine hAllOk.c 30 (ok_no) ?_
  refine hAllOk.c 31 (ok_no) ?_
  refine hAllOk.c 32 (ok_iconst (n := -1) (by decide +kernel) (by decide +kernel) rfl) ?_
  refine hAllOk.c 33 (ok_ixor (by decide +kernel) rfl) ?_
  refine hAllOk.c 34 (ok_iand (by decide +kernel) rfl) ?_
  refine hAllOk.c 35 (ok_ifeq (off := 6) (by decide +kernel) (by decide +kernel) rfl) ?_
  refine hAllOk.c 36 (ok_no) ?_
  refine hAllOk.c 37 (ok_no) ?_
  refine hAllOk.c 38 (ok_bipush (n := -2) (by decide +kernel) (by decide +kernel) rfl) ?_
  refine hAllOk.c 39 (ok_no) ?_
  refine hAllOk.c 40 (ok_ireturn (by decide +kernel)) ?_
  refine hAllOk.c 41 (ok_aload_n (f := 0) rfl (by decide +kernel) rfl) ?_
  refine hAllOk.c 42 (ok_callV (idx := 113) ⟨wd_t_662, wd_t_7, by decide +kernel, by decide +kernel⟩ rfl rfl wd_t_659 wd_t_661 wd_s_50 (by decide +kernel) rfl) ?_
  refine hAllOk.c 43 (ok_no) ?_
  refine hAllOk.c 44 (ok_no) ?_
  refine hAllOk.c 45 (ok_ifeq (off := 6) (by decide +kernel) (by decide +kernel) rfl) ?_
  refine hAllOk.c 46 (ok_no) ?_
  refine hAllOk.c 47 (ok_no) ?_
  refine hAllOk.c 48 (ok_bipush (n := -4) (by decide +kernel) (by decide +kernel) rfl) ?_
  refine hAllOk.c 49 (ok_no) ?_
  refine hAllOk.c 50 (ok_ireturn (by decide +kernel)) ?_
  refine hAllOk.c 51 (ok_aload_n (f := 0) rfl (by decide +kernel) rfl) ?_
  refine hAllOk.c 52 (ok_callV (idx := 116) ⟨wd_t_666, wd_t_7, by decide +kernel, by decide +kernel⟩ rfl rfl wd_t_663 wd_t_665 wd_s_51 (by decide +kernel) rfl) ?_
  refine hAllOk.c 53 (ok_no) ?_
  refine hAllOk.c 54 (ok_no) ?_
  refine hAllOk.c 55 (ok_aload_n (f := 0) rfl (by decide +kernel) rfl) ?_
  refine hAllOk.c 56 (ok_getfield (idx := 7) (N := 16) (T := TX6) rfl inTb6 (by decide) rfl wd_t_602 (by decide +kernel) rfl) ?_
  refine hAllOk.c 57 (ok_no) ?_
  refine hAllOk.c 58 (ok_no) ?_
  refine hAllOk.c 59 (ok_iload_n (f := 1) rfl (by decide +kernel) rfl) ?_
  refine hAllOk.c 60 (ok_iconst (n := 4) (by decide +kernel) (by decide +kernel) rfl) ?_
  refine hAllOk.c 61 (ok_callS (idx := 50) ⟨wd_t_669, wd_t_7, by decide +kernel, by decide +kernel⟩ wd_t_667 wd_t_668 (by decide +kernel) rfl) ?_
  refine hAllOk.c 62 (ok_no) ?_
  refine hAllOk.c 63 (ok_no) ?_
  refine hAllOk.c 64 (ok_aload_n (f := 0) rfl (by decide +kernel) rfl) ?_
  refine hAllOk.c 65 (ok_getfield (idx := 68) (N := 16) (T := TX6) rfl inTb6 (by decide) rfl wd_t_612 (by decide +kernel) rfl) ?_
  refine hAllOk.c 66 (ok_no) ?_
  refine hAllOk.c 67 (ok_no) ?_
  refine hAllOk.c 68 (ok_iastore (by decide +kernel) rfl) ?_
  refine hAllOk.c 69 (ok_bipush (n := 111) (by decide +kernel) (by decide +kernel) rfl) ?_
  refine hAllOk.c 70 (ok_no) ?_
  refine hAllOk.c 71 (ok_sipush (n := 128) (by decide +kernel) (by decide +kernel) rfl) ?_
  refine hAllOk.c 72 (ok_no) ?_
  refine hAllOk.c 73 (ok_no) ?_
  refine hAllOk.c 74 (ok_iload_n (f := 1) rfl (by decide +kernel) rfl) ?_
  refine hAllOk.c 75 (ok_imul (by decide +kernel) rfl) ?_
  refine hAllOk.c 76 (ok_iadd (by decide +kernel) rfl) ?_
  refine hAllOk.c 77 (ok_istore_n (f := 3) rfl (by decide) (by decide +kernel) rfl) ?_
  refine hAllOk.c 78 (ok_iconst (n := 0) (by decide +kernel) (by decide +kernel) rfl) ?_
  refine hAllOk.c 79 (ok_istore (by decide) (by decide +kernel) rfl) ?_
  refine hAllOk.c 80 (ok_no) ?_
  refine hAllOk.c 81 (ok_iload (by decide +kernel) rfl) ?_
  refine hAllOk.c 82 (ok_no) ?_
  refine hAllOk.c 83 (ok_sipush (n := 128) (by decide +kernel) (by decide +kernel) rfl) ?_
  refine hAllOk.c 84 (ok_no) ?_
  refine hAllOk.c 85 (ok_no) ?_
  refine hAllOk.c 86 (ok_icge (off := 19) (by decide +kernel) (by decide +kernel) rfl) ?_
  refine hAllOk.c 87 (ok_no) ?_
  refine hAllOk.c 88 (ok_no) ?_
  refine hAllOk.c 89 (ok_aload_n (f := 0) rfl (by decide +kernel) rfl) ?_
  refine hAllOk.c 90 (ok_getfield (idx := 7) (N := 16) (T := TX6) rfl inTb6 (by decide) rfl wd_t_602 (by decide +kernel) rfl) ?_
  refine hAllOk.c 91 (ok_no) ?_
  refine hAllOk.c 92 (ok_no) ?_
  refine hAllOk.c 93 (ok_iload_n (f := 3) rfl (by decide +kernel) rfl) ?_
  refine hAllOk.c 94 (ok_iload (by decide +kernel) rfl) ?_
  refine hAllOk.c 95 (ok_no) ?_
  refine hAllOk.c 96 (ok_iadd (by decide +kernel) rfl) ?_
  refine hAllOk.c 97 (ok_iconst (n := 0) (by decide +kernel) (by decide +kernel) rfl) ?_
  refine hAllOk.c 98 (ok_iastore (by decide +kernel) rfl) ?_
  refine hAllOk.c 99 (ok_iinc (n := 1) (by decide +kernel) (by decide) (by decide +kernel) rfl) ?_
  refine hAllOk.c 100 (ok_no) ?_
  refine hAllOk.c 101 (ok_no) ?_
  refine hAllOk.c 102 (ok_goto (off := (-21)) (by decide +kernel) (by decide +kernel)) ?_
  refine hAllOk.c 103 (ok_no) ?_
  refine hAllOk.c 104 (ok_no) ?_
  refine hAllOk.c 105 (ok_iconst (n := 0) (by decide +kernel) (by decide +kernel) rfl) ?_
  refine hAllOk.c 106 (ok_istore (by decide) (by decide +kernel) rfl) ?_
  refine hAllOk.c 107 (ok_no) ?_
  refine hAllOk.c 108 (ok_iload (by decide +kernel) rfl) ?_
  refine hAllOk.c 109 (ok_no) ?_
  refine hAllOk.c 110 (ok_sipush (n := 4096) (by decide +kernel) (by decide +kernel) rfl) ?_
  refine hAllOk.c 111 (ok_no) ?_
  refine hAllOk.c 112 (ok_no) ?_
  refine hAllOk.c 113 (ok_icge (off := 44) (by decide +kernel) (by decide +kernel) rfl) ?_
  refine hAllOk.c 114 (ok_no) ?_
  refine hAllOk.c 115 (ok_no) ?_
  refine hAllOk.c 116 (ok_aload_n (f := 0) rfl (by decide +kernel) rfl) ?_
  refine hAllOk.c 117 (ok_getfield (idx := 7) (N := 16) (T := TX6) rfl inTb6 (by decide) rfl wd_t_602 (by decide +kernel) rfl) ?_
  refine hAllOk.c 118 (ok_no) ?_
  refine hAllOk.c 119 (ok_no) ?_
  refine hAllOk.c 120 (ok_iload_n (f := 3) rfl (by decide +kernel) rfl) ?_
  refine hAllOk.c 121 (ok_iload (by decide +kernel) rfl) ?_
  refine hAllOk.c 122 (ok_no) ?_
  refine hAllOk.c 123 (ok_bipush (n := 32) (by decide +kernel) (by decide +kernel) rfl) ?_
  refine hAllOk.c 124 (ok_no) ?_
  refine hAllOk.c 125 (ok_idiv (by decide +kernel) rfl) ?_
  refine hAllOk.c 126 (ok_iadd (by decide +kernel) rfl) ?_
  refine hAllOk.c 127 (ok_dup2 (by decide +kernel) rfl) ?_
  refine hAllOk.c 128 (ok_iaload (by decide +kernel) rfl) ?_
  refine hAllOk.c 129 (ok_aload_n (f := 0) rfl (by decide +kernel) rfl) ?_
  refine hAllOk.c 130 (ok_iload (by decide +kernel) rfl) ?_
  refine hAllOk.c 131 (ok_no) ?_
  refine hAllOk.c 132 (ok_callV (idx := 129) ⟨wd_t_705, wd_t_7, by decide +kernel, by decide +kernel⟩ rfl rfl wd_t_702 wd_t_704 wd_s_59 (by decide +kernel) rfl) ?_
  refine hAllOk.c 133 (ok_no) ?_
  refine hAllOk.c 134 (ok_no) ?_
  refine hAllOk.c 135 (ok_ifeq (off := 13) (by decide +kernel) (by decide +kernel) rfl) ?_
  refine hAllOk.c 136 (ok_no) ?_
  refine hAllOk.c 137 (ok_no) ?_
  refine hAllOk.c 138 (ok_iconst (n := 1) (by decide +kernel) (by decide +kernel) rfl) ?_
  refine hAllOk.c 139 (ok_iload (by decide +kernel) rfl) ?_
  refine hAllOk.c 140 (ok_no) ?_
  refine hAllOk.c 141 (ok_bipush (n := 32) (by decide +kernel) (by decide +kernel) rfl) ?_
  refine hAllOk.c 142 (ok_no) ?_
  refine hAllOk.c 143 (ok_irem (by decide +kernel) rfl) ?_
  refine hAllOk.c 144 (ok_ishl (by decide +kernel) rfl) ?_
  refine hAllOk.c 145 (ok_goto (off := 4) (by decide +kernel) (by decide +kernel)) ?_
  refine hAllOk.c 146 (ok_no) ?_
  refine hAllOk.c 147 (ok_no) ?_
  refine hAllOk.c 148 (ok_iconst (n := 0) (by decide +kernel) (by decide +kernel) rfl) ?_
  refine hAllOk.c 149 (ok_ior (by decide +kernel) rfl) ?_
  refine hAllOk.c 150 (ok_iastore (by decide +kernel) rfl) ?_
  refine hAllOk.c 151 (ok_iinc (n := 1) (by decide +kernel) (by decide) (by decide +kernel) rfl) ?_
  refine hAllOk.c 152 (ok_no) ?_
  refine hAllOk.c 153 (ok_no) ?_
  refine hAllOk.c 154 (ok_goto (off := (-46)) (by decide +kernel) (by decide +kernel)) ?_
  refine hAllOk.c 155 (ok_no) ?_
  refine hAllOk.c 156 (ok_no) ?_
  refine hAllOk.c 157 (ok_aload_n (f := 0) rfl (by decide +kernel) rfl) ?_
  refine hAllOk.c 158 (ok_iload_n (f := 1) rfl (by decide +kernel) rfl) ?_
  refine hAllOk.c 159 (ok_callV (idx := 132) ⟨wd_t_719, wd_t_7, by decide +kernel, by decide +kernel⟩ rfl rfl wd_t_716 wd_t_718 wd_s_61 (by decide +kernel) rfl) ?_
  refine hAllOk.c 160 (ok_no) ?_
  refine hAllOk.c 161 (ok_no) ?_
  refine hAllOk.c 162 (ok_aload_n (f := 0) rfl (by decide +kernel) rfl) ?_
  refine hAllOk.c 163 (ok_getfield (idx := 7) (N := 16) (T := TX6) rfl inTb6 (by decide) rfl wd_t_602 (by decide +kernel) rfl) ?_
  refine hAllOk.c 164 (ok_no) ?_
  refine hAllOk.c 165 (ok_no) ?_
  refine hAllOk.c 166 (ok_iload_n (f := 1) rfl (by decide +kernel) rfl) ?_
  refine hAllOk.c 167 (ok_iconst (n := 4) (by decide +kernel) (by decide +kernel) rfl) ?_
  refine hAllOk.c 168 (ok_callS (idx := 50) ⟨wd_t_669, wd_t_7, by decide +kernel, by decide +kernel⟩ wd_t_667 wd_t_668 (by decide +kernel) rfl) ?_
  refine hAllOk.c 169 (ok_no) ?_
  refine hAllOk.c 170 (ok_no) ?_
  refine hAllOk.c 171 (ok_iaload (by decide +kernel) rfl) ?_
  refine hAllOk.c 172 (ok_callS (idx := 78) ⟨wd_t_712, wd_t_7, by decide +kernel, by decide +kernel⟩ wd_t_710 wd_t_711 (by decide +kernel) rfl) ?_
  refine hAllOk.c 173 (ok_no) ?_
  refine hAllOk.c 174 (ok_no) ?_
  refine hAllOk.c 175 (ok_ireturn (by decide +kernel)) ?_
  trivial
def M_Mo_changes : hM := (yX6_changes, prog_8_method_30_code, 4, (some .int), 1, 21)
def code_Mo_changes (K : hK) (B : Nat × Nat) (Q : hPost) : List hSem := [x_aload 1 0, x_callV K 4 M_Mo_isFixed 6 0, x_no, x_no, x_ifeq 10 7, x_no, x_no, x_const 9 (-4), x_no, x_ireturn (some .int) Q, x_aload 11 0, x_getfield 14 6 0, x_no, x_no, x_iload 15 1, x_iaload K 16, x_iload 17 2, x_icne 23 20, x_no, x_no, x_const 22 (-5), x_no, x_ireturn (some .int) Q, x_aload 24 0, x_callV K 27 M_Mo_record 6 0, x_no, x_no, x_aload 28 0, x_getfield 31 6 0, x_no, x_no, x_iload 32 1, x_iaload K 33, x_istore 34 3, x_aload 35 0, x_getfield 38 6 0, x_no, x_no, x_iload 39 1, x_iload 40 2, x_iastore K 41, x_iload 42 3, x_ireturn (some .int) Q]
set_option maxRecDepth 100000 in
set_option maxHeartbeats 4000000 in
theorem okc_Mo_changes (K : hK) (B : Nat × Nat) (Q : hPost) : hAllOk (hJ K M_Mo_changes B Q) 0 (code_Mo_changes K B Q) := by
  refine hAllOk.c 0 (ok_aload_n (f := 0) rfl (by decide +kernel) rfl) ?_
  refine hAllOk.c 1 (ok_callV (idx := 113) ⟨wd_t_662, wd_t_7, by decide +kernel, by decide +kernel⟩ rfl rfl wd_t_659 wd_t_661 wd_s_50 (by decide +kernel) rfl) ?_
  refine hAllOk.c 2 (ok_no) ?_
  refine hAllOk.c 3 (ok_no) ?_
  refine hAllOk.c 4 (ok_ifeq (off := 6) (by decide +kernel) (by decide +kernel) rfl) ?_
  refine hAllOk.c 5 (ok_no) ?_
  refine hAllOk.c 6 (ok_no) ?_
  refine hAllOk.c 7 (ok_bipush (n := -4) (by decide +kernel) (by decide +kernel) rfl) ?_
  refine hAllOk.c 8 (ok_no) ?_
  refine hAllOk.c 9 (ok_ireturn (by decide +kernel)) ?_
  refine hAllOk.c 10 (ok_aload_n (f := 0) rfl (by decide +kernel) rfl) ?_
  refine hAllOk.c 11 (ok_getfield (idx := 7) (N := 16) (T := TX6) rfl inTb6 (by decide) rfl wd_t_602 (by decide +kernel) rfl) ?_
  refine hAllOk.c 12 (ok_no) ?_
  refine hAllOk.c 13 (ok_no) ?_
  refine hAllOk.c 14 (ok_iload_n (f := 1) rfl (by decide +kernel) rfl) ?_
  refine hAllOk.c 15 (ok_iaload (by decide +kernel) rfl) ?_
  refine hAllOk.c 16 (ok_iload_n (f := 2) rfl (by decide +kernel) rfl) ?_
  refine hAllOk.c 17 (ok_icne (off := 6) (by decide +kernel) (by decide +kernel) rfl) ?_
  refine hAllOk.c 18 (ok_no) ?_
  refine hAllOk.c 19 (ok_no) ?_
  refine hAllOk.c 20 (ok_bipush (n := -5) (by decide +kernel) (by decide +kernel) rfl) ?_
  refine hAllOk.c 21 (ok_no) ?_
  refine hAllOk.c 22 (ok_ireturn (by decide +kernel)) ?_
  refine hAllOk.c 23 (ok_aload_n (f := 0) rfl (by decide +kernel) rfl) ?_
  refine hAllOk.c 24 (ok_callV (idx := 116) ⟨wd_t_666, wd_t_7, by decide +kernel, by decide +kernel⟩ rfl rfl wd_t_663 wd_t_665 wd_s_51 (by decide +kernel) rfl) ?_
  refine hAllOk.c 25 (ok_no) ?_
  refine hAllOk.c 26 (ok_no) ?_
  refine hAllOk.c 27 (ok_aload_n (f := 0) rfl (by decide +kernel) rfl) ?_
  refine hAllOk.c 28 (ok_getfield (idx := 7) (N := 16) (T := TX6) rfl inTb6 (by decide) rfl wd_t_602 (by decide +kernel) rfl) ?_
  refine hAllOk.c 29 (ok_no) ?_
  refine hAllOk.c 30 (ok_no) ?_
  refine hAllOk.c 31 (ok_iload_n (f := 1) rfl (by decide +kernel) rfl) ?_
  refine hAllOk.c 32 (ok_iaload (by decide +kernel) rfl) ?_
  refine hAllOk.c 33 (ok_istore_n (f := 3) rfl (by decide) (by decide +kernel) rfl) ?_
  refine hAllOk.c 34 (ok_aload_n (f := 0) rfl (by decide +kernel) rfl) ?_
  refine hAllOk.c 35 (ok_getfield (idx := 7) (N := 16) (T := TX6) rfl inTb6 (by decide) rfl wd_t_602 (by decide +kernel) rfl) ?_
  refine hAllOk.c 36 (ok_no) ?_
  refine hAllOk.c 37 (ok_no) ?_
  refine hAllOk.c 38 (ok_iload_n (f := 1) rfl (by decide +kernel) rfl) ?_
  refine hAllOk.c 39 (ok_iload_n (f := 2) rfl (by decide +kernel) rfl) ?_
  refine hAllOk.c 40 (ok_iastore (by decide +kernel) rfl) ?_
  refine hAllOk.c 41 (ok_iload_n (f := 3) rfl (by decide +kernel) rfl) ?_
  refine hAllOk.c 42 (ok_ireturn (by decide +kernel)) ?_
  trivial
theorem wd_t_724 : Cond.methodLink RX6 135 yX6_changes ∈ hTb := hTb_t (List.mem_of_getElem? (i := 724) (by decide +kernel)) (by decide +kernel)
theorem wd_t_727 : Cond.code yX6_changes prog_8_method_30_code 4 (some .int) ∈ hTb := hTb_t (List.mem_of_getElem? (i := 727) (by decide +kernel)) (by decide +kernel)
theorem wd_t_726 : Cond.instanceMethod yX6_changes ∈ hTb := hTb_t (List.mem_of_getElem? (i := 726) (by decide +kernel)) (by decide +kernel)
theorem wd_s_62 : Cond.selects RX6 yX6_changes yX6_changes ∈ hTb := hTb_s (List.mem_of_getElem? (i := 62) (by decide +kernel)) (by decide +kernel)
def M_Mo_setLimit : hM := (yX6_setLimit, prog_8_method_31_code, 4, (some .int), 2, 44)
def code_Mo_setLimit (K : hK) (B : Nat × Nat) (Q : hPost) : List hSem := [x_aload 1 0, x_iload 2 1, x_callV K 5 M_Mo_isGuest 6 1, x_no, x_no, x_ifne 10 8, x_no, x_no, x_const 9 (-1), x_ireturn (some .int) Q, x_iload 11 2, x_const 12 (0), x_const 14 (99999), x_no, x_callS K 17 M_Mo_in 3, x_no, x_no, x_ifne 23 20, x_no, x_no, x_const 22 (-2), x_no, x_ireturn (some .int) Q, x_aload 24 0, x_iload 25 1, x_const 26 (0), x_callS K 29 M_Mo_at 2, x_no, x_no, x_iload 30 2, x_callV K 33 M_Mo_changes 6 2, x_no, x_no, x_istore 34 3, x_iload 35 3, x_iflt 43 38, x_no, x_no, x_aload 39 0, x_iload 40 1, x_callV K 43 M_Mo_charges 6 1, x_no, x_no, x_iload 44 3, x_ireturn (some .int) Q]
set_option maxRecDepth 100000 in
set_option maxHeartbeats 4000000 in
theorem okc_Mo_setLimit (K : hK) (B : Nat × Nat) (Q : hPost) : hAllOk (hJ K M_Mo_setLimit B Q) 0 (code_Mo_setLimit K B Q) := by
  refine hAllOk.c 0 (ok_aload_n (f := 0) rfl (by decide +kernel) rfl) ?_
  refine hAllOk.c 1 (ok_iload_n (f := 1) rfl (by decide +kernel) rfl) ?_
  refine hAllOk.c 2 (ok_callV (idx := 123) ⟨wd_t_681, wd_t_7, by decide +kernel, by decide +kernel⟩ rfl rfl wd_t_678 wd_t_680 wd_s_53 (by decide +kernel) rfl) ?_
  refine hAllOk.c 3 (ok_no) ?_
  refine hAllOk.c 4 (ok_no) ?_
  refine hAllOk.c 5 (ok_ifne (off := 5) (by decide +kernel) (by decide +kernel) rfl) ?_
  refine hAllOk.c 6 (ok_no) ?_
  refine hAllOk.c 7 (ok_no) ?_
  refine hAllOk.c 8 (ok_iconst (n := -1) (by decide +kernel) (by decide +kernel) rfl) ?_
  refine hAllOk.c 9 (ok_ireturn (by decide +kernel)) ?_
  refine hAllOk.c 10 (ok_iload_n (f := 2) rfl (by decide +kernel) rfl) ?_
  refine hAllOk.c 11 (ok_iconst (n := 0) (by decide +kernel) (by decide +kernel) rfl) ?_
  refine hAllOk.c 12 (ok_ldc (i := 25) wd_t_601 (by decide +kernel) rfl) ?_
  refine hAllOk.c 13 (ok_no) ?_
  refine hAllOk.c 14 (ok_callS (idx := 46) ⟨wd_t_658, wd_t_7, by decide +kernel, by decide +kernel⟩ wd_t_656 wd_t_657 (by decide +kernel) rfl) ?_
  refine hAllOk.c 15 (ok_no) ?_
  refine hAllOk.c 16 (ok_no) ?_
  refine hAllOk.c 17 (ok_ifne (off := 6) (by decide +kernel) (by decide +kernel) rfl) ?_
  refine hAllOk.c 18 (ok_no) ?_
  refine hAllOk.c 19 (ok_no) ?_
  refine hAllOk.c 20 (ok_bipush (n := -2) (by decide +kernel) (by decide +kernel) rfl) ?_
  refine hAllOk.c 21 (ok_no) ?_
  refine hAllOk.c 22 (ok_ireturn (by decide +kernel)) ?_
  refine hAllOk.c 23 (ok_aload_n (f := 0) rfl (by decide +kernel) rfl) ?_
  refine hAllOk.c 24 (ok_iload_n (f := 1) rfl (by decide +kernel) rfl) ?_
  refine hAllOk.c 25 (ok_iconst (n := 0) (by decide +kernel) (by decide +kernel) rfl) ?_
  refine hAllOk.c 26 (ok_callS (idx := 50) ⟨wd_t_669, wd_t_7, by decide +kernel, by decide +kernel⟩ wd_t_667 wd_t_668 (by decide +kernel) rfl) ?_
  refine hAllOk.c 27 (ok_no) ?_
  refine hAllOk.c 28 (ok_no) ?_
  refine hAllOk.c 29 (ok_iload_n (f := 2) rfl (by decide +kernel) rfl) ?_
  refine hAllOk.c 30 (ok_callV (idx := 135) ⟨wd_t_727, wd_t_7, by decide +kernel, by decide +kernel⟩ rfl rfl wd_t_724 wd_t_726 wd_s_62 (by decide +kernel) rfl) ?_
  refine hAllOk.c 31 (ok_no) ?_
  refine hAllOk.c 32 (ok_no) ?_
  refine hAllOk.c 33 (ok_istore_n (f := 3) rfl (by decide) (by decide +kernel) rfl) ?_
  refine hAllOk.c 34 (ok_iload_n (f := 3) rfl (by decide +kernel) rfl) ?_
  refine hAllOk.c 35 (ok_iflt (off := 8) (by decide +kernel) (by decide +kernel) rfl) ?_
  refine hAllOk.c 36 (ok_no) ?_
  refine hAllOk.c 37 (ok_no) ?_
  refine hAllOk.c 38 (ok_aload_n (f := 0) rfl (by decide +kernel) rfl) ?_
  refine hAllOk.c 39 (ok_iload_n (f := 1) rfl (by decide +kernel) rfl) ?_
  refine hAllOk.c 40 (ok_callV (idx := 132) ⟨wd_t_719, wd_t_7, by decide +kernel, by decide +kernel⟩ rfl rfl wd_t_716 wd_t_718 wd_s_61 (by decide +kernel) rfl) ?_
  refine hAllOk.c 41 (ok_no) ?_
  refine hAllOk.c 42 (ok_no) ?_
  refine hAllOk.c 43 (ok_iload_n (f := 3) rfl (by decide +kernel) rfl) ?_
  refine hAllOk.c 44 (ok_ireturn (by decide +kernel)) ?_
  trivial
def M_Mo_setWeight : hM := (yX6_setWeight, prog_8_method_32_code, 3, (some .int), 2, 44)
def code_Mo_setWeight (K : hK) (B : Nat × Nat) (Q : hPost) : List hSem := [x_aload 1 0, x_iload 2 1, x_callV K 5 M_Mo_isGuest 6 1, x_no, x_no, x_ifne 10 8, x_no, x_no, x_const 9 (-1), x_ireturn (some .int) Q, x_iload 11 2, x_const 12 (1), x_const 14 (9), x_no, x_callS K 17 M_Mo_in 3, x_no, x_no, x_ifeq 33 20, x_no, x_no, x_aload 21 0, x_iload 22 1, x_const 23 (1), x_callS K 26 M_Mo_at 2, x_no, x_no, x_iload 27 2, x_callV K 30 M_Mo_changes 6 2, x_no, x_no, x_goto 35, x_no, x_no, x_const 35 (-2), x_no, x_ireturn (some .int) Q]
set_option maxRecDepth 100000 in
set_option maxHeartbeats 4000000 in
theorem okc_Mo_setWeight (K : hK) (B : Nat × Nat) (Q : hPost) : hAllOk (hJ K M_Mo_setWeight B Q) 0 (code_Mo_setWeight K B Q) := by
  refine hAllOk.c 0 (ok_aload_n (f := 0) rfl (by decide +kernel) rfl) ?_
  refine hAllOk.c 1 (ok_iload_n (f := 1) rfl (by decide +kernel) rfl) ?_
  refine hAllOk.c 2 (ok_callV (idx := 123) ⟨wd_t_681, wd_t_7, by decide +kernel, by decide +kernel⟩ rfl rfl wd_t_678 wd_t_680 wd_s_53 (by decide +kernel) rfl) ?_
  refine hAllOk.c 3 (ok_no) ?_
  refine hAllOk.c 4 (ok_no) ?_
  refine hAllOk.c 5 (ok_ifne (off := 5) (by decide +kernel) (by decide +kernel) rfl) ?_
  refine hAllOk.c 6 (ok_no) ?_
  refine hAllOk.c 7 (ok_no) ?_
  refine hAllOk.c 8 (ok_iconst (n := -1) (by decide +kernel) (by decide +kernel) rfl) ?_
  refine hAllOk.c 9 (ok_ireturn (by decide +kernel)) ?_
  refine hAllOk.c 10 (ok_iload_n (f := 2) rfl (by decide +kernel) rfl) ?_
  refine hAllOk.c 11 (ok_iconst (n := 1) (by decide +kernel) (by decide +kernel) rfl) ?_
  refine hAllOk.c 12 (ok_bipush (n := 9) (by decide +kernel) (by decide +kernel) rfl) ?_
  refine hAllOk.c 13 (ok_no) ?_
  refine hAllOk.c 14 (ok_callS (idx := 46) ⟨wd_t_658, wd_t_7, by decide +kernel, by decide +kernel⟩ wd_t_656 wd_t_657 (by decide +kernel) rfl) ?_
  refine hAllOk.c 15 (ok_no) ?_
  refine hAllOk.c 16 (ok_no) ?_
  refine hAllOk.c 17 (ok_ifeq (off := 16) (by decide +kernel) (by decide +kernel) rfl) ?_
  refine hAllOk.c 18 (ok_no) ?_
  refine hAllOk.c 19 (ok_no) ?_
  refine hAllOk.c 20 (ok_aload_n (f := 0) rfl (by decide +kernel) rfl) ?_
  refine hAllOk.c 21 (ok_iload_n (f := 1) rfl (by decide +kernel) rfl) ?_
  refine hAllOk.c 22 (ok_iconst (n := 1) (by decide +kernel) (by decide +kernel) rfl) ?_
  refine hAllOk.c 23 (ok_callS (idx := 50) ⟨wd_t_669, wd_t_7, by decide +kernel, by decide +kernel⟩ wd_t_667 wd_t_668 (by decide +kernel) rfl) ?_
  refine hAllOk.c 24 (ok_no) ?_
  refine hAllOk.c 25 (ok_no) ?_
  refine hAllOk.c 26 (ok_iload_n (f := 2) rfl (by decide +kernel) rfl) ?_
  refine hAllOk.c 27 (ok_callV (idx := 135) ⟨wd_t_727, wd_t_7, by decide +kernel, by decide +kernel⟩ rfl rfl wd_t_724 wd_t_726 wd_s_62 (by decide +kernel) rfl) ?_
  refine hAllOk.c 28 (ok_no) ?_
  refine hAllOk.c 29 (ok_no) ?_
  refine hAllOk.c 30 (ok_goto (off := 5) (by decide +kernel) (by decide +kernel)) ?_
  refine hAllOk.c 31 (ok_no) ?_
  refine hAllOk.c 32 (ok_no) ?_
  refine hAllOk.c 33 (ok_bipush (n := -2) (by decide +kernel) (by decide +kernel) rfl) ?_
  refine hAllOk.c 34 (ok_no) ?_
  refine hAllOk.c 35 (ok_ireturn (by decide +kernel)) ?_
  trivial
def M_Mo_of : hM := (yX6_of, prog_8_method_10_code, 3, (some .int), 1, 21)
def code_Mo_of (K : hK) (B : Nat × Nat) (Q : hPost) : List hSem := [x_aload 1 0, x_getfield 4 6 0, x_no, x_no, x_iload 5 1, x_iload 6 2, x_callS K 9 M_Mo_at 2, x_no, x_no, x_iaload K 10, x_ireturn (some .int) Q]
set_option maxRecDepth 100000 in
set_option maxHeartbeats 4000000 in
theorem okc_Mo_of (K : hK) (B : Nat × Nat) (Q : hPost) : hAllOk (hJ K M_Mo_of B Q) 0 (code_Mo_of K B Q) := by
  refine hAllOk.c 0 (ok_aload_n (f := 0) rfl (by decide +kernel) rfl) ?_
  refine hAllOk.c 1 (ok_getfield (idx := 7) (N := 16) (T := TX6) rfl inTb6 (by decide) rfl wd_t_602 (by decide +kernel) rfl) ?_
  refine hAllOk.c 2 (ok_no) ?_
  refine hAllOk.c 3 (ok_no) ?_
  refine hAllOk.c 4 (ok_iload_n (f := 1) rfl (by decide +kernel) rfl) ?_
  refine hAllOk.c 5 (ok_iload_n (f := 2) rfl (by decide +kernel) rfl) ?_
  refine hAllOk.c 6 (ok_callS (idx := 50) ⟨wd_t_669, wd_t_7, by decide +kernel, by decide +kernel⟩ wd_t_667 wd_t_668 (by decide +kernel) rfl) ?_
  refine hAllOk.c 7 (ok_no) ?_
  refine hAllOk.c 8 (ok_no) ?_
  refine hAllOk.c 9 (ok_iaload (by decide +kernel) rfl) ?_
  refine hAllOk.c 10 (ok_ireturn (by decide +kernel)) ?_
  trivial
theorem wd_t_740 : Cond.methodLink RX6 84 yX6_of ∈ hTb := hTb_t (List.mem_of_getElem? (i := 740) (by decide +kernel)) (by decide +kernel)
theorem wd_t_743 : Cond.code yX6_of prog_8_method_10_code 3 (some .int) ∈ hTb := hTb_t (List.mem_of_getElem? (i := 743) (by decide +kernel)) (by decide +kernel)
theorem wd_t_742 : Cond.instanceMethod yX6_of ∈ hTb := hTb_t (List.mem_of_getElem? (i := 742) (by decide +kernel)) (by decide +kernel)
theorem wd_s_64 : Cond.selects RX6 yX6_of yX6_of ∈ hTb := hTb_s (List.mem_of_getElem? (i := 64) (by decide +kernel)) (by decide +kernel)
def M_Mo_invited : hM := (yX6_invited, prog_8_method_21_code, 3, (some .int), 2, 43)
def code_Mo_invited (K : hK) (B : Nat × Nat) (Q : hPost) : List hSem := [x_const 1 (0), x_istore 2 1, x_const 3 (0), x_istore 4 2, x_iload 5 2, x_aload 6 0, x_getfield 9 6 0, x_no, x_no, x_const 10 (0), x_iaload K 11, x_icge 31 14, x_no, x_no, x_iload 15 1, x_aload 16 0, x_iload 17 2, x_const 18 (2), x_callV K 21 M_Mo_of 6 2, x_no, x_no, x_iload 22 2, x_ishl 23, x_ior 24, x_istore 25 1, x_iinc 28 2 (1), x_no, x_no, x_goto 4, x_no, x_no, x_iload 32 1, x_ireturn (some .int) Q]
set_option maxRecDepth 100000 in
set_option maxHeartbeats 4000000 in
theorem okc_Mo_invited (K : hK) (B : Nat × Nat) (Q : hPost) : hAllOk (hJ K M_Mo_invited B Q) 0 (code_Mo_invited K B Q) := by
  refine hAllOk.c 0 (ok_iconst (n := 0) (by decide +kernel) (by decide +kernel) rfl) ?_
  refine hAllOk.c 1 (ok_istore_n (f := 1) rfl (by decide) (by decide +kernel) rfl) ?_
  refine hAllOk.c 2 (ok_iconst (n := 0) (by decide +kernel) (by decide +kernel) rfl) ?_
  refine hAllOk.c 3 (ok_istore_n (f := 2) rfl (by decide) (by decide +kernel) rfl) ?_
  refine hAllOk.c 4 (ok_iload_n (f := 2) rfl (by decide +kernel) rfl) ?_
  refine hAllOk.c 5 (ok_aload_n (f := 0) rfl (by decide +kernel) rfl) ?_
  refine hAllOk.c 6 (ok_getfield (idx := 7) (N := 16) (T := TX6) rfl inTb6 (by decide) rfl wd_t_602 (by decide +kernel) rfl) ?_
  refine hAllOk.c 7 (ok_no) ?_
  refine hAllOk.c 8 (ok_no) ?_
  refine hAllOk.c 9 (ok_iconst (n := 0) (by decide +kernel) (by decide +kernel) rfl) ?_
  refine hAllOk.c 10 (ok_iaload (by decide +kernel) rfl) ?_
  refine hAllOk.c 11 (ok_icge (off := 20) (by decide +kernel) (by decide +kernel) rfl) ?_
  refine hAllOk.c 12 (ok_no) ?_
  refine hAllOk.c 13 (ok_no) ?_
  refine hAllOk.c 14 (ok_iload_n (f := 1) rfl (by decide +kernel) rfl) ?_
  refine hAllOk.c 15 (ok_aload_n (f := 0) rfl (by decide +kernel) rfl) ?_
  refine hAllOk.c 16 (ok_iload_n (f := 2) rfl (by decide +kernel) rfl) ?_
  refine hAllOk.c 17 (ok_iconst (n := 2) (by decide +kernel) (by decide +kernel) rfl) ?_
  refine hAllOk.c 18 (ok_callV (idx := 84) ⟨wd_t_743, wd_t_7, by decide +kernel, by decide +kernel⟩ rfl rfl wd_t_740 wd_t_742 wd_s_64 (by decide +kernel) rfl) ?_
  refine hAllOk.c 19 (ok_no) ?_
  refine hAllOk.c 20 (ok_no) ?_
  refine hAllOk.c 21 (ok_iload_n (f := 2) rfl (by decide +kernel) rfl) ?_
  refine hAllOk.c 22 (ok_ishl (by decide +kernel) rfl) ?_
  refine hAllOk.c 23 (ok_ior (by decide +kernel) rfl) ?_
  refine hAllOk.c 24 (ok_istore_n (f := 1) rfl (by decide) (by decide +kernel) rfl) ?_
  refine hAllOk.c 25 (ok_iinc (n := 1) (by decide +kernel) (by decide) (by decide +kernel) rfl) ?_
  refine hAllOk.c 26 (ok_no) ?_
  refine hAllOk.c 27 (ok_no) ?_
  refine hAllOk.c 28 (ok_goto (off := (-24)) (by decide +kernel) (by decide +kernel)) ?_
  refine hAllOk.c 29 (ok_no) ?_
  refine hAllOk.c 30 (ok_no) ?_
  refine hAllOk.c 31 (ok_iload_n (f := 1) rfl (by decide +kernel) rfl) ?_
  refine hAllOk.c 32 (ok_ireturn (by decide +kernel)) ?_
  trivial
theorem wd_t_736 : Cond.methodLink RX6 93 yX6_invited ∈ hTb := hTb_t (List.mem_of_getElem? (i := 736) (by decide +kernel)) (by decide +kernel)
theorem wd_t_739 : Cond.code yX6_invited prog_8_method_21_code 3 (some .int) ∈ hTb := hTb_t (List.mem_of_getElem? (i := 739) (by decide +kernel)) (by decide +kernel)
theorem wd_t_738 : Cond.instanceMethod yX6_invited ∈ hTb := hTb_t (List.mem_of_getElem? (i := 738) (by decide +kernel)) (by decide +kernel)
theorem wd_s_63 : Cond.selects RX6 yX6_invited yX6_invited ∈ hTb := hTb_s (List.mem_of_getElem? (i := 63) (by decide +kernel)) (by decide +kernel)
def M_Mo_invite : hM := (yX6_invite, prog_8_method_33_code, 4, (some .int), 3, 65)
def code_Mo_invite (K : hK) (B : Nat × Nat) (Q : hPost) : List hSem := [x_aload 1 0, x_iload 2 1, x_callV K 5 M_Mo_isGuest 6 1, x_no, x_no, x_ifne 10 8, x_no, x_no, x_const 9 (-1), x_ireturn (some .int) Q, x_aload 11 0, x_iload 12 1, x_const 13 (2), x_callS K 16 M_Mo_at 2, x_no, x_no, x_iload 17 2, x_ifeq 24 20, x_no, x_no, x_const 21 (1), x_goto 25, x_no, x_no, x_const 25 (0), x_callV K 28 M_Mo_changes 6 2, x_no, x_no, x_istore 29 3, x_iload 30 3, x_ifge 35 33, x_no, x_no, x_iload 34 3, x_ireturn (some .int) Q, x_aload 36 0, x_iload 37 1, x_callV K 40 M_Mo_charges 6 1, x_no, x_no, x_aload 41 0, x_callV K 44 M_Mo_invited 6 0, x_no, x_no, x_callS K 47 M_Mo_ones 1, x_no, x_no, x_ireturn (some .int) Q]
set_option maxRecDepth 100000 in
set_option maxHeartbeats 4000000 in
theorem okc_Mo_invite (K : hK) (B : Nat × Nat) (Q : hPost) : hAllOk (hJ K M_Mo_invite B Q) 0 (code_Mo_invite K B Q) := by
  refine hAllOk.c 0 (ok_aload_n (f := 0) rfl (by decide +kernel) rfl) ?_
  refine hAllOk.c 1 (ok_iload_n (f := 1) rfl (by decide +kernel) rfl) ?_
  refine hAllOk.c 2 (ok_callV (idx := 123) ⟨wd_t_681, wd_t_7, by decide +kernel, by decide +kernel⟩ rfl rfl wd_t_678 wd_t_680 wd_s_53 (by decide +kernel) rfl) ?_
  refine hAllOk.c 3 (ok_no) ?_
  refine hAllOk.c 4 (ok_no) ?_
  refine hAllOk.c 5 (ok_ifne (off := 5) (by decide +kernel) (by decide +kernel) rfl) ?_
  refine hAllOk.c 6 (ok_no) ?_
  refine hAllOk.c 7 (ok_no) ?_
  refine hAllOk.c 8 (ok_iconst (n := -1) (by decide +kernel) (by decide +kernel) rfl) ?_
  refine hAllOk.c 9 (ok_ireturn (by decide +kernel)) ?_
  refine hAllOk.c 10 (ok_aload_n (f := 0) rfl (by decide +kernel) rfl) ?_
  refine hAllOk.c 11 (ok_iload_n (f := 1) rfl (by decide +kernel) rfl) ?_
  refine hAllOk.c 12 (ok_iconst (n := 2) (by decide +kernel) (by decide +kernel) rfl) ?_
  refine hAllOk.c 13 (ok_callS (idx := 50) ⟨wd_t_669, wd_t_7, by decide +kernel, by decide +kernel⟩ wd_t_667 wd_t_668 (by decide +kernel) rfl) ?_
  refine hAllOk.c 14 (ok_no) ?_
  refine hAllOk.c 15 (ok_no) ?_
  refine hAllOk.c 16 (ok_iload_n (f := 2) rfl (by decide +kernel) rfl) ?_
  refine hAllOk.c 17 (ok_ifeq (off := 7) (by decide +kernel) (by decide +kernel) rfl) ?_
  refine hAllOk.c 18 (ok_no) ?_
  refine hAllOk.c 19 (ok_no) ?_
  refine hAllOk.c 20 (ok_iconst (n := 1) (by decide +kernel) (by decide +kernel) rfl) ?_
  refine hAllOk.c 21 (ok_goto (off := 4) (by decide +kernel) (by decide +kernel)) ?_
  refine hAllOk.c 22 (ok_no) ?_
  refine hAllOk.c 23 (ok_no) ?_
  refine hAllOk.c 24 (ok_iconst (n := 0) (by decide +kernel) (by decide +kernel) rfl) ?_
  refine hAllOk.c 25 (ok_callV (idx := 135) ⟨wd_t_727, wd_t_7, by decide +kernel, by decide +kernel⟩ rfl rfl wd_t_724 wd_t_726 wd_s_62 (by decide +kernel) rfl) ?_
  refine hAllOk.c 26 (ok_no) ?_
  refine hAllOk.c 27 (ok_no) ?_
  refine hAllOk.c 28 (ok_istore_n (f := 3) rfl (by decide) (by decide +kernel) rfl) ?_
  refine hAllOk.c 29 (ok_iload_n (f := 3) rfl (by decide +kernel) rfl) ?_
  refine hAllOk.c 30 (ok_ifge (off := 5) (by decide +kernel) (by decide +kernel) rfl) ?_
  refine hAllOk.c 31 (ok_no) ?_
  refine hAllOk.c 32 (ok_no) ?_
  refine hAllOk.c 33 (ok_iload_n (f := 3) rfl (by decide +kernel) rfl) ?_
  refine hAllOk.c 34 (ok_ireturn (by decide +kernel)) ?_
  refine hAllOk.c 35 (ok_aload_n (f := 0) rfl (by decide +kernel) rfl) ?_
  refine hAllOk.c 36 (ok_iload_n (f := 1) rfl (by decide +kernel) rfl) ?_
  refine hAllOk.c 37 (ok_callV (idx := 132) ⟨wd_t_719, wd_t_7, by decide +kernel, by decide +kernel⟩ rfl rfl wd_t_716 wd_t_718 wd_s_61 (by decide +kernel) rfl) ?_
  refine hAllOk.c 38 (ok_no) ?_
  refine hAllOk.c 39 (ok_no) ?_
  refine hAllOk.c 40 (ok_aload_n (f := 0) rfl (by decide +kernel) rfl) ?_
  refine hAllOk.c 41 (ok_callV (idx := 93) ⟨wd_t_739, wd_t_7, by decide +kernel, by decide +kernel⟩ rfl rfl wd_t_736 wd_t_738 wd_s_63 (by decide +kernel) rfl) ?_
  refine hAllOk.c 42 (ok_no) ?_
  refine hAllOk.c 43 (ok_no) ?_
  refine hAllOk.c 44 (ok_callS (idx := 78) ⟨wd_t_712, wd_t_7, by decide +kernel, by decide +kernel⟩ wd_t_710 wd_t_711 (by decide +kernel) rfl) ?_
  refine hAllOk.c 45 (ok_no) ?_
  refine hAllOk.c 46 (ok_no) ?_
  refine hAllOk.c 47 (ok_ireturn (by decide +kernel)) ?_
  trivial
def M_Mo_set : hM := (yX6_set, prog_8_method_34_code, 3, (some .int), 2, 44)
def code_Mo_set (K : hK) (B : Nat × Nat) (Q : hPost) : List hSem := [x_iload 1 1, x_const 2 (0), x_const 3 (4), x_callS K 6 M_Mo_in 3, x_no, x_no, x_ifeq 28 9, x_no, x_no, x_iload 10 2, x_aload 11 0, x_getfield 14 6 7, x_no, x_no, x_iload 15 1, x_iaload K 16, x_aload 17 0, x_getfield 20 6 8, x_no, x_no, x_iload 21 1, x_iaload K 22, x_callS K 25 M_Mo_in 3, x_no, x_no, x_ifne 31 28, x_no, x_no, x_const 30 (-2), x_no, x_ireturn (some .int) Q, x_aload 32 0, x_const 33 (2), x_iload 34 1, x_iadd 35, x_iload 36 2, x_callV K 39 M_Mo_changes 6 2, x_no, x_no, x_ireturn (some .int) Q]
set_option maxRecDepth 100000 in
set_option maxHeartbeats 4000000 in
theorem okc_Mo_set (K : hK) (B : Nat × Nat) (Q : hPost) : hAllOk (hJ K M_Mo_set B Q) 0 (code_Mo_set K B Q) := by
  refine hAllOk.c 0 (ok_iload_n (f := 1) rfl (by decide +kernel) rfl) ?_
  refine hAllOk.c 1 (ok_iconst (n := 0) (by decide +kernel) (by decide +kernel) rfl) ?_
  refine hAllOk.c 2 (ok_iconst (n := 4) (by decide +kernel) (by decide +kernel) rfl) ?_
  refine hAllOk.c 3 (ok_callS (idx := 46) ⟨wd_t_658, wd_t_7, by decide +kernel, by decide +kernel⟩ wd_t_656 wd_t_657 (by decide +kernel) rfl) ?_
  refine hAllOk.c 4 (ok_no) ?_
  refine hAllOk.c 5 (ok_no) ?_
  refine hAllOk.c 6 (ok_ifeq (off := 22) (by decide +kernel) (by decide +kernel) rfl) ?_
  refine hAllOk.c 7 (ok_no) ?_
  refine hAllOk.c 8 (ok_no) ?_
  refine hAllOk.c 9 (ok_iload_n (f := 2) rfl (by decide +kernel) rfl) ?_
  refine hAllOk.c 10 (ok_aload_n (f := 0) rfl (by decide +kernel) rfl) ?_
  refine hAllOk.c 11 (ok_getfield (idx := 22) (N := 16) (T := TX6) rfl inTb6 (by decide) rfl wd_t_609 (by decide +kernel) rfl) ?_
  refine hAllOk.c 12 (ok_no) ?_
  refine hAllOk.c 13 (ok_no) ?_
  refine hAllOk.c 14 (ok_iload_n (f := 1) rfl (by decide +kernel) rfl) ?_
  refine hAllOk.c 15 (ok_iaload (by decide +kernel) rfl) ?_
  refine hAllOk.c 16 (ok_aload_n (f := 0) rfl (by decide +kernel) rfl) ?_
  refine hAllOk.c 17 (ok_getfield (idx := 26) (N := 16) (T := TX6) rfl inTb6 (by decide) rfl wd_t_610 (by decide +kernel) rfl) ?_
  refine hAllOk.c 18 (ok_no) ?_
  refine hAllOk.c 19 (ok_no) ?_
  refine hAllOk.c 20 (ok_iload_n (f := 1) rfl (by decide +kernel) rfl) ?_
  refine hAllOk.c 21 (ok_iaload (by decide +kernel) rfl) ?_
  refine hAllOk.c 22 (ok_callS (idx := 46) ⟨wd_t_658, wd_t_7, by decide +kernel, by decide +kernel⟩ wd_t_656 wd_t_657 (by decide +kernel) rfl) ?_
  refine hAllOk.c 23 (ok_no) ?_
  refine hAllOk.c 24 (ok_no) ?_
  refine hAllOk.c 25 (ok_ifne (off := 6) (by decide +kernel) (by decide +kernel) rfl) ?_
  refine hAllOk.c 26 (ok_no) ?_
  refine hAllOk.c 27 (ok_no) ?_
  refine hAllOk.c 28 (ok_bipush (n := -2) (by decide +kernel) (by decide +kernel) rfl) ?_
  refine hAllOk.c 29 (ok_no) ?_
  refine hAllOk.c 30 (ok_ireturn (by decide +kernel)) ?_
  refine hAllOk.c 31 (ok_aload_n (f := 0) rfl (by decide +kernel) rfl) ?_
  refine hAllOk.c 32 (ok_iconst (n := 2) (by decide +kernel) (by decide +kernel) rfl) ?_
  refine hAllOk.c 33 (ok_iload_n (f := 1) rfl (by decide +kernel) rfl) ?_
  refine hAllOk.c 34 (ok_iadd (by decide +kernel) rfl) ?_
  refine hAllOk.c 35 (ok_iload_n (f := 2) rfl (by decide +kernel) rfl) ?_
  refine hAllOk.c 36 (ok_callV (idx := 135) ⟨wd_t_727, wd_t_7, by decide +kernel, by decide +kernel⟩ rfl rfl wd_t_724 wd_t_726 wd_s_62 (by decide +kernel) rfl) ?_
  refine hAllOk.c 37 (ok_no) ?_
  refine hAllOk.c 38 (ok_no) ?_
  refine hAllOk.c 39 (ok_ireturn (by decide +kernel)) ?_
  trivial
def M_Mo_pass : hM := (yX6_pass, prog_8_method_35_code, 2, (some .int), 1, 22)
def code_Mo_pass (K : hK) (B : Nat × Nat) (Q : hPost) : List hSem := [x_iload 1 1, x_const 2 (1), x_const 4 (60), x_no, x_callS K 7 M_Mo_in 3, x_no, x_no, x_ifne 13 10, x_no, x_no, x_const 12 (-2), x_no, x_ireturn (some .int) Q, x_aload 14 0, x_getfield 17 6 0, x_no, x_no, x_const 18 (1), x_iaload K 19, x_iload 20 1, x_iadd 21, x_const 24 (999), x_no, x_no, x_icle 30 27, x_no, x_no, x_const 29 (-4), x_no, x_ireturn (some .int) Q, x_aload 31 0, x_callV K 34 M_Mo_record 6 0, x_no, x_no, x_aload 35 0, x_getfield 38 6 0, x_no, x_no, x_const 39 (1), x_dup2 40, x_iaload K 41, x_iload 42 1, x_iadd 43, x_iastore K 44, x_aload 45 0, x_getfield 48 6 0, x_no, x_no, x_const 49 (1), x_iaload K 50, x_ireturn (some .int) Q]
set_option maxRecDepth 100000 in
set_option maxHeartbeats 4000000 in
theorem okc_Mo_pass (K : hK) (B : Nat × Nat) (Q : hPost) : hAllOk (hJ K M_Mo_pass B Q) 0 (code_Mo_pass K B Q) := by
  refine hAllOk.c 0 (ok_iload_n (f := 1) rfl (by decide +kernel) rfl) ?_
  refine hAllOk.c 1 (ok_iconst (n := 1) (by decide +kernel) (by decide +kernel) rfl) ?_
  refine hAllOk.c 2 (ok_bipush (n := 60) (by decide +kernel) (by decide +kernel) rfl) ?_
  refine hAllOk.c 3 (ok_no) ?_
  refine hAllOk.c 4 (ok_callS (idx := 46) ⟨wd_t_658, wd_t_7, by decide +kernel, by decide +kernel⟩ wd_t_656 wd_t_657 (by decide +kernel) rfl) ?_
  refine hAllOk.c 5 (ok_no) ?_
  refine hAllOk.c 6 (ok_no) ?_
  refine hAllOk.c 7 (ok_ifne (off := 6) (by decide +kernel) (by decide +kernel) rfl) ?_
  refine hAllOk.c 8 (ok_no) ?_
  refine hAllOk.c 9 (ok_no) ?_
  refine hAllOk.c 10 (ok_bipush (n := -2) (by decide +kernel) (by decide +kernel) rfl) ?_
  refine hAllOk.c 11 (ok_no) ?_
  refine hAllOk.c 12 (ok_ireturn (by decide +kernel)) ?_
  refine hAllOk.c 13 (ok_aload_n (f := 0) rfl (by decide +kernel) rfl) ?_
  refine hAllOk.c 14 (ok_getfield (idx := 7) (N := 16) (T := TX6) rfl inTb6 (by decide) rfl wd_t_602 (by decide +kernel) rfl) ?_
  refine hAllOk.c 15 (ok_no) ?_
  refine hAllOk.c 16 (ok_no) ?_
  refine hAllOk.c 17 (ok_iconst (n := 1) (by decide +kernel) (by decide +kernel) rfl) ?_
  refine hAllOk.c 18 (ok_iaload (by decide +kernel) rfl) ?_
  refine hAllOk.c 19 (ok_iload_n (f := 1) rfl (by decide +kernel) rfl) ?_
  refine hAllOk.c 20 (ok_iadd (by decide +kernel) rfl) ?_
  refine hAllOk.c 21 (ok_sipush (n := 999) (by decide +kernel) (by decide +kernel) rfl) ?_
  refine hAllOk.c 22 (ok_no) ?_
  refine hAllOk.c 23 (ok_no) ?_
  refine hAllOk.c 24 (ok_icle (off := 6) (by decide +kernel) (by decide +kernel) rfl) ?_
  refine hAllOk.c 25 (ok_no) ?_
  refine hAllOk.c 26 (ok_no) ?_
  refine hAllOk.c 27 (ok_bipush (n := -4) (by decide +kernel) (by decide +kernel) rfl) ?_
  refine hAllOk.c 28 (ok_no) ?_
  refine hAllOk.c 29 (ok_ireturn (by decide +kernel)) ?_
  refine hAllOk.c 30 (ok_aload_n (f := 0) rfl (by decide +kernel) rfl) ?_
  refine hAllOk.c 31 (ok_callV (idx := 116) ⟨wd_t_666, wd_t_7, by decide +kernel, by decide +kernel⟩ rfl rfl wd_t_663 wd_t_665 wd_s_51 (by decide +kernel) rfl) ?_
  refine hAllOk.c 32 (ok_no) ?_
  refine hAllOk.c 33 (ok_no) ?_
  refine hAllOk.c 34 (ok_aload_n (f := 0) rfl (by decide +kernel) rfl) ?_
  refine hAllOk.c 35 (ok_getfield (idx := 7) (N := 16) (T := TX6) rfl inTb6 (by decide) rfl wd_t_602 (by decide +kernel) rfl) ?_
  refine hAllOk.c 36 (ok_no) ?_
  refine hAllOk.c 37 (ok_no) ?_
  refine hAllOk.c 38 (ok_iconst (n := 1) (by decide +kernel) (by decide +kernel) rfl) ?_
  refine hAllOk.c 39 (ok_dup2 (by decide +kernel) rfl) ?_
  refine hAllOk.c 40 (ok_iaload (by decide +kernel) rfl) ?_
  refine hAllOk.c 41 (ok_iload_n (f := 1) rfl (by decide +kernel) rfl) ?_
  refine hAllOk.c 42 (ok_iadd (by decide +kernel) rfl) ?_
  refine hAllOk.c 43 (ok_iastore (by decide +kernel) rfl) ?_
  refine hAllOk.c 44 (ok_aload_n (f := 0) rfl (by decide +kernel) rfl) ?_
  refine hAllOk.c 45 (ok_getfield (idx := 7) (N := 16) (T := TX6) rfl inTb6 (by decide) rfl wd_t_602 (by decide +kernel) rfl) ?_
  refine hAllOk.c 46 (ok_no) ?_
  refine hAllOk.c 47 (ok_no) ?_
  refine hAllOk.c 48 (ok_iconst (n := 1) (by decide +kernel) (by decide +kernel) rfl) ?_
  refine hAllOk.c 49 (ok_iaload (by decide +kernel) rfl) ?_
  refine hAllOk.c 50 (ok_ireturn (by decide +kernel)) ?_
  trivial
def M_Mo_isMet : hM := (yX6_isMet, prog_8_method_18_code, 3, (some .boolean), 0, 0)
def code_Mo_isMet (K : hK) (B : Nat × Nat) (Q : hPost) : List hSem := [x_aload 1 0, x_getfield 4 6 0, x_no, x_no, x_const 6 (111), x_no, x_const 9 (128), x_no, x_no, x_iload 10 1, x_imul 11, x_iadd 12, x_iload 13 2, x_const 15 (32), x_no, x_idiv 16, x_iadd 17, x_iaload K 18, x_iload 19 2, x_const 21 (32), x_no, x_irem 22, x_ishr 23, x_const 24 (1), x_iand 25, x_const 26 (1), x_icne 33 29, x_no, x_no, x_const 30 (1), x_goto 34, x_no, x_no, x_const 34 (0), x_ireturn (some .boolean) Q]
set_option maxRecDepth 100000 in
set_option maxHeartbeats 4000000 in
theorem okc_Mo_isMet (K : hK) (B : Nat × Nat) (Q : hPost) : hAllOk (hJ K M_Mo_isMet B Q) 0 (code_Mo_isMet K B Q) := by
  refine hAllOk.c 0 (ok_aload_n (f := 0) rfl (by decide +kernel) rfl) ?_
  refine hAllOk.c 1 (ok_getfield (idx := 7) (N := 16) (T := TX6) rfl inTb6 (by decide) rfl wd_t_602 (by decide +kernel) rfl) ?_
  refine hAllOk.c 2 (ok_no) ?_
  refine hAllOk.c 3 (ok_no) ?_
  refine hAllOk.c 4 (ok_bipush (n := 111) (by decide +kernel) (by decide +kernel) rfl) ?_
  refine hAllOk.c 5 (ok_no) ?_
  refine hAllOk.c 6 (ok_sipush (n := 128) (by decide +kernel) (by decide +kernel) rfl) ?_
  refine hAllOk.c 7 (ok_no) ?_
  refine hAllOk.c 8 (ok_no) ?_
  refine hAllOk.c 9 (ok_iload_n (f := 1) rfl (by decide +kernel) rfl) ?_
  refine hAllOk.c 10 (ok_imul (by decide +kernel) rfl) ?_
  refine hAllOk.c 11 (ok_iadd (by decide +kernel) rfl) ?_
  refine hAllOk.c 12 (ok_iload_n (f := 2) rfl (by decide +kernel) rfl) ?_
  refine hAllOk.c 13 (ok_bipush (n := 32) (by decide +kernel) (by decide +kernel) rfl) ?_
  refine hAllOk.c 14 (ok_no) ?_
  refine hAllOk.c 15 (ok_idiv (by decide +kernel) rfl) ?_
  refine hAllOk.c 16 (ok_iadd (by decide +kernel) rfl) ?_
  refine hAllOk.c 17 (ok_iaload (by decide +kernel) rfl) ?_
  refine hAllOk.c 18 (ok_iload_n (f := 2) rfl (by decide +kernel) rfl) ?_
  refine hAllOk.c 19 (ok_bipush (n := 32) (by decide +kernel) (by decide +kernel) rfl) ?_
  refine hAllOk.c 20 (ok_no) ?_
  refine hAllOk.c 21 (ok_irem (by decide +kernel) rfl) ?_
  refine hAllOk.c 22 (ok_ishr (by decide +kernel) rfl) ?_
  refine hAllOk.c 23 (ok_iconst (n := 1) (by decide +kernel) (by decide +kernel) rfl) ?_
  refine hAllOk.c 24 (ok_iand (by decide +kernel) rfl) ?_
  refine hAllOk.c 25 (ok_iconst (n := 1) (by decide +kernel) (by decide +kernel) rfl) ?_
  refine hAllOk.c 26 (ok_icne (off := 7) (by decide +kernel) (by decide +kernel) rfl) ?_
  refine hAllOk.c 27 (ok_no) ?_
  refine hAllOk.c 28 (ok_no) ?_
  refine hAllOk.c 29 (ok_iconst (n := 1) (by decide +kernel) (by decide +kernel) rfl) ?_
  refine hAllOk.c 30 (ok_goto (off := 4) (by decide +kernel) (by decide +kernel)) ?_
  refine hAllOk.c 31 (ok_no) ?_
  refine hAllOk.c 32 (ok_no) ?_
  refine hAllOk.c 33 (ok_iconst (n := 0) (by decide +kernel) (by decide +kernel) rfl) ?_
  refine hAllOk.c 34 (ok_ireturn (by decide +kernel)) ?_
  trivial
def M_Mo_feeOf : hM := (yX6_feeOf, prog_8_method_19_code, 2, (some .int), 0, 0)
def code_Mo_feeOf (K : hK) (B : Nat × Nat) (Q : hPost) : List hSem := [x_aload 1 0, x_getfield 4 6 0, x_no, x_no, x_const 5 (2), x_iaload K 6, x_iload 7 1, x_iadd 8, x_const 9 (1), x_isub 10, x_iload 11 1, x_idiv 12, x_aload 13 0, x_getfield 16 6 0, x_no, x_no, x_const 17 (3), x_iaload K 18, x_iadd 19, x_ireturn (some .int) Q]
set_option maxRecDepth 100000 in
set_option maxHeartbeats 4000000 in
theorem okc_Mo_feeOf (K : hK) (B : Nat × Nat) (Q : hPost) : hAllOk (hJ K M_Mo_feeOf B Q) 0 (code_Mo_feeOf K B Q) := by
  refine hAllOk.c 0 (ok_aload_n (f := 0) rfl (by decide +kernel) rfl) ?_
  refine hAllOk.c 1 (ok_getfield (idx := 7) (N := 16) (T := TX6) rfl inTb6 (by decide) rfl wd_t_602 (by decide +kernel) rfl) ?_
  refine hAllOk.c 2 (ok_no) ?_
  refine hAllOk.c 3 (ok_no) ?_
  refine hAllOk.c 4 (ok_iconst (n := 2) (by decide +kernel) (by decide +kernel) rfl) ?_
  refine hAllOk.c 5 (ok_iaload (by decide +kernel) rfl) ?_
  refine hAllOk.c 6 (ok_iload_n (f := 1) rfl (by decide +kernel) rfl) ?_
  refine hAllOk.c 7 (ok_iadd (by decide +kernel) rfl) ?_
  refine hAllOk.c 8 (ok_iconst (n := 1) (by decide +kernel) (by decide +kernel) rfl) ?_
  refine hAllOk.c 9 (ok_isub (by decide +kernel) rfl) ?_
  refine hAllOk.c 10 (ok_iload_n (f := 1) rfl (by decide +kernel) rfl) ?_
  refine hAllOk.c 11 (ok_idiv (by decide +kernel) rfl) ?_
  refine hAllOk.c 12 (ok_aload_n (f := 0) rfl (by decide +kernel) rfl) ?_
  refine hAllOk.c 13 (ok_getfield (idx := 7) (N := 16) (T := TX6) rfl inTb6 (by decide) rfl wd_t_602 (by decide +kernel) rfl) ?_
  refine hAllOk.c 14 (ok_no) ?_
  refine hAllOk.c 15 (ok_no) ?_
  refine hAllOk.c 16 (ok_iconst (n := 3) (by decide +kernel) (by decide +kernel) rfl) ?_
  refine hAllOk.c 17 (ok_iaload (by decide +kernel) rfl) ?_
  refine hAllOk.c 18 (ok_iadd (by decide +kernel) rfl) ?_
  refine hAllOk.c 19 (ok_ireturn (by decide +kernel)) ?_
  trivial
theorem wd_t_617 : Cond.fieldLink RX6 97 RX6 "roundMany" "I" ∈ hTb := hTb_t (List.mem_of_getElem? (i := 617) (by decide +kernel)) (by decide +kernel)
theorem wd_t_764 : Cond.methodLink RX6 87 yX6_isMet ∈ hTb := hTb_t (List.mem_of_getElem? (i := 764) (by decide +kernel)) (by decide +kernel)
theorem wd_t_767 : Cond.code yX6_isMet prog_8_method_18_code 3 (some .boolean) ∈ hTb := hTb_t (List.mem_of_getElem? (i := 767) (by decide +kernel)) (by decide +kernel)
theorem wd_t_766 : Cond.instanceMethod yX6_isMet ∈ hTb := hTb_t (List.mem_of_getElem? (i := 766) (by decide +kernel)) (by decide +kernel)
theorem wd_s_67 : Cond.selects RX6 yX6_isMet yX6_isMet ∈ hTb := hTb_s (List.mem_of_getElem? (i := 67) (by decide +kernel)) (by decide +kernel)
theorem wd_t_768 : Cond.methodLink RX6 90 yX6_feeOf ∈ hTb := hTb_t (List.mem_of_getElem? (i := 768) (by decide +kernel)) (by decide +kernel)
theorem wd_t_771 : Cond.code yX6_feeOf prog_8_method_19_code 2 (some .int) ∈ hTb := hTb_t (List.mem_of_getElem? (i := 771) (by decide +kernel)) (by decide +kernel)
theorem wd_t_770 : Cond.instanceMethod yX6_feeOf ∈ hTb := hTb_t (List.mem_of_getElem? (i := 770) (by decide +kernel)) (by decide +kernel)
theorem wd_s_68 : Cond.selects RX6 yX6_feeOf yX6_feeOf ∈ hTb := hTb_s (List.mem_of_getElem? (i := 68) (by decide +kernel)) (by decide +kernel)
def M_Mo_greatest : hM := (yX6_greatest, prog_8_method_22_code, 5, (some .int), 3, 65)
def code_Mo_greatest (K : hK) (B : Nat × Nat) (Q : hPost) : List hSem := [x_aload 1 0, x_callV K 4 M_Mo_invited 6 0, x_no, x_no, x_istore 5 1, x_const 6 (0), x_istore 7 2, x_iload 8 2, x_const 10 (12), x_no, x_icge 45 13, x_no, x_no, x_aload 14 0, x_getfield 17 6 13, x_no, x_no, x_iload 18 2, x_iload 19 1, x_iload 20 2, x_callS K 23 M_Mo_has 2, x_no, x_no, x_ifeq 30 26, x_no, x_no, x_const 27 (0), x_goto 31, x_no, x_no, x_const 31 (1), x_iastore K 32, x_aload 33 0, x_getfield 36 6 14, x_no, x_no, x_iload 37 2, x_const 38 (0), x_iastore K 39, x_iinc 42 2 (1), x_no, x_no, x_goto 7, x_no, x_no, x_aload 46 0, x_const 47 (0), x_putfield 50 6 15 (.int), x_no, x_no, x_const 51 (1), x_istore 52 2, x_iload 53 2, x_ifeq 184 56, x_no, x_no, x_aload 57 0, x_dup 58, x_getfield 61 6 15, x_no, x_no, x_const 62 (1), x_iadd 63, x_putfield 66 6 15 (.int), x_no, x_no, x_const 67 (0), x_istore 68 3, x_const 69 (0), x_istore 71 4, x_no, x_iload 73 4, x_no, x_aload 74 0, x_getfield 77 6 0, x_no, x_no, x_const 78 (0), x_iaload K 79, x_icge 165 82, x_no, x_no, x_iload 83 1, x_iload 85 4, x_no, x_callS K 88 M_Mo_has 2, x_no, x_no, x_ifeq 159 91, x_no, x_no, x_aload 92 0, x_iload 94 4, x_no, x_iload 95 1, x_callV K 98 M_Mo_isMet 6 2, x_no, x_no, x_ifeq 119 101, x_no, x_no, x_aload 102 0, x_iload 103 1, x_callS K 106 M_Mo_ones 1, x_no, x_no, x_callV K 109 M_Mo_feeOf 6 1, x_no, x_no, x_aload 110 0, x_iload 112 4, x_no, x_const 113 (0), x_callV K 116 M_Mo_of 6 2, x_no, x_no, x_icle 159 119, x_no, x_no, x_iload 120 3, x_const 121 (1), x_iload 123 4, x_no, x_ishl 124, x_ior 125, x_istore 126 3, x_aload 127 0, x_getfield 130 6 13, x_no, x_no, x_iload 132 4, x_no, x_aload 133 0, x_iload 135 4, x_no, x_iload 136 1, x_callV K 139 M_Mo_isMet 6 2, x_no, x_no, x_ifeq 146 142, x_no, x_no, x_const 143 (3), x_goto 147, x_no, x_no, x_const 147 (2), x_iastore K 148, x_aload 149 0, x_getfield 152 6 14, x_no, x_no, x_iload 154 4, x_no, x_aload 155 0, x_getfield 158 6 15, x_no, x_no, x_iastore K 159, x_iinc 162 4 (1), x_no, x_no, x_goto 71, x_no, x_no, x_iload 166 1, x_iload 167 3, x_const 168 (-1), x_ixor 169, x_iand 170, x_istore 171 1, x_iload 172 3, x_ifeq 179 175, x_no, x_no, x_const 176 (1), x_goto 180, x_no, x_no, x_const 180 (0), x_istore 181 2, x_goto 52, x_no, x_no, x_iload 185 1, x_ireturn (some .int) Q]
set_option maxRecDepth 100000 in
set_option maxHeartbeats 4000000 in
theorem okc_Mo_greatest (K : hK) (B : Nat × Nat) (Q : hPost) : hAllOk (hJ K M_Mo_greatest B Q) 0 (code_Mo_greatest K B Q) := by
  refine hAllOk.c 0 (ok_aload_n (f := 0) rfl (by decide +kernel) rfl) ?_
  refine hAllOk.c 1 (ok_callV (idx := 93) ⟨wd_t_739, wd_t_7, by decide +kernel, by decide +kernel⟩ rfl rfl wd_t_736 wd_t_738 wd_s_63 (by decide +kernel) rfl) ?_
  refine hAllOk.c 2 (ok_no) ?_
  refine hAllOk.c 3 (ok_no) ?_
  refine hAllOk.c 4 (ok_istore_n (f := 1) rfl (by decide) (by decide +kernel) rfl) ?_
  refine hAllOk.c 5 (ok_iconst (n := 0) (by decide +kernel) (by decide +kernel) rfl) ?_
  refine hAllOk.c 6 (ok_istore_n (f := 2) rfl (by decide) (by decide +kernel) rfl) ?_
  refine hAllOk.c 7 (ok_iload_n (f := 2) rfl (by decide +kernel) rfl) ?_
  refine hAllOk.c 8 (ok_bipush (n := 12) (by decide +kernel) (by decide +kernel) rfl) ?_
  refine hAllOk.c 9 (ok_no) ?_
  refine hAllOk.c 10 (ok_icge (off := 35) (by decide +kernel) (by decide +kernel) rfl) ?_
  refine hAllOk.c 11 (ok_no) ?_
  refine hAllOk.c 12 (ok_no) ?_
  refine hAllOk.c 13 (ok_aload_n (f := 0) rfl (by decide +kernel) rfl) ?_
  refine hAllOk.c 14 (ok_getfield (idx := 36) (N := 16) (T := TX6) rfl inTb6 (by decide) rfl wd_t_615 (by decide +kernel) rfl) ?_
  refine hAllOk.c 15 (ok_no) ?_
  refine hAllOk.c 16 (ok_no) ?_
  refine hAllOk.c 17 (ok_iload_n (f := 2) rfl (by decide +kernel) rfl) ?_
  refine hAllOk.c 18 (ok_iload_n (f := 1) rfl (by decide +kernel) rfl) ?_
  refine hAllOk.c 19 (ok_iload_n (f := 2) rfl (by decide +kernel) rfl) ?_
  refine hAllOk.c 20 (ok_callS (idx := 81) ⟨wd_t_715, wd_t_7, by decide +kernel, by decide +kernel⟩ wd_t_713 wd_t_714 (by decide +kernel) rfl) ?_
  refine hAllOk.c 21 (ok_no) ?_
  refine hAllOk.c 22 (ok_no) ?_
  refine hAllOk.c 23 (ok_ifeq (off := 7) (by decide +kernel) (by decide +kernel) rfl) ?_
  refine hAllOk.c 24 (ok_no) ?_
  refine hAllOk.c 25 (ok_no) ?_
  refine hAllOk.c 26 (ok_iconst (n := 0) (by decide +kernel) (by decide +kernel) rfl) ?_
  refine hAllOk.c 27 (ok_goto (off := 4) (by decide +kernel) (by decide +kernel)) ?_
  refine hAllOk.c 28 (ok_no) ?_
  refine hAllOk.c 29 (ok_no) ?_
  refine hAllOk.c 30 (ok_iconst (n := 1) (by decide +kernel) (by decide +kernel) rfl) ?_
  refine hAllOk.c 31 (ok_iastore (by decide +kernel) rfl) ?_
  refine hAllOk.c 32 (ok_aload_n (f := 0) rfl (by decide +kernel) rfl) ?_
  refine hAllOk.c 33 (ok_getfield (idx := 39) (N := 16) (T := TX6) rfl inTb6 (by decide) rfl wd_t_616 (by decide +kernel) rfl) ?_
  refine hAllOk.c 34 (ok_no) ?_
  refine hAllOk.c 35 (ok_no) ?_
  refine hAllOk.c 36 (ok_iload_n (f := 2) rfl (by decide +kernel) rfl) ?_
  refine hAllOk.c 37 (ok_iconst (n := 0) (by decide +kernel) (by decide +kernel) rfl) ?_
  refine hAllOk.c 38 (ok_iastore (by decide +kernel) rfl) ?_
  refine hAllOk.c 39 (ok_iinc (n := 1) (by decide +kernel) (by decide) (by decide +kernel) rfl) ?_
  refine hAllOk.c 40 (ok_no) ?_
  refine hAllOk.c 41 (ok_no) ?_
  refine hAllOk.c 42 (ok_goto (off := (-35)) (by decide +kernel) (by decide +kernel)) ?_
  refine hAllOk.c 43 (ok_no) ?_
  refine hAllOk.c 44 (ok_no) ?_
  refine hAllOk.c 45 (ok_aload_n (f := 0) rfl (by decide +kernel) rfl) ?_
  refine hAllOk.c 46 (ok_iconst (n := 0) (by decide +kernel) (by decide +kernel) rfl) ?_
  refine hAllOk.c 47 (ok_putfield (idx := 97) (N := 16) (T := TX6) tyX6_ok nmX6 rfl rfl inTb6 (by decide) rfl rfl wd_t_617 (by decide +kernel) rfl) ?_
  refine hAllOk.c 48 (ok_no) ?_
  refine hAllOk.c 49 (ok_no) ?_
  refine hAllOk.c 50 (ok_iconst (n := 1) (by decide +kernel) (by decide +kernel) rfl) ?_
  refine hAllOk.c 51 (ok_istore_n (f := 2) rfl (by decide) (by decide +kernel) rfl) ?_
  refine hAllOk.c 52 (ok_iload_n (f := 2) rfl (by decide +kernel) rfl) ?_
  refine hAllOk.c 53 (ok_ifeq (off := 131) (by decide +kernel) (by decide +kernel) rfl) ?_
  refine hAllOk.c 54 (ok_no) ?_
  refine hAllOk.c 55 (ok_no) ?_
  refine hAllOk.c 56 (ok_aload_n (f := 0) rfl (by decide +kernel) rfl) ?_
  refine hAllOk.c 57 (ok_dup (by decide +kernel) rfl) ?_
  refine hAllOk.c 58 (ok_getfield (idx := 97) (N := 16) (T := TX6) rfl inTb6 (by decide) rfl wd_t_617 (by decide +kernel) rfl) ?_
  refine hAllOk.c 59 (ok_no) ?_
  refine hAllOk.c 60 (ok_no) ?_
  refine hAllOk.c 61 (ok_iconst (n := 1) (by decide +kernel) (by decide +kernel) rfl) ?_
  refine hAllOk.c 62 (ok_iadd (by decide +kernel) rfl) ?_
  refine hAllOk.c 63 (ok_putfield (idx := 97) (N := 16) (T := TX6) tyX6_ok nmX6 rfl rfl inTb6 (by decide) rfl rfl wd_t_617 (by decide +kernel) rfl) ?_
  refine hAllOk.c 64 (ok_no) ?_
  refine hAllOk.c 65 (ok_no) ?_
  refine hAllOk.c 66 (ok_iconst (n := 0) (by decide +kernel) (by decide +kernel) rfl) ?_
  refine hAllOk.c 67 (ok_istore_n (f := 3) rfl (by decide) (by decide +kernel) rfl) ?_
  refine hAllOk.c 68 (ok_iconst (n := 0) (by decide +kernel) (by decide +kernel) rfl) ?_
  refine hAllOk.c 69 (ok_istore (by decide) (by decide +kernel) rfl) ?_
  refine hAllOk.c 70 (ok_no) ?_
  refine hAllOk.c 71 (ok_iload (by decide +kernel) rfl) ?_
  refine hAllOk.c 72 (ok_no) ?_
  refine hAllOk.c 73 (ok_aload_n (f := 0) rfl (by decide +kernel) rfl) ?_
  refine hAllOk.c 74 (ok_getfield (idx := 7) (N := 16) (T := TX6) rfl inTb6 (by decide) rfl wd_t_602 (by decide +kernel) rfl) ?_
  refine hAllOk.c 75 (ok_no) ?_
  refine hAllOk.c 76 (ok_no) ?_
  refine hAllOk.c 77 (ok_iconst (n := 0) (by decide +kernel) (by decide +kernel) rfl) ?_
  refine hAllOk.c 78 (ok_iaload (by decide +kernel) rfl) ?_
  refine hAllOk.c 79 (ok_icge (off := 86) (by decide +kernel) (by decide +kernel) rfl) ?_
  refine hAllOk.c 80 (ok_no) ?_
  refine hAllOk.c 81 (ok_no) ?_
  refine hAllOk.c 82 (ok_iload_n (f := 1) rfl (by decide +kernel) rfl) ?_
  refine hAllOk.c 83 (ok_iload (by decide +kernel) rfl) ?_
  refine hAllOk.c 84 (ok_no) ?_
  refine hAllOk.c 85 (ok_callS (idx := 81) ⟨wd_t_715, wd_t_7, by decide +kernel, by decide +kernel⟩ wd_t_713 wd_t_714 (by decide +kernel) rfl) ?_
  refine hAllOk.c 86 (ok_no) ?_
  refine hAllOk.c 87 (ok_no) ?_
  refine hAllOk.c 88 (ok_ifeq (off := 71) (by decide +kernel) (by decide +kernel) rfl) ?_
  refine hAllOk.c 89 (ok_no) ?_
  refine hAllOk.c 90 (ok_no) ?_
  refine hAllOk.c 91 (ok_aload_n (f := 0) rfl (by decide +kernel) rfl) ?_
  refine hAllOk.c 92 (ok_iload (by decide +kernel) rfl) ?_
  refine hAllOk.c 93 (ok_no) ?_
  refine hAllOk.c 94 (ok_iload_n (f := 1) rfl (by decide +kernel) rfl) ?_
  refine hAllOk.c 95 (ok_callV (idx := 87) ⟨wd_t_767, wd_t_7, by decide +kernel, by decide +kernel⟩ rfl rfl wd_t_764 wd_t_766 wd_s_67 (by decide +kernel) rfl) ?_
  refine hAllOk.c 96 (ok_no) ?_
  refine hAllOk.c 97 (ok_no) ?_
  refine hAllOk.c 98 (ok_ifeq (off := 21) (by decide +kernel) (by decide +kernel) rfl) ?_
  refine hAllOk.c 99 (ok_no) ?_
  refine hAllOk.c 100 (ok_no) ?_
  refine hAllOk.c 101 (ok_aload_n (f := 0) rfl (by decide +kernel) rfl) ?_
  refine hAllOk.c 102 (ok_iload_n (f := 1) rfl (by decide +kernel) rfl) ?_
  refine hAllOk.c 103 (ok_callS (idx := 78) ⟨wd_t_712, wd_t_7, by decide +kernel, by decide +kernel⟩ wd_t_710 wd_t_711 (by decide +kernel) rfl) ?_
  refine hAllOk.c 104 (ok_no) ?_
  refine hAllOk.c 105 (ok_no) ?_
  refine hAllOk.c 106 (ok_callV (idx := 90) ⟨wd_t_771, wd_t_7, by decide +kernel, by decide +kernel⟩ rfl rfl wd_t_768 wd_t_770 wd_s_68 (by decide +kernel) rfl) ?_
  refine hAllOk.c 107 (ok_no) ?_
  refine hAllOk.c 108 (ok_no) ?_
  refine hAllOk.c 109 (ok_aload_n (f := 0) rfl (by decide +kernel) rfl) ?_
  refine hAllOk.c 110 (ok_iload (by decide +kernel) rfl) ?_
  refine hAllOk.c 111 (ok_no) ?_
  refine hAllOk.c 112 (ok_iconst (n := 0) (by decide +kernel) (by decide +kernel) rfl) ?_
  refine hAllOk.c 113 (ok_callV (idx := 84) ⟨wd_t_743, wd_t_7, by decide +kernel, by decide +kernel⟩ rfl rfl wd_t_740 wd_t_742 wd_s_64 (by decide +kernel) rfl) ?_
  refine hAllOk.c 114 (ok_no) ?_
  refine hAllOk.c 115 (ok_no) ?_
  refine hAllOk.c 116 (ok_icle (off := 43) (by decide +kernel) (by decide +kernel) rfl) ?_
  refine hAllOk.c 117 (ok_no) ?_
  refine hAllOk.c 118 (ok_no) ?_
  refine hAllOk.c 119 (ok_iload_n (f := 3) rfl (by decide +kernel) rfl) ?_
  refine hAllOk.c 120 (ok_iconst (n := 1) (by decide +kernel) (by decide +kernel) rfl) ?_
  refine hAllOk.c 121 (ok_iload (by decide +kernel) rfl) ?_
  refine hAllOk.c 122 (ok_no) ?_
  refine hAllOk.c 123 (ok_ishl (by decide +kernel) rfl) ?_
  refine hAllOk.c 124 (ok_ior (by decide +kernel) rfl) ?_
  refine hAllOk.c 125 (ok_istore_n (f := 3) rfl (by decide) (by decide +kernel) rfl) ?_
  refine hAllOk.c 126 (ok_aload_n (f := 0) rfl (by decide +kernel) rfl) ?_
  refine hAllOk.c 127 (ok_getfield (idx := 36) (N := 16) (T := TX6) rfl inTb6 (by decide) rfl wd_t_615 (by decide +kernel) rfl) ?_
  refine hAllOk.c 128 (ok_no) ?_
  refine hAllOk.c 129 (ok_no) ?_
  refine hAllOk.c 130 (ok_iload (by decide +kernel) rfl) ?_
  refine hAllOk.c 131 (ok_no) ?_
  refine hAllOk.c 132 (ok_aload_n (f := 0) rfl (by decide +kernel) rfl) ?_
  refine hAllOk.c 133 (ok_iload (by decide +kernel) rfl) ?_
  refine hAllOk.c 134 (ok_no) ?_
  refine hAllOk.c 135 (ok_iload_n (f := 1) rfl (by decide +kernel) rfl) ?_
  refine hAllOk.c 136 (ok_callV (idx := 87) ⟨wd_t_767, wd_t_7, by decide +kernel, by decide +kernel⟩ rfl rfl wd_t_764 wd_t_766 wd_s_67 (by decide +kernel) rfl) ?_
  refine hAllOk.c 137 (ok_no) ?_
  refine hAllOk.c 138 (ok_no) ?_
  refine hAllOk.c 139 (ok_ifeq (off := 7) (by decide +kernel) (by decide +kernel) rfl) ?_
  refine hAllOk.c 140 (ok_no) ?_
  refine hAllOk.c 141 (ok_no) ?_
  refine hAllOk.c 142 (ok_iconst (n := 3) (by decide +kernel) (by decide +kernel) rfl) ?_
  refine hAllOk.c 143 (ok_goto (off := 4) (by decide +kernel) (by decide +kernel)) ?_
  refine hAllOk.c 144 (ok_no) ?_
  refine hAllOk.c 145 (ok_no) ?_
  refine hAllOk.c 146 (ok_iconst (n := 2) (by decide +kernel) (by decide +kernel) rfl) ?_
  refine hAllOk.c 147 (ok_iastore (by decide +kernel) rfl) ?_
  refine hAllOk.c 148 (ok_aload_n (f := 0) rfl (by decide +kernel) rfl) ?_
  refine hAllOk.c 149 (ok_getfield (idx := 39) (N := 16) (T := TX6) rfl inTb6 (by decide) rfl wd_t_616 (by decide +kernel) rfl) ?_
  refine hAllOk.c 150 (ok_no) ?_
  refine hAllOk.c 151 (ok_no) ?_
  refine hAllOk.c 152 (ok_iload (by decide +kernel) rfl) ?_
  refine hAllOk.c 153 (ok_no) ?_
  refine hAllOk.c 154 (ok_aload_n (f := 0) rfl (by decide +kernel) rfl) ?_
  refine hAllOk.c 155 (ok_getfield (idx := 97) (N := 16) (T := TX6) rfl inTb6 (by decide) rfl wd_t_617 (by decide +kernel) rfl) ?_
  refine hAllOk.c 156 (ok_no) ?_
  refine hAllOk.c 157 (ok_no) ?_
  refine hAllOk.c 158 (ok_iastore (by decide +kernel) rfl) ?_
  refine hAllOk.c 159 (ok_iinc (n := 1) (by decide +kernel) (by decide) (by decide +kernel) rfl) ?_
  refine hAllOk.c 160 (ok_no) ?_
  refine hAllOk.c 161 (ok_no) ?_
  refine hAllOk.c 162 (ok_goto (off := (-91)) (by decide +kernel) (by decide +kernel)) ?_
  refine hAllOk.c 163 (ok_no) ?_
  refine hAllOk.c 164 (ok_no) ?_
  refine hAllOk.c 165 (ok_iload_n (f := 1) rfl (by decide +kernel) rfl) ?_
  refine hAllOk.c 166 (ok_iload_n (f := 3) rfl (by decide +kernel) rfl) ?_
  refine hAllOk.c 167 (ok_iconst (n := -1) (by decide +kernel) (by decide +kernel) rfl) ?_
  refine hAllOk.c 168 (ok_ixor (by decide +kernel) rfl) ?_
  refine hAllOk.c 169 (ok_iand (by decide +kernel) rfl) ?_
  refine hAllOk.c 170 (ok_istore_n (f := 1) rfl (by decide) (by decide +kernel) rfl) ?_
  refine hAllOk.c 171 (ok_iload_n (f := 3) rfl (by decide +kernel) rfl) ?_
  refine hAllOk.c 172 (ok_ifeq (off := 7) (by decide +kernel) (by decide +kernel) rfl) ?_
  refine hAllOk.c 173 (ok_no) ?_
  refine hAllOk.c 174 (ok_no) ?_
  refine hAllOk.c 175 (ok_iconst (n := 1) (by decide +kernel) (by decide +kernel) rfl) ?_
  refine hAllOk.c 176 (ok_goto (off := 4) (by decide +kernel) (by decide +kernel)) ?_
  refine hAllOk.c 177 (ok_no) ?_
  refine hAllOk.c 178 (ok_no) ?_
  refine hAllOk.c 179 (ok_iconst (n := 0) (by decide +kernel) (by decide +kernel) rfl) ?_
  refine hAllOk.c 180 (ok_istore_n (f := 2) rfl (by decide) (by decide +kernel) rfl) ?_
  refine hAllOk.c 181 (ok_goto (off := (-129)) (by decide +kernel) (by decide +kernel)) ?_
  refine hAllOk.c 182 (ok_no) ?_
  refine hAllOk.c 183 (ok_no) ?_
  refine hAllOk.c 184 (ok_iload_n (f := 1) rfl (by decide +kernel) rfl) ?_
  refine hAllOk.c 185 (ok_ireturn (by decide +kernel)) ?_
  trivial
def M_Mo_weights : hM := (yX6_weights, prog_8_method_23_code, 4, (some .int), 2, 43)
def code_Mo_weights (K : hK) (B : Nat × Nat) (Q : hPost) : List hSem := [x_const 1 (0), x_istore 2 2, x_const 3 (0), x_istore 4 3, x_iload 5 3, x_aload 6 0, x_getfield 9 6 0, x_no, x_no, x_const 10 (0), x_iaload K 11, x_icge 41 14, x_no, x_no, x_iload 15 2, x_iload 16 1, x_iload 17 3, x_callS K 20 M_Mo_has 2, x_no, x_no, x_ifeq 32 23, x_no, x_no, x_aload 24 0, x_iload 25 3, x_const 26 (1), x_callV K 29 M_Mo_of 6 2, x_no, x_no, x_goto 33, x_no, x_no, x_const 33 (0), x_iadd 34, x_istore 35 2, x_iinc 38 3 (1), x_no, x_no, x_goto 4, x_no, x_no, x_iload 42 2, x_ireturn (some .int) Q]
set_option maxRecDepth 100000 in
set_option maxHeartbeats 4000000 in
theorem okc_Mo_weights (K : hK) (B : Nat × Nat) (Q : hPost) : hAllOk (hJ K M_Mo_weights B Q) 0 (code_Mo_weights K B Q) := by
  refine hAllOk.c 0 (ok_iconst (n := 0) (by decide +kernel) (by decide +kernel) rfl) ?_
  refine hAllOk.c 1 (ok_istore_n (f := 2) rfl (by decide) (by decide +kernel) rfl) ?_
  refine hAllOk.c 2 (ok_iconst (n := 0) (by decide +kernel) (by decide +kernel) rfl) ?_
  refine hAllOk.c 3 (ok_istore_n (f := 3) rfl (by decide) (by decide +kernel) rfl) ?_
  refine hAllOk.c 4 (ok_iload_n (f := 3) rfl (by decide +kernel) rfl) ?_
  refine hAllOk.c 5 (ok_aload_n (f := 0) rfl (by decide +kernel) rfl) ?_
  refine hAllOk.c 6 (ok_getfield (idx := 7) (N := 16) (T := TX6) rfl inTb6 (by decide) rfl wd_t_602 (by decide +kernel) rfl) ?_
  refine hAllOk.c 7 (ok_no) ?_
  refine hAllOk.c 8 (ok_no) ?_
  refine hAllOk.c 9 (ok_iconst (n := 0) (by decide +kernel) (by decide +kernel) rfl) ?_
  refine hAllOk.c 10 (ok_iaload (by decide +kernel) rfl) ?_
  refine hAllOk.c 11 (ok_icge (off := 30) (by decide +kernel) (by decide +kernel) rfl) ?_
  refine hAllOk.c 12 (ok_no) ?_
  refine hAllOk.c 13 (ok_no) ?_
  refine hAllOk.c 14 (ok_iload_n (f := 2) rfl (by decide +kernel) rfl) ?_
  refine hAllOk.c 15 (ok_iload_n (f := 1) rfl (by decide +kernel) rfl) ?_
  refine hAllOk.c 16 (ok_iload_n (f := 3) rfl (by decide +kernel) rfl) ?_
  refine hAllOk.c 17 (ok_callS (idx := 81) ⟨wd_t_715, wd_t_7, by decide +kernel, by decide +kernel⟩ wd_t_713 wd_t_714 (by decide +kernel) rfl) ?_
  refine hAllOk.c 18 (ok_no) ?_
  refine hAllOk.c 19 (ok_no) ?_
  refine hAllOk.c 20 (ok_ifeq (off := 12) (by decide +kernel) (by decide +kernel) rfl) ?_
  refine hAllOk.c 21 (ok_no) ?_
  refine hAllOk.c 22 (ok_no) ?_
  refine hAllOk.c 23 (ok_aload_n (f := 0) rfl (by decide +kernel) rfl) ?_
  refine hAllOk.c 24 (ok_iload_n (f := 3) rfl (by decide +kernel) rfl) ?_
  refine hAllOk.c 25 (ok_iconst (n := 1) (by decide +kernel) (by decide +kernel) rfl) ?_
  refine hAllOk.c 26 (ok_callV (idx := 84) ⟨wd_t_743, wd_t_7, by decide +kernel, by decide +kernel⟩ rfl rfl wd_t_740 wd_t_742 wd_s_64 (by decide +kernel) rfl) ?_
  refine hAllOk.c 27 (ok_no) ?_
  refine hAllOk.c 28 (ok_no) ?_
  refine hAllOk.c 29 (ok_goto (off := 4) (by decide +kernel) (by decide +kernel)) ?_
  refine hAllOk.c 30 (ok_no) ?_
  refine hAllOk.c 31 (ok_no) ?_
  refine hAllOk.c 32 (ok_iconst (n := 0) (by decide +kernel) (by decide +kernel) rfl) ?_
  refine hAllOk.c 33 (ok_iadd (by decide +kernel) rfl) ?_
  refine hAllOk.c 34 (ok_istore_n (f := 2) rfl (by decide) (by decide +kernel) rfl) ?_
  refine hAllOk.c 35 (ok_iinc (n := 1) (by decide +kernel) (by decide) (by decide +kernel) rfl) ?_
  refine hAllOk.c 36 (ok_no) ?_
  refine hAllOk.c 37 (ok_no) ?_
  refine hAllOk.c 38 (ok_goto (off := (-34)) (by decide +kernel) (by decide +kernel)) ?_
  refine hAllOk.c 39 (ok_no) ?_
  refine hAllOk.c 40 (ok_no) ?_
  refine hAllOk.c 41 (ok_iload_n (f := 2) rfl (by decide +kernel) rfl) ?_
  refine hAllOk.c 42 (ok_ireturn (by decide +kernel)) ?_
  trivial
def M_Mo_isStable : hM := (yX6_isStable, prog_8_method_20_code, 4, (some .boolean), 2, 43)
def code_Mo_isStable (K : hK) (B : Nat × Nat) (Q : hPost) : List hSem := [x_const 1 (1), x_istore 2 2, x_const 3 (0), x_istore 4 3, x_iload 5 3, x_aload 6 0, x_getfield 9 6 0, x_no, x_no, x_const 10 (0), x_iaload K 11, x_icge 74 14, x_no, x_no, x_iload 15 2, x_ifeq 66 18, x_no, x_no, x_iload 19 1, x_iload 20 3, x_callS K 23 M_Mo_has 2, x_no, x_no, x_ifeq 62 26, x_no, x_no, x_aload 27 0, x_iload 28 3, x_const 29 (2), x_callV K 32 M_Mo_of 6 2, x_no, x_no, x_const 33 (1), x_icne 66 36, x_no, x_no, x_aload 37 0, x_iload 38 3, x_iload 39 1, x_callV K 42 M_Mo_isMet 6 2, x_no, x_no, x_ifeq 66 45, x_no, x_no, x_aload 46 0, x_iload 47 1, x_callS K 50 M_Mo_ones 1, x_no, x_no, x_callV K 53 M_Mo_feeOf 6 1, x_no, x_no, x_aload 54 0, x_iload 55 3, x_const 56 (0), x_callV K 59 M_Mo_of 6 2, x_no, x_no, x_icgt 66 62, x_no, x_no, x_const 63 (1), x_goto 67, x_no, x_no, x_const 67 (0), x_istore 68 2, x_iinc 71 3 (1), x_no, x_no, x_goto 4, x_no, x_no, x_iload 75 2, x_ireturn (some .boolean) Q]
set_option maxRecDepth 100000 in
set_option maxHeartbeats 4000000 in
theorem okc_Mo_isStable (K : hK) (B : Nat × Nat) (Q : hPost) : hAllOk (hJ K M_Mo_isStable B Q) 0 (code_Mo_isStable K B Q) := by
  refine hAllOk.c 0 (ok_iconst (n := 1) (by decide +kernel) (by decide +kernel) rfl) ?_
  refine hAllOk.c 1 (ok_istore_n (f := 2) rfl (by decide) (by decide +kernel) rfl) ?_
  refine hAllOk.c 2 (ok_iconst (n := 0) (by decide +kernel) (by decide +kernel) rfl) ?_
  refine hAllOk.c 3 (ok_istore_n (f := 3) rfl (by decide) (by decide +kernel) rfl) ?_
  refine hAllOk.c 4 (ok_iload_n (f := 3) rfl (by decide +kernel) rfl) ?_
  refine hAllOk.c 5 (ok_aload_n (f := 0) rfl (by decide +kernel) rfl) ?_
  refine hAllOk.c 6 (ok_getfield (idx := 7) (N := 16) (T := TX6) rfl inTb6 (by decide) rfl wd_t_602 (by decide +kernel) rfl) ?_
  refine hAllOk.c 7 (ok_no) ?_
  refine hAllOk.c 8 (ok_no) ?_
  refine hAllOk.c 9 (ok_iconst (n := 0) (by decide +kernel) (by decide +kernel) rfl) ?_
  refine hAllOk.c 10 (ok_iaload (by decide +kernel) rfl) ?_
  refine hAllOk.c 11 (ok_icge (off := 63) (by decide +kernel) (by decide +kernel) rfl) ?_
  refine hAllOk.c 12 (ok_no) ?_
  refine hAllOk.c 13 (ok_no) ?_
  refine hAllOk.c 14 (ok_iload_n (f := 2) rfl (by decide +kernel) rfl) ?_
  refine hAllOk.c 15 (ok_ifeq (off := 51) (by decide +kernel) (by decide +kernel) rfl) ?_
  refine hAllOk.c 16 (ok_no) ?_
  refine hAllOk.c 17 (ok_no) ?_
  refine hAllOk.c 18 (ok_iload_n (f := 1) rfl (by decide +kernel) rfl) ?_
  refine hAllOk.c 19 (ok_iload_n (f := 3) rfl (by decide +kernel) rfl) ?_
  refine hAllOk.c 20 (ok_callS (idx := 81) ⟨wd_t_715, wd_t_7, by decide +kernel, by decide +kernel⟩ wd_t_713 wd_t_714 (by decide +kernel) rfl) ?_
  refine hAllOk.c 21 (ok_no) ?_
  refine hAllOk.c 22 (ok_no) ?_
  refine hAllOk.c 23 (ok_ifeq (off := 39) (by decide +kernel) (by decide +kernel) rfl) ?_
  refine hAllOk.c 24 (ok_no) ?_
  refine hAllOk.c 25 (ok_no) ?_
  refine hAllOk.c 26 (ok_aload_n (f := 0) rfl (by decide +kernel) rfl) ?_
  refine hAllOk.c 27 (ok_iload_n (f := 3) rfl (by decide +kernel) rfl) ?_
  refine hAllOk.c 28 (ok_iconst (n := 2) (by decide +kernel) (by decide +kernel) rfl) ?_
  refine hAllOk.c 29 (ok_callV (idx := 84) ⟨wd_t_743, wd_t_7, by decide +kernel, by decide +kernel⟩ rfl rfl wd_t_740 wd_t_742 wd_s_64 (by decide +kernel) rfl) ?_
  refine hAllOk.c 30 (ok_no) ?_
  refine hAllOk.c 31 (ok_no) ?_
  refine hAllOk.c 32 (ok_iconst (n := 1) (by decide +kernel) (by decide +kernel) rfl) ?_
  refine hAllOk.c 33 (ok_icne (off := 33) (by decide +kernel) (by decide +kernel) rfl) ?_
  refine hAllOk.c 34 (ok_no) ?_
  refine hAllOk.c 35 (ok_no) ?_
  refine hAllOk.c 36 (ok_aload_n (f := 0) rfl (by decide +kernel) rfl) ?_
  refine hAllOk.c 37 (ok_iload_n (f := 3) rfl (by decide +kernel) rfl) ?_
  refine hAllOk.c 38 (ok_iload_n (f := 1) rfl (by decide +kernel) rfl) ?_
  refine hAllOk.c 39 (ok_callV (idx := 87) ⟨wd_t_767, wd_t_7, by decide +kernel, by decide +kernel⟩ rfl rfl wd_t_764 wd_t_766 wd_s_67 (by decide +kernel) rfl) ?_
  refine hAllOk.c 40 (ok_no) ?_
  refine hAllOk.c 41 (ok_no) ?_
  refine hAllOk.c 42 (ok_ifeq (off := 24) (by decide +kernel) (by decide +kernel) rfl) ?_
  refine hAllOk.c 43 (ok_no) ?_
  refine hAllOk.c 44 (ok_no) ?_
  refine hAllOk.c 45 (ok_aload_n (f := 0) rfl (by decide +kernel) rfl) ?_
  refine hAllOk.c 46 (ok_iload_n (f := 1) rfl (by decide +kernel) rfl) ?_
  refine hAllOk.c 47 (ok_callS (idx := 78) ⟨wd_t_712, wd_t_7, by decide +kernel, by decide +kernel⟩ wd_t_710 wd_t_711 (by decide +kernel) rfl) ?_
  refine hAllOk.c 48 (ok_no) ?_
  refine hAllOk.c 49 (ok_no) ?_
  refine hAllOk.c 50 (ok_callV (idx := 90) ⟨wd_t_771, wd_t_7, by decide +kernel, by decide +kernel⟩ rfl rfl wd_t_768 wd_t_770 wd_s_68 (by decide +kernel) rfl) ?_
  refine hAllOk.c 51 (ok_no) ?_
  refine hAllOk.c 52 (ok_no) ?_
  refine hAllOk.c 53 (ok_aload_n (f := 0) rfl (by decide +kernel) rfl) ?_
  refine hAllOk.c 54 (ok_iload_n (f := 3) rfl (by decide +kernel) rfl) ?_
  refine hAllOk.c 55 (ok_iconst (n := 0) (by decide +kernel) (by decide +kernel) rfl) ?_
  refine hAllOk.c 56 (ok_callV (idx := 84) ⟨wd_t_743, wd_t_7, by decide +kernel, by decide +kernel⟩ rfl rfl wd_t_740 wd_t_742 wd_s_64 (by decide +kernel) rfl) ?_
  refine hAllOk.c 57 (ok_no) ?_
  refine hAllOk.c 58 (ok_no) ?_
  refine hAllOk.c 59 (ok_icgt (off := 7) (by decide +kernel) (by decide +kernel) rfl) ?_
  refine hAllOk.c 60 (ok_no) ?_
  refine hAllOk.c 61 (ok_no) ?_
  refine hAllOk.c 62 (ok_iconst (n := 1) (by decide +kernel) (by decide +kernel) rfl) ?_
  refine hAllOk.c 63 (ok_goto (off := 4) (by decide +kernel) (by decide +kernel)) ?_
  refine hAllOk.c 64 (ok_no) ?_
  refine hAllOk.c 65 (ok_no) ?_
  refine hAllOk.c 66 (ok_iconst (n := 0) (by decide +kernel) (by decide +kernel) rfl) ?_
  refine hAllOk.c 67 (ok_istore_n (f := 2) rfl (by decide) (by decide +kernel) rfl) ?_
  refine hAllOk.c 68 (ok_iinc (n := 1) (by decide +kernel) (by decide) (by decide +kernel) rfl) ?_
  refine hAllOk.c 69 (ok_no) ?_
  refine hAllOk.c 70 (ok_no) ?_
  refine hAllOk.c 71 (ok_goto (off := (-67)) (by decide +kernel) (by decide +kernel)) ?_
  refine hAllOk.c 72 (ok_no) ?_
  refine hAllOk.c 73 (ok_no) ?_
  refine hAllOk.c 74 (ok_iload_n (f := 2) rfl (by decide +kernel) rfl) ?_
  refine hAllOk.c 75 (ok_ireturn (by decide +kernel)) ?_
  trivial
theorem wd_t_760 : Cond.methodLink RX6 100 yX6_greatest ∈ hTb := hTb_t (List.mem_of_getElem? (i := 760) (by decide +kernel)) (by decide +kernel)
theorem wd_t_763 : Cond.code yX6_greatest prog_8_method_22_code 5 (some .int) ∈ hTb := hTb_t (List.mem_of_getElem? (i := 763) (by decide +kernel)) (by decide +kernel)
theorem wd_t_762 : Cond.instanceMethod yX6_greatest ∈ hTb := hTb_t (List.mem_of_getElem? (i := 762) (by decide +kernel)) (by decide +kernel)
theorem wd_s_66 : Cond.selects RX6 yX6_greatest yX6_greatest ∈ hTb := hTb_s (List.mem_of_getElem? (i := 66) (by decide +kernel)) (by decide +kernel)
theorem wd_t_772 : Cond.methodLink RX6 106 yX6_weights ∈ hTb := hTb_t (List.mem_of_getElem? (i := 772) (by decide +kernel)) (by decide +kernel)
theorem wd_t_775 : Cond.code yX6_weights prog_8_method_23_code 4 (some .int) ∈ hTb := hTb_t (List.mem_of_getElem? (i := 775) (by decide +kernel)) (by decide +kernel)
theorem wd_t_774 : Cond.instanceMethod yX6_weights ∈ hTb := hTb_t (List.mem_of_getElem? (i := 774) (by decide +kernel)) (by decide +kernel)
theorem wd_s_69 : Cond.selects RX6 yX6_weights yX6_weights ∈ hTb := hTb_s (List.mem_of_getElem? (i := 69) (by decide +kernel)) (by decide +kernel)
theorem wd_t_776 : Cond.methodLink RX6 109 yX6_isStable ∈ hTb := hTb_t (List.mem_of_getElem? (i := 776) (by decide +kernel)) (by decide +kernel)
theorem wd_t_779 : Cond.code yX6_isStable prog_8_method_20_code 4 (some .boolean) ∈ hTb := hTb_t (List.mem_of_getElem? (i := 779) (by decide +kernel)) (by decide +kernel)
theorem wd_t_778 : Cond.instanceMethod yX6_isStable ∈ hTb := hTb_t (List.mem_of_getElem? (i := 778) (by decide +kernel)) (by decide +kernel)
theorem wd_s_70 : Cond.selects RX6 yX6_isStable yX6_isStable ∈ hTb := hTb_s (List.mem_of_getElem? (i := 70) (by decide +kernel)) (by decide +kernel)
def M_Mo_chosen : hM := (yX6_chosen, prog_8_method_24_code, 4, (some .int), 4, 89)
def code_Mo_chosen (K : hK) (B : Nat × Nat) (Q : hPost) : List hSem := [x_aload 1 0, x_callV K 4 M_Mo_greatest 6 0, x_no, x_no, x_istore 5 1, x_iload 6 1, x_callS K 9 M_Mo_ones 1, x_no, x_no, x_aload 10 0, x_getfield 13 6 0, x_no, x_no, x_const 14 (4), x_iaload K 15, x_icgt 20 18, x_no, x_no, x_iload 19 1, x_ireturn (some .int) Q, x_const 21 (0), x_istore 22 1, x_const 23 (1), x_istore 24 2, x_iload 25 2, x_aload 26 0, x_callV K 29 M_Mo_all 6 0, x_no, x_no, x_icgt 92 32, x_no, x_no, x_iload 33 2, x_callS K 36 M_Mo_ones 1, x_no, x_no, x_istore 37 3, x_iload 38 3, x_aload 39 0, x_getfield 42 6 0, x_no, x_no, x_const 43 (4), x_iaload K 44, x_icgt 86 47, x_no, x_no, x_iload 48 3, x_iload 49 1, x_callS K 52 M_Mo_ones 1, x_no, x_no, x_icgt 76 55, x_no, x_no, x_iload 56 3, x_iload 57 1, x_callS K 60 M_Mo_ones 1, x_no, x_no, x_icne 86 63, x_no, x_no, x_aload 64 0, x_iload 65 2, x_callV K 68 M_Mo_weights 6 1, x_no, x_no, x_aload 69 0, x_iload 70 1, x_callV K 73 M_Mo_weights 6 1, x_no, x_no, x_icle 86 76, x_no, x_no, x_aload 77 0, x_iload 78 2, x_callV K 81 M_Mo_isStable 6 1, x_no, x_no, x_ifeq 86 84, x_no, x_no, x_iload 85 2, x_istore 86 1, x_iinc 89 2 (1), x_no, x_no, x_goto 24, x_no, x_no, x_iload 93 1, x_ireturn (some .int) Q]
set_option maxRecDepth 100000 in
set_option maxHeartbeats 4000000 in
theorem okc_Mo_chosen (K : hK) (B : Nat × Nat) (Q : hPost) : hAllOk (hJ K M_Mo_chosen B Q) 0 (code_Mo_chosen K B Q) := by
  refine hAllOk.c 0 (ok_aload_n (f := 0) rfl (by decide +kernel) rfl) ?_
  refine hAllOk.c 1 (ok_callV (idx := 100) ⟨wd_t_763, wd_t_7, by decide +kernel, by decide +kernel⟩ rfl rfl wd_t_760 wd_t_762 wd_s_66 (by decide +kernel) rfl) ?_
  refine hAllOk.c 2 (ok_no) ?_
  refine hAllOk.c 3 (ok_no) ?_
  refine hAllOk.c 4 (ok_istore_n (f := 1) rfl (by decide) (by decide +kernel) rfl) ?_
  refine hAllOk.c 5 (ok_iload_n (f := 1) rfl (by decide +kernel) rfl) ?_
  refine hAllOk.c 6 (ok_callS (idx := 78) ⟨wd_t_712, wd_t_7, by decide +kernel, by decide +kernel⟩ wd_t_710 wd_t_711 (by decide +kernel) rfl) ?_
  refine hAllOk.c 7 (ok_no) ?_
  refine hAllOk.c 8 (ok_no) ?_
  refine hAllOk.c 9 (ok_aload_n (f := 0) rfl (by decide +kernel) rfl) ?_
  refine hAllOk.c 10 (ok_getfield (idx := 7) (N := 16) (T := TX6) rfl inTb6 (by decide) rfl wd_t_602 (by decide +kernel) rfl) ?_
  refine hAllOk.c 11 (ok_no) ?_
  refine hAllOk.c 12 (ok_no) ?_
  refine hAllOk.c 13 (ok_iconst (n := 4) (by decide +kernel) (by decide +kernel) rfl) ?_
  refine hAllOk.c 14 (ok_iaload (by decide +kernel) rfl) ?_
  refine hAllOk.c 15 (ok_icgt (off := 5) (by decide +kernel) (by decide +kernel) rfl) ?_
  refine hAllOk.c 16 (ok_no) ?_
  refine hAllOk.c 17 (ok_no) ?_
  refine hAllOk.c 18 (ok_iload_n (f := 1) rfl (by decide +kernel) rfl) ?_
  refine hAllOk.c 19 (ok_ireturn (by decide +kernel)) ?_
  refine hAllOk.c 20 (ok_iconst (n := 0) (by decide +kernel) (by decide +kernel) rfl) ?_
  refine hAllOk.c 21 (ok_istore_n (f := 1) rfl (by decide) (by decide +kernel) rfl) ?_
  refine hAllOk.c 22 (ok_iconst (n := 1) (by decide +kernel) (by decide +kernel) rfl) ?_
  refine hAllOk.c 23 (ok_istore_n (f := 2) rfl (by decide) (by decide +kernel) rfl) ?_
  refine hAllOk.c 24 (ok_iload_n (f := 2) rfl (by decide +kernel) rfl) ?_
  refine hAllOk.c 25 (ok_aload_n (f := 0) rfl (by decide +kernel) rfl) ?_
  refine hAllOk.c 26 (ok_callV (idx := 103) ⟨wd_t_701, wd_t_7, by decide +kernel, by decide +kernel⟩ rfl rfl wd_t_698 wd_t_700 wd_s_58 (by decide +kernel) rfl) ?_
  refine hAllOk.c 27 (ok_no) ?_
  refine hAllOk.c 28 (ok_no) ?_
  refine hAllOk.c 29 (ok_icgt (off := 63) (by decide +kernel) (by decide +kernel) rfl) ?_
  refine hAllOk.c 30 (ok_no) ?_
  refine hAllOk.c 31 (ok_no) ?_
  refine hAllOk.c 32 (ok_iload_n (f := 2) rfl (by decide +kernel) rfl) ?_
  refine hAllOk.c 33 (ok_callS (idx := 78) ⟨wd_t_712, wd_t_7, by decide +kernel, by decide +kernel⟩ wd_t_710 wd_t_711 (by decide +kernel) rfl) ?_
  refine hAllOk.c 34 (ok_no) ?_
  refine hAllOk.c 35 (ok_no) ?_
  refine hAllOk.c 36 (ok_istore_n (f := 3) rfl (by decide) (by decide +kernel) rfl) ?_
  refine hAllOk.c 37 (ok_iload_n (f := 3) rfl (by decide +kernel) rfl) ?_
  refine hAllOk.c 38 (ok_aload_n (f := 0) rfl (by decide +kernel) rfl) ?_
  refine hAllOk.c 39 (ok_getfield (idx := 7) (N := 16) (T := TX6) rfl inTb6 (by decide) rfl wd_t_602 (by decide +kernel) rfl) ?_
  refine hAllOk.c 40 (ok_no) ?_
  refine hAllOk.c 41 (ok_no) ?_
  refine hAllOk.c 42 (ok_iconst (n := 4) (by decide +kernel) (by decide +kernel) rfl) ?_
  refine hAllOk.c 43 (ok_iaload (by decide +kernel) rfl) ?_
  refine hAllOk.c 44 (ok_icgt (off := 42) (by decide +kernel) (by decide +kernel) rfl) ?_
  refine hAllOk.c 45 (ok_no) ?_
  refine hAllOk.c 46 (ok_no) ?_
  refine hAllOk.c 47 (ok_iload_n (f := 3) rfl (by decide +kernel) rfl) ?_
  refine hAllOk.c 48 (ok_iload_n (f := 1) rfl (by decide +kernel) rfl) ?_
  refine hAllOk.c 49 (ok_callS (idx := 78) ⟨wd_t_712, wd_t_7, by decide +kernel, by decide +kernel⟩ wd_t_710 wd_t_711 (by decide +kernel) rfl) ?_
  refine hAllOk.c 50 (ok_no) ?_
  refine hAllOk.c 51 (ok_no) ?_
  refine hAllOk.c 52 (ok_icgt (off := 24) (by decide +kernel) (by decide +kernel) rfl) ?_
  refine hAllOk.c 53 (ok_no) ?_
  refine hAllOk.c 54 (ok_no) ?_
  refine hAllOk.c 55 (ok_iload_n (f := 3) rfl (by decide +kernel) rfl) ?_
  refine hAllOk.c 56 (ok_iload_n (f := 1) rfl (by decide +kernel) rfl) ?_
  refine hAllOk.c 57 (ok_callS (idx := 78) ⟨wd_t_712, wd_t_7, by decide +kernel, by decide +kernel⟩ wd_t_710 wd_t_711 (by decide +kernel) rfl) ?_
  refine hAllOk.c 58 (ok_no) ?_
  refine hAllOk.c 59 (ok_no) ?_
  refine hAllOk.c 60 (ok_icne (off := 26) (by decide +kernel) (by decide +kernel) rfl) ?_
  refine hAllOk.c 61 (ok_no) ?_
  refine hAllOk.c 62 (ok_no) ?_
  refine hAllOk.c 63 (ok_aload_n (f := 0) rfl (by decide +kernel) rfl) ?_
  refine hAllOk.c 64 (ok_iload_n (f := 2) rfl (by decide +kernel) rfl) ?_
  refine hAllOk.c 65 (ok_callV (idx := 106) ⟨wd_t_775, wd_t_7, by decide +kernel, by decide +kernel⟩ rfl rfl wd_t_772 wd_t_774 wd_s_69 (by decide +kernel) rfl) ?_
  refine hAllOk.c 66 (ok_no) ?_
  refine hAllOk.c 67 (ok_no) ?_
  refine hAllOk.c 68 (ok_aload_n (f := 0) rfl (by decide +kernel) rfl) ?_
  refine hAllOk.c 69 (ok_iload_n (f := 1) rfl (by decide +kernel) rfl) ?_
  refine hAllOk.c 70 (ok_callV (idx := 106) ⟨wd_t_775, wd_t_7, by decide +kernel, by decide +kernel⟩ rfl rfl wd_t_772 wd_t_774 wd_s_69 (by decide +kernel) rfl) ?_
  refine hAllOk.c 71 (ok_no) ?_
  refine hAllOk.c 72 (ok_no) ?_
  refine hAllOk.c 73 (ok_icle (off := 13) (by decide +kernel) (by decide +kernel) rfl) ?_
  refine hAllOk.c 74 (ok_no) ?_
  refine hAllOk.c 75 (ok_no) ?_
  refine hAllOk.c 76 (ok_aload_n (f := 0) rfl (by decide +kernel) rfl) ?_
  refine hAllOk.c 77 (ok_iload_n (f := 2) rfl (by decide +kernel) rfl) ?_
  refine hAllOk.c 78 (ok_callV (idx := 109) ⟨wd_t_779, wd_t_7, by decide +kernel, by decide +kernel⟩ rfl rfl wd_t_776 wd_t_778 wd_s_70 (by decide +kernel) rfl) ?_
  refine hAllOk.c 79 (ok_no) ?_
  refine hAllOk.c 80 (ok_no) ?_
  refine hAllOk.c 81 (ok_ifeq (off := 5) (by decide +kernel) (by decide +kernel) rfl) ?_
  refine hAllOk.c 82 (ok_no) ?_
  refine hAllOk.c 83 (ok_no) ?_
  refine hAllOk.c 84 (ok_iload_n (f := 2) rfl (by decide +kernel) rfl) ?_
  refine hAllOk.c 85 (ok_istore_n (f := 1) rfl (by decide) (by decide +kernel) rfl) ?_
  refine hAllOk.c 86 (ok_iinc (n := 1) (by decide +kernel) (by decide) (by decide +kernel) rfl) ?_
  refine hAllOk.c 87 (ok_no) ?_
  refine hAllOk.c 88 (ok_no) ?_
  refine hAllOk.c 89 (ok_goto (off := (-65)) (by decide +kernel) (by decide +kernel)) ?_
  refine hAllOk.c 90 (ok_no) ?_
  refine hAllOk.c 91 (ok_no) ?_
  refine hAllOk.c 92 (ok_iload_n (f := 1) rfl (by decide +kernel) rfl) ?_
  refine hAllOk.c 93 (ok_ireturn (by decide +kernel)) ?_
  trivial
theorem wd_t_756 : Cond.methodLink RX6 138 yX6_chosen ∈ hTb := hTb_t (List.mem_of_getElem? (i := 756) (by decide +kernel)) (by decide +kernel)
theorem wd_t_759 : Cond.code yX6_chosen prog_8_method_24_code 4 (some .int) ∈ hTb := hTb_t (List.mem_of_getElem? (i := 759) (by decide +kernel)) (by decide +kernel)
theorem wd_t_758 : Cond.instanceMethod yX6_chosen ∈ hTb := hTb_t (List.mem_of_getElem? (i := 758) (by decide +kernel)) (by decide +kernel)
theorem wd_s_65 : Cond.selects RX6 yX6_chosen yX6_chosen ∈ hTb := hTb_s (List.mem_of_getElem? (i := 65) (by decide +kernel)) (by decide +kernel)
def M_Mo_fix : hM := (yX6_fix, prog_8_method_36_code, 7, (some .int), 5, 112)
def code_Mo_fix (K : hK) (B : Nat × Nat) (Q : hPost) : List hSem := [x_aload 1 0, x_callV K 4 M_Mo_isFixed 6 0, x_no, x_no, x_ifeq 10 7, x_no, x_no, x_const 9 (-4), x_no, x_ireturn (some .int) Q, x_aload 11 0, x_callV K 14 M_Mo_chosen 6 0, x_no, x_no, x_istore 15 1, x_iload 16 1, x_ifne 22 19, x_no, x_no, x_const 21 (-5), x_no, x_ireturn (some .int) Q, x_aload 23 0, x_callV K 26 M_Mo_record 6 0, x_no, x_no, x_aload 27 0, x_iload 28 1, x_callS K 31 M_Mo_ones 1, x_no, x_no, x_callV K 34 M_Mo_feeOf 6 1, x_no, x_no, x_istore 35 2, x_const 36 (0), x_istore 37 3, x_const 38 (0), x_istore 40 4, x_no, x_const 41 (0), x_istore 43 5, x_no, x_iload 45 5, x_no, x_aload 46 0, x_getfield 49 6 0, x_no, x_no, x_const 50 (0), x_iaload K 51, x_icge 130 54, x_no, x_no, x_iload 55 1, x_iload 57 5, x_no, x_callS K 60 M_Mo_has 2, x_no, x_no, x_ifeq 124 63, x_no, x_no, x_iload 64 2, x_aload 65 0, x_iload 67 5, x_no, x_const 68 (3), x_callV K 71 M_Mo_of 6 2, x_no, x_no, x_iadd 72, x_istore 74 6, x_no, x_aload 75 0, x_getfield 78 6 0, x_no, x_no, x_iload 80 5, x_no, x_const 81 (5), x_callS K 84 M_Mo_at 2, x_no, x_no, x_dup2 85, x_iaload K 86, x_iload 88 6, x_no, x_iadd 89, x_iastore K 90, x_aload 91 0, x_getfield 94 6 0, x_no, x_no, x_iload 96 5, x_no, x_const 97 (3), x_callS K 100 M_Mo_at 2, x_no, x_no, x_const 101 (0), x_iastore K 102, x_aload 103 0, x_getfield 106 6 0, x_no, x_no, x_iload 108 5, x_no, x_const 110 (7), x_no, x_callS K 113 M_Mo_at 2, x_no, x_no, x_iload 115 4, x_no, x_iastore K 116, x_iinc 119 4 (1), x_no, x_no, x_iload 120 3, x_iload 122 6, x_no, x_iadd 123, x_istore 124 3, x_iinc 127 5 (1), x_no, x_no, x_goto 43, x_no, x_no, x_aload 131 0, x_getfield 134 6 0, x_no, x_no, x_const 136 (7), x_no, x_const 137 (1), x_iastore K 138, x_aload 139 0, x_getfield 142 6 0, x_no, x_no, x_const 144 (8), x_no, x_iload 145 1, x_iastore K 146, x_aload 147 0, x_getfield 150 6 0, x_no, x_no, x_const 152 (9), x_no, x_iload 153 2, x_iastore K 154, x_aload 155 0, x_getfield 158 6 0, x_no, x_no, x_const 160 (10), x_no, x_dup2 161, x_iaload K 162, x_iload 163 3, x_iadd 164, x_iastore K 165, x_aload 166 0, x_getfield 169 6 0, x_no, x_no, x_const 171 (12), x_no, x_dup2 172, x_iaload K 173, x_const 174 (1), x_iadd 175, x_iastore K 176, x_iload 177 3, x_ireturn (some .int) Q]
set_option maxRecDepth 100000 in
set_option maxHeartbeats 4000000 in
theorem okc_Mo_fix (K : hK) (B : Nat × Nat) (Q : hPost) : hAllOk (hJ K M_Mo_fix B Q) 0 (code_Mo_fix K B Q) := by
  refine hAllOk.c 0 (ok_aload_n (f := 0) rfl (by decide +kernel) rfl) ?_
  refine hAllOk.c 1 (ok_callV (idx := 113) ⟨wd_t_662, wd_t_7, by decide +kernel, by decide +kernel⟩ rfl rfl wd_t_659 wd_t_661 wd_s_50 (by decide +kernel) rfl) ?_
  refine hAllOk.c 2 (ok_no) ?_
  refine hAllOk.c 3 (ok_no) ?_
  refine hAllOk.c 4 (ok_ifeq (off := 6) (by decide +kernel) (by decide +kernel) rfl) ?_
  refine hAllOk.c 5 (ok_no) ?_
  refine hAllOk.c 6 (ok_no) ?_
  refine hAllOk.c 7 (ok_bipush (n := -4) (by decide +kernel) (by decide +kernel) rfl) ?_
  refine hAllOk.c 8 (ok_no) ?_
  refine hAllOk.c 9 (ok_ireturn (by decide +kernel)) ?_
  refine hAllOk.c 10 (ok_aload_n (f := 0) rfl (by decide +kernel) rfl) ?_
  refine hAllOk.c 11 (ok_callV (idx := 138) ⟨wd_t_759, wd_t_7, by decide +kernel, by decide +kernel⟩ rfl rfl wd_t_756 wd_t_758 wd_s_65 (by decide +kernel) rfl) ?_
  refine hAllOk.c 12 (ok_no) ?_
  refine hAllOk.c 13 (ok_no) ?_
  refine hAllOk.c 14 (ok_istore_n (f := 1) rfl (by decide) (by decide +kernel) rfl) ?_
  refine hAllOk.c 15 (ok_iload_n (f := 1) rfl (by decide +kernel) rfl) ?_
  refine hAllOk.c 16 (ok_ifne (off := 6) (by decide +kernel) (by decide +kernel) rfl) ?_
  refine hAllOk.c 17 (ok_no) ?_
  refine hAllOk.c 18 (ok_no) ?_
  refine hAllOk.c 19 (ok_bipush (n := -5) (by decide +kernel) (by decide +kernel) rfl) ?_
  refine hAllOk.c 20 (ok_no) ?_
  refine hAllOk.c 21 (ok_ireturn (by decide +kernel)) ?_
  refine hAllOk.c 22 (ok_aload_n (f := 0) rfl (by decide +kernel) rfl) ?_
  refine hAllOk.c 23 (ok_callV (idx := 116) ⟨wd_t_666, wd_t_7, by decide +kernel, by decide +kernel⟩ rfl rfl wd_t_663 wd_t_665 wd_s_51 (by decide +kernel) rfl) ?_
  refine hAllOk.c 24 (ok_no) ?_
  refine hAllOk.c 25 (ok_no) ?_
  refine hAllOk.c 26 (ok_aload_n (f := 0) rfl (by decide +kernel) rfl) ?_
  refine hAllOk.c 27 (ok_iload_n (f := 1) rfl (by decide +kernel) rfl) ?_
  refine hAllOk.c 28 (ok_callS (idx := 78) ⟨wd_t_712, wd_t_7, by decide +kernel, by decide +kernel⟩ wd_t_710 wd_t_711 (by decide +kernel) rfl) ?_
  refine hAllOk.c 29 (ok_no) ?_
  refine hAllOk.c 30 (ok_no) ?_
  refine hAllOk.c 31 (ok_callV (idx := 90) ⟨wd_t_771, wd_t_7, by decide +kernel, by decide +kernel⟩ rfl rfl wd_t_768 wd_t_770 wd_s_68 (by decide +kernel) rfl) ?_
  refine hAllOk.c 32 (ok_no) ?_
  refine hAllOk.c 33 (ok_no) ?_
  refine hAllOk.c 34 (ok_istore_n (f := 2) rfl (by decide) (by decide +kernel) rfl) ?_
  refine hAllOk.c 35 (ok_iconst (n := 0) (by decide +kernel) (by decide +kernel) rfl) ?_
  refine hAllOk.c 36 (ok_istore_n (f := 3) rfl (by decide) (by decide +kernel) rfl) ?_
  refine hAllOk.c 37 (ok_iconst (n := 0) (by decide +kernel) (by decide +kernel) rfl) ?_
  refine hAllOk.c 38 (ok_istore (by decide) (by decide +kernel) rfl) ?_
  refine hAllOk.c 39 (ok_no) ?_
  refine hAllOk.c 40 (ok_iconst (n := 0) (by decide +kernel) (by decide +kernel) rfl) ?_
  refine hAllOk.c 41 (ok_istore (by decide) (by decide +kernel) rfl) ?_
  refine hAllOk.c 42 (ok_no) ?_
  refine hAllOk.c 43 (ok_iload (by decide +kernel) rfl) ?_
  refine hAllOk.c 44 (ok_no) ?_
  refine hAllOk.c 45 (ok_aload_n (f := 0) rfl (by decide +kernel) rfl) ?_
  refine hAllOk.c 46 (ok_getfield (idx := 7) (N := 16) (T := TX6) rfl inTb6 (by decide) rfl wd_t_602 (by decide +kernel) rfl) ?_
  refine hAllOk.c 47 (ok_no) ?_
  refine hAllOk.c 48 (ok_no) ?_
  refine hAllOk.c 49 (ok_iconst (n := 0) (by decide +kernel) (by decide +kernel) rfl) ?_
  refine hAllOk.c 50 (ok_iaload (by decide +kernel) rfl) ?_
  refine hAllOk.c 51 (ok_icge (off := 79) (by decide +kernel) (by decide +kernel) rfl) ?_
  refine hAllOk.c 52 (ok_no) ?_
  refine hAllOk.c 53 (ok_no) ?_
  refine hAllOk.c 54 (ok_iload_n (f := 1) rfl (by decide +kernel) rfl) ?_
  refine hAllOk.c 55 (ok_iload (by decide +kernel) rfl) ?_
  refine hAllOk.c 56 (ok_no) ?_
  refine hAllOk.c 57 (ok_callS (idx := 81) ⟨wd_t_715, wd_t_7, by decide +kernel, by decide +kernel⟩ wd_t_713 wd_t_714 (by decide +kernel) rfl) ?_
  refine hAllOk.c 58 (ok_no) ?_
  refine hAllOk.c 59 (ok_no) ?_
  refine hAllOk.c 60 (ok_ifeq (off := 64) (by decide +kernel) (by decide +kernel) rfl) ?_
  refine hAllOk.c 61 (ok_no) ?_
  refine hAllOk.c 62 (ok_no) ?_
  refine hAllOk.c 63 (ok_iload_n (f := 2) rfl (by decide +kernel) rfl) ?_
  refine hAllOk.c 64 (ok_aload_n (f := 0) rfl (by decide +kernel) rfl) ?_
  refine hAllOk.c 65 (ok_iload (by decide +kernel) rfl) ?_
  refine hAllOk.c 66 (ok_no) ?_
  refine hAllOk.c 67 (ok_iconst (n := 3) (by decide +kernel) (by decide +kernel) rfl) ?_
  refine hAllOk.c 68 (ok_callV (idx := 84) ⟨wd_t_743, wd_t_7, by decide +kernel, by decide +kernel⟩ rfl rfl wd_t_740 wd_t_742 wd_s_64 (by decide +kernel) rfl) ?_
  refine hAllOk.c 69 (ok_no) ?_
  refine hAllOk.c 70 (ok_no) ?_
  refine hAllOk.c 71 (ok_iadd (by decide +kernel) rfl) ?_
  refine hAllOk.c 72 (ok_istore (by decide) (by decide +kernel) rfl) ?_
  refine hAllOk.c 73 (ok_no) ?_
  refine hAllOk.c 74 (ok_aload_n (f := 0) rfl (by decide +kernel) rfl) ?_
  refine hAllOk.c 75 (ok_getfield (idx := 7) (N := 16) (T := TX6) rfl inTb6 (by decide) rfl wd_t_602 (by decide +kernel) rfl) ?_
  refine hAllOk.c 76 (ok_no) ?_
  refine hAllOk.c 77 (ok_no) ?_
  refine hAllOk.c 78 (ok_iload (by decide +kernel) rfl) ?_
  refine hAllOk.c 79 (ok_no) ?_
  refine hAllOk.c 80 (ok_iconst (n := 5) (by decide +kernel) (by decide +kernel) rfl) ?_
  refine hAllOk.c 81 (ok_callS (idx := 50) ⟨wd_t_669, wd_t_7, by decide +kernel, by decide +kernel⟩ wd_t_667 wd_t_668 (by decide +kernel) rfl) ?_
  refine hAllOk.c 82 (ok_no) ?_
  refine hAllOk.c 83 (ok_no) ?_
  refine hAllOk.c 84 (ok_dup2 (by decide +kernel) rfl) ?_
  refine hAllOk.c 85 (ok_iaload (by decide +kernel) rfl) ?_
  refine hAllOk.c 86 (ok_iload (by decide +kernel) rfl) ?_
  refine hAllOk.c 87 (ok_no) ?_
  refine hAllOk.c 88 (ok_iadd (by decide +kernel) rfl) ?_
  refine hAllOk.c 89 (ok_iastore (by decide +kernel) rfl) ?_
  refine hAllOk.c 90 (ok_aload_n (f := 0) rfl (by decide +kernel) rfl) ?_
  refine hAllOk.c 91 (ok_getfield (idx := 7) (N := 16) (T := TX6) rfl inTb6 (by decide) rfl wd_t_602 (by decide +kernel) rfl) ?_
  refine hAllOk.c 92 (ok_no) ?_
  refine hAllOk.c 93 (ok_no) ?_
  refine hAllOk.c 94 (ok_iload (by decide +kernel) rfl) ?_
  refine hAllOk.c 95 (ok_no) ?_
  refine hAllOk.c 96 (ok_iconst (n := 3) (by decide +kernel) (by decide +kernel) rfl) ?_
  refine hAllOk.c 97 (ok_callS (idx := 50) ⟨wd_t_669, wd_t_7, by decide +kernel, by decide +kernel⟩ wd_t_667 wd_t_668 (by decide +kernel) rfl) ?_
  refine hAllOk.c 98 (ok_no) ?_
  refine hAllOk.c 99 (ok_no) ?_
  refine hAllOk.c 100 (ok_iconst (n := 0) (by decide +kernel) (by decide +kernel) rfl) ?_
  refine hAllOk.c 101 (ok_iastore (by decide +kernel) rfl) ?_
  refine hAllOk.c 102 (ok_aload_n (f := 0) rfl (by decide +kernel) rfl) ?_
  refine hAllOk.c 103 (ok_getfield (idx := 7) (N := 16) (T := TX6) rfl inTb6 (by decide) rfl wd_t_602 (by decide +kernel) rfl) ?_
  refine hAllOk.c 104 (ok_no) ?_
  refine hAllOk.c 105 (ok_no) ?_
  refine hAllOk.c 106 (ok_iload (by decide +kernel) rfl) ?_
  refine hAllOk.c 107 (ok_no) ?_
  refine hAllOk.c 108 (ok_bipush (n := 7) (by decide +kernel) (by decide +kernel) rfl) ?_
  refine hAllOk.c 109 (ok_no) ?_
  refine hAllOk.c 110 (ok_callS (idx := 50) ⟨wd_t_669, wd_t_7, by decide +kernel, by decide +kernel⟩ wd_t_667 wd_t_668 (by decide +kernel) rfl) ?_
  refine hAllOk.c 111 (ok_no) ?_
  refine hAllOk.c 112 (ok_no) ?_
  refine hAllOk.c 113 (ok_iload (by decide +kernel) rfl) ?_
  refine hAllOk.c 114 (ok_no) ?_
  refine hAllOk.c 115 (ok_iastore (by decide +kernel) rfl) ?_
  refine hAllOk.c 116 (ok_iinc (n := 1) (by decide +kernel) (by decide) (by decide +kernel) rfl) ?_
  refine hAllOk.c 117 (ok_no) ?_
  refine hAllOk.c 118 (ok_no) ?_
  refine hAllOk.c 119 (ok_iload_n (f := 3) rfl (by decide +kernel) rfl) ?_
  refine hAllOk.c 120 (ok_iload (by decide +kernel) rfl) ?_
  refine hAllOk.c 121 (ok_no) ?_
  refine hAllOk.c 122 (ok_iadd (by decide +kernel) rfl) ?_
  refine hAllOk.c 123 (ok_istore_n (f := 3) rfl (by decide) (by decide +kernel) rfl) ?_
  refine hAllOk.c 124 (ok_iinc (n := 1) (by decide +kernel) (by decide) (by decide +kernel) rfl) ?_
  refine hAllOk.c 125 (ok_no) ?_
  refine hAllOk.c 126 (ok_no) ?_
  refine hAllOk.c 127 (ok_goto (off := (-84)) (by decide +kernel) (by decide +kernel)) ?_
  refine hAllOk.c 128 (ok_no) ?_
  refine hAllOk.c 129 (ok_no) ?_
  refine hAllOk.c 130 (ok_aload_n (f := 0) rfl (by decide +kernel) rfl) ?_
  refine hAllOk.c 131 (ok_getfield (idx := 7) (N := 16) (T := TX6) rfl inTb6 (by decide) rfl wd_t_602 (by decide +kernel) rfl) ?_
  refine hAllOk.c 132 (ok_no) ?_
  refine hAllOk.c 133 (ok_no) ?_
  refine hAllOk.c 134 (ok_bipush (n := 7) (by decide +kernel) (by decide +kernel) rfl) ?_
  refine hAllOk.c 135 (ok_no) ?_
  refine hAllOk.c 136 (ok_iconst (n := 1) (by decide +kernel) (by decide +kernel) rfl) ?_
  refine hAllOk.c 137 (ok_iastore (by decide +kernel) rfl) ?_
  refine hAllOk.c 138 (ok_aload_n (f := 0) rfl (by decide +kernel) rfl) ?_
  refine hAllOk.c 139 (ok_getfield (idx := 7) (N := 16) (T := TX6) rfl inTb6 (by decide) rfl wd_t_602 (by decide +kernel) rfl) ?_
  refine hAllOk.c 140 (ok_no) ?_
  refine hAllOk.c 141 (ok_no) ?_
  refine hAllOk.c 142 (ok_bipush (n := 8) (by decide +kernel) (by decide +kernel) rfl) ?_
  refine hAllOk.c 143 (ok_no) ?_
  refine hAllOk.c 144 (ok_iload_n (f := 1) rfl (by decide +kernel) rfl) ?_
  refine hAllOk.c 145 (ok_iastore (by decide +kernel) rfl) ?_
  refine hAllOk.c 146 (ok_aload_n (f := 0) rfl (by decide +kernel) rfl) ?_
  refine hAllOk.c 147 (ok_getfield (idx := 7) (N := 16) (T := TX6) rfl inTb6 (by decide) rfl wd_t_602 (by decide +kernel) rfl) ?_
  refine hAllOk.c 148 (ok_no) ?_
  refine hAllOk.c 149 (ok_no) ?_
  refine hAllOk.c 150 (ok_bipush (n := 9) (by decide +kernel) (by decide +kernel) rfl) ?_
  refine hAllOk.c 151 (ok_no) ?_
  refine hAllOk.c 152 (ok_iload_n (f := 2) rfl (by decide +kernel) rfl) ?_
  refine hAllOk.c 153 (ok_iastore (by decide +kernel) rfl) ?_
  refine hAllOk.c 154 (ok_aload_n (f := 0) rfl (by decide +kernel) rfl) ?_
  refine hAllOk.c 155 (ok_getfield (idx := 7) (N := 16) (T := TX6) rfl inTb6 (by decide) rfl wd_t_602 (by decide +kernel) rfl) ?_
  refine hAllOk.c 156 (ok_no) ?_
  refine hAllOk.c 157 (ok_no) ?_
  refine hAllOk.c 158 (ok_bipush (n := 10) (by decide +kernel) (by decide +kernel) rfl) ?_
  refine hAllOk.c 159 (ok_no) ?_
  refine hAllOk.c 160 (ok_dup2 (by decide +kernel) rfl) ?_
  refine hAllOk.c 161 (ok_iaload (by decide +kernel) rfl) ?_
  refine hAllOk.c 162 (ok_iload_n (f := 3) rfl (by decide +kernel) rfl) ?_
  refine hAllOk.c 163 (ok_iadd (by decide +kernel) rfl) ?_
  refine hAllOk.c 164 (ok_iastore (by decide +kernel) rfl) ?_
  refine hAllOk.c 165 (ok_aload_n (f := 0) rfl (by decide +kernel) rfl) ?_
  refine hAllOk.c 166 (ok_getfield (idx := 7) (N := 16) (T := TX6) rfl inTb6 (by decide) rfl wd_t_602 (by decide +kernel) rfl) ?_
  refine hAllOk.c 167 (ok_no) ?_
  refine hAllOk.c 168 (ok_no) ?_
  refine hAllOk.c 169 (ok_bipush (n := 12) (by decide +kernel) (by decide +kernel) rfl) ?_
  refine hAllOk.c 170 (ok_no) ?_
  refine hAllOk.c 171 (ok_dup2 (by decide +kernel) rfl) ?_
  refine hAllOk.c 172 (ok_iaload (by decide +kernel) rfl) ?_
  refine hAllOk.c 173 (ok_iconst (n := 1) (by decide +kernel) (by decide +kernel) rfl) ?_
  refine hAllOk.c 174 (ok_iadd (by decide +kernel) rfl) ?_
  refine hAllOk.c 175 (ok_iastore (by decide +kernel) rfl) ?_
  refine hAllOk.c 176 (ok_iload_n (f := 3) rfl (by decide +kernel) rfl) ?_
  refine hAllOk.c 177 (ok_ireturn (by decide +kernel)) ?_
  trivial
def M_Mo_cancel : hM := (yX6_cancel, prog_8_method_37_code, 6, (some .int), 2, 43)
def code_Mo_cancel (K : hK) (B : Nat × Nat) (Q : hPost) : List hSem := [x_aload 1 0, x_iload 2 1, x_callV K 5 M_Mo_isGuest 6 1, x_no, x_no, x_ifne 10 8, x_no, x_no, x_const 9 (-1), x_ireturn (some .int) Q, x_aload 11 0, x_callV K 14 M_Mo_isFixed 6 0, x_no, x_no, x_ifeq 31 17, x_no, x_no, x_aload 18 0, x_getfield 21 6 0, x_no, x_no, x_const 23 (8), x_no, x_iaload K 24, x_iload 25 1, x_callS K 28 M_Mo_has 2, x_no, x_no, x_ifne 34 31, x_no, x_no, x_const 33 (-4), x_no, x_ireturn (some .int) Q, x_aload 35 0, x_callV K 38 M_Mo_record 6 0, x_no, x_no, x_aload 39 0, x_getfield 42 6 0, x_no, x_no, x_const 44 (8), x_no, x_iaload K 45, x_callS K 48 M_Mo_ones 1, x_no, x_no, x_istore 49 2, x_aload 50 0, x_getfield 53 6 0, x_no, x_no, x_const 55 (9), x_no, x_iaload K 56, x_const 57 (2), x_idiv 58, x_istore 59 3, x_aload 60 0, x_getfield 63 6 0, x_no, x_no, x_const 65 (8), x_no, x_dup2 66, x_iaload K 67, x_const 68 (1), x_iload 69 1, x_ishl 70, x_const 71 (-1), x_ixor 72, x_iand 73, x_iastore K 74, x_aload 75 0, x_getfield 78 6 0, x_no, x_no, x_iload 79 1, x_const 81 (7), x_no, x_callS K 84 M_Mo_at 2, x_no, x_no, x_const 86 (-5), x_no, x_iastore K 87, x_const 88 (1), x_istore 90 4, x_no, x_iload 92 4, x_no, x_ifeq 296 95, x_no, x_no, x_const 96 (0), x_istore 98 4, x_no, x_const 99 (0), x_istore 101 5, x_no, x_iload 103 5, x_no, x_aload 104 0, x_getfield 107 6 0, x_no, x_no, x_const 108 (0), x_iaload K 109, x_icge 162 112, x_no, x_no, x_iload 114 4, x_no, x_aload 115 0, x_getfield 118 6 0, x_no, x_no, x_const 120 (8), x_no, x_iaload K 121, x_iload 123 5, x_no, x_callS K 126 M_Mo_has 2, x_no, x_no, x_ifeq 152 129, x_no, x_no, x_aload 130 0, x_iload 132 5, x_no, x_aload 133 0, x_getfield 136 6 0, x_no, x_no, x_const 138 (8), x_no, x_iaload K 139, x_callV K 142 M_Mo_isMet 6 2, x_no, x_no, x_ifne 152 145, x_no, x_no, x_const 146 (1), x_iload 148 5, x_no, x_ishl 149, x_goto 153, x_no, x_no, x_const 153 (0), x_ior 154, x_istore 156 4, x_no, x_iinc 159 5 (1), x_no, x_no, x_goto 101, x_no, x_no, x_const 163 (0), x_istore 165 5, x_no, x_iload 167 5, x_no, x_aload 168 0, x_getfield 171 6 0, x_no, x_no, x_const 172 (0), x_iaload K 173, x_icge 247 176, x_no, x_no, x_aload 177 0, x_getfield 180 6 0, x_no, x_no, x_iload 182 5, x_no, x_const 184 (6), x_no, x_callS K 187 M_Mo_at 2, x_no, x_no, x_dup2 188, x_iaload K 189, x_iload 191 4, x_no, x_iload 193 5, x_no, x_callS K 196 M_Mo_has 2, x_no, x_no, x_ifeq 203 199, x_no, x_no, x_iload 200 3, x_goto 204, x_no, x_no, x_const 204 (0), x_iadd 205, x_iastore K 206, x_aload 207 0, x_getfield 210 6 0, x_no, x_no, x_iload 212 5, x_no, x_const 214 (7), x_no, x_callS K 217 M_Mo_at 2, x_no, x_no, x_iload 219 4, x_no, x_iload 221 5, x_no, x_callS K 224 M_Mo_has 2, x_no, x_no, x_ifeq 232 227, x_no, x_no, x_const 229 (-5), x_no, x_goto 240, x_no, x_no, x_aload 233 0, x_iload 235 5, x_no, x_const 237 (7), x_no, x_callV K 240 M_Mo_of 6 2, x_no, x_no, x_iastore K 241, x_iinc 244 5 (1), x_no, x_no, x_goto 165, x_no, x_no, x_aload 248 0, x_getfield 251 6 0, x_no, x_no, x_const 253 (8), x_no, x_dup2 254, x_iaload K 255, x_iload 257 4, x_no, x_const 258 (-1), x_ixor 259, x_iand 260, x_iastore K 261, x_aload 262 0, x_getfield 265 6 0, x_no, x_no, x_const 267 (11), x_no, x_dup2 268, x_iaload K 269, x_iload 270 3, x_iload 272 4, x_no, x_callS K 275 M_Mo_ones 1, x_no, x_no, x_imul 276, x_iadd 277, x_iastore K 278, x_aload 279 0, x_getfield 282 6 0, x_no, x_no, x_const 284 (14), x_no, x_dup2 285, x_iaload K 286, x_iload 288 4, x_no, x_callS K 291 M_Mo_ones 1, x_no, x_no, x_iadd 292, x_iastore K 293, x_goto 90, x_no, x_no, x_aload 297 0, x_getfield 300 6 0, x_no, x_no, x_const 302 (13), x_no, x_dup2 303, x_iaload K 304, x_const 305 (1), x_iadd 306, x_iastore K 307, x_iload 308 2, x_aload 309 0, x_getfield 312 6 0, x_no, x_no, x_const 314 (8), x_no, x_iaload K 315, x_callS K 318 M_Mo_ones 1, x_no, x_no, x_isub 319, x_ireturn (some .int) Q]
set_option maxRecDepth 100000 in
set_option maxHeartbeats 4000000 in
theorem okc_Mo_cancel (K : hK) (B : Nat × Nat) (Q : hPost) : hAllOk (hJ K M_Mo_cancel B Q) 0 (code_Mo_cancel K B Q) := by
  refine hAllOk.c 0 (ok_aload_n (f := 0) rfl (by decide +kernel) rfl) ?_
  refine hAllOk.c 1 (ok_iload_n (f := 1) rfl (by decide +kernel) rfl) ?_
  refine hAllOk.c 2 (ok_callV (idx := 123) ⟨wd_t_681, wd_t_7, by decide +kernel, by decide +kernel⟩ rfl rfl wd_t_678 wd_t_680 wd_s_53 (by decide +kernel) rfl) ?_
  refine hAllOk.c 3 (ok_no) ?_
  refine hAllOk.c 4 (ok_no) ?_
  refine hAllOk.c 5 (ok_ifne (off := 5) (by decide +kernel) (by decide +kernel) rfl) ?_
  refine hAllOk.c 6 (ok_no) ?_
  refine hAllOk.c 7 (ok_no) ?_
  refine hAllOk.c 8 (ok_iconst (n := -1) (by decide +kernel) (by decide +kernel) rfl) ?_
  refine hAllOk.c 9 (ok_ireturn (by decide +kernel)) ?_
  refine hAllOk.c 10 (ok_aload_n (f := 0) rfl (by decide +kernel) rfl) ?_
  refine hAllOk.c 11 (ok_callV (idx := 113) ⟨wd_t_662, wd_t_7, by decide +kernel, by decide +kernel⟩ rfl rfl wd_t_659 wd_t_661 wd_s_50 (by decide +kernel) rfl) ?_
  refine hAllOk.c 12 (ok_no) ?_
  refine hAllOk.c 13 (ok_no) ?_
  refine hAllOk.c 14 (ok_ifeq (off := 17) (by decide +kernel) (by decide +kernel) rfl) ?_
  refine hAllOk.c 15 (ok_no) ?_
  refine hAllOk.c 16 (ok_no) ?_
  refine hAllOk.c 17 (ok_aload_n (f := 0) rfl (by decide +kernel) rfl) ?_
  refine hAllOk.c 18 (ok_getfield (idx := 7) (N := 16) (T := TX6) rfl inTb6 (by decide) rfl wd_t_602 (by decide +kernel) rfl) ?_
  refine hAllOk.c 19 (ok_no) ?_
  refine hAllOk.c 20 (ok_no) ?_
  refine hAllOk.c 21 (ok_bipush (n := 8) (by decide +kernel) (by decide +kernel) rfl) ?_
  refine hAllOk.c 22 (ok_no) ?_
  refine hAllOk.c 23 (ok_iaload (by decide +kernel) rfl) ?_
  refine hAllOk.c 24 (ok_iload_n (f := 1) rfl (by decide +kernel) rfl) ?_
  refine hAllOk.c 25 (ok_callS (idx := 81) ⟨wd_t_715, wd_t_7, by decide +kernel, by decide +kernel⟩ wd_t_713 wd_t_714 (by decide +kernel) rfl) ?_
  refine hAllOk.c 26 (ok_no) ?_
  refine hAllOk.c 27 (ok_no) ?_
  refine hAllOk.c 28 (ok_ifne (off := 6) (by decide +kernel) (by decide +kernel) rfl) ?_
  refine hAllOk.c 29 (ok_no) ?_
  refine hAllOk.c 30 (ok_no) ?_
  refine hAllOk.c 31 (ok_bipush (n := -4) (by decide +kernel) (by decide +kernel) rfl) ?_
  refine hAllOk.c 32 (ok_no) ?_
  refine hAllOk.c 33 (ok_ireturn (by decide +kernel)) ?_
  refine hAllOk.c 34 (ok_aload_n (f := 0) rfl (by decide +kernel) rfl) ?_
  refine hAllOk.c 35 (ok_callV (idx := 116) ⟨wd_t_666, wd_t_7, by decide +kernel, by decide +kernel⟩ rfl rfl wd_t_663 wd_t_665 wd_s_51 (by decide +kernel) rfl) ?_
  refine hAllOk.c 36 (ok_no) ?_
  refine hAllOk.c 37 (ok_no) ?_
  refine hAllOk.c 38 (ok_aload_n (f := 0) rfl (by decide +kernel) rfl) ?_
  refine hAllOk.c 39 (ok_getfield (idx := 7) (N := 16) (T := TX6) rfl inTb6 (by decide) rfl wd_t_602 (by decide +kernel) rfl) ?_
  refine hAllOk.c 40 (ok_no) ?_
  refine hAllOk.c 41 (ok_no) ?_
  refine hAllOk.c 42 (ok_bipush (n := 8) (by decide +kernel) (by decide +kernel) rfl) ?_
  refine hAllOk.c 43 (ok_no) ?_
  refine hAllOk.c 44 (ok_iaload (by decide +kernel) rfl) ?_
  refine hAllOk.c 45 (ok_callS (idx := 78) ⟨wd_t_712, wd_t_7, by decide +kernel, by decide +kernel⟩ wd_t_710 wd_t_711 (by decide +kernel) rfl) ?_
  refine hAllOk.c 46 (ok_no) ?_
  refine hAllOk.c 47 (ok_no) ?_
  refine hAllOk.c 48 (ok_istore_n (f := 2) rfl (by decide) (by decide +kernel) rfl) ?_
  refine hAllOk.c 49 (ok_aload_n (f := 0) rfl (by decide +kernel) rfl) ?_
  refine hAllOk.c 50 (ok_getfield (idx := 7) (N := 16) (T := TX6) rfl inTb6 (by decide) rfl wd_t_602 (by decide +kernel) rfl) ?_
  refine hAllOk.c 51 (ok_no) ?_
  refine hAllOk.c 52 (ok_no) ?_
  refine hAllOk.c 53 (ok_bipush (n := 9) (by decide +kernel) (by decide +kernel) rfl) ?_
  refine hAllOk.c 54 (ok_no) ?_
  refine hAllOk.c 55 (ok_iaload (by decide +kernel) rfl) ?_
  refine hAllOk.c 56 (ok_iconst (n := 2) (by decide +kernel) (by decide +kernel) rfl) ?_
  refine hAllOk.c 57 (ok_idiv (by decide +kernel) rfl) ?_
  refine hAllOk.c 58 (ok_istore_n (f := 3) rfl (by decide) (by decide +kernel) rfl) ?_
  refine hAllOk.c 59 (ok_aload_n (f := 0) rfl (by decide +kernel) rfl) ?_
  refine hAllOk.c 60 (ok_getfield (idx := 7) (N := 16) (T := TX6) rfl inTb6 (by decide) rfl wd_t_602 (by decide +kernel) rfl) ?_
  refine hAllOk.c 61 (ok_no) ?_
  refine hAllOk.c 62 (ok_no) ?_
  refine hAllOk.c 63 (ok_bipush (n := 8) (by decide +kernel) (by decide +kernel) rfl) ?_
  refine hAllOk.c 64 (ok_no) ?_
  refine hAllOk.c 65 (ok_dup2 (by decide +kernel) rfl) ?_
  refine hAllOk.c 66 (ok_iaload (by decide +kernel) rfl) ?_
  refine hAllOk.c 67 (ok_iconst (n := 1) (by decide +kernel) (by decide +kernel) rfl) ?_
  refine hAllOk.c 68 (ok_iload_n (f := 1) rfl (by decide +kernel) rfl) ?_
  refine hAllOk.c 69 (ok_ishl (by decide +kernel) rfl) ?_
  refine hAllOk.c 70 (ok_iconst (n := -1) (by decide +kernel) (by decide +kernel) rfl) ?_
  refine hAllOk.c 71 (ok_ixor (by decide +kernel) rfl) ?_
  refine hAllOk.c 72 (ok_iand (by decide +kernel) rfl) ?_
  refine hAllOk.c 73 (ok_iastore (by decide +kernel) rfl) ?_
  refine hAllOk.c 74 (ok_aload_n (f := 0) rfl (by decide +kernel) rfl) ?_
  refine hAllOk.c 75 (ok_getfield (idx := 7) (N := 16) (T := TX6) rfl inTb6 (by decide) rfl wd_t_602 (by decide +kernel) rfl) ?_
  refine hAllOk.c 76 (ok_no) ?_
  refine hAllOk.c 77 (ok_no) ?_
  refine hAllOk.c 78 (ok_iload_n (f := 1) rfl (by decide +kernel) rfl) ?_
  refine hAllOk.c 79 (ok_bipush (n := 7) (by decide +kernel) (by decide +kernel) rfl) ?_
  refine hAllOk.c 80 (ok_no) ?_
  refine hAllOk.c 81 (ok_callS (idx := 50) ⟨wd_t_669, wd_t_7, by decide +kernel, by decide +kernel⟩ wd_t_667 wd_t_668 (by decide +kernel) rfl) ?_
  refine hAllOk.c 82 (ok_no) ?_
  refine hAllOk.c 83 (ok_no) ?_
  refine hAllOk.c 84 (ok_bipush (n := -5) (by decide +kernel) (by decide +kernel) rfl) ?_
  refine hAllOk.c 85 (ok_no) ?_
  refine hAllOk.c 86 (ok_iastore (by decide +kernel) rfl) ?_
  refine hAllOk.c 87 (ok_iconst (n := 1) (by decide +kernel) (by decide +kernel) rfl) ?_
  refine hAllOk.c 88 (ok_istore (by decide) (by decide +kernel) rfl) ?_
  refine hAllOk.c 89 (ok_no) ?_
  refine hAllOk.c 90 (ok_iload (by decide +kernel) rfl) ?_
  refine hAllOk.c 91 (ok_no) ?_
  refine hAllOk.c 92 (ok_ifeq (off := 204) (by decide +kernel) (by decide +kernel) rfl) ?_
  refine hAllOk.c 93 (ok_no) ?_
  refine hAllOk.c 94 (ok_no) ?_
  refine hAllOk.c 95 (ok_iconst (n := 0) (by decide +kernel) (by decide +kernel) rfl) ?_
  refine hAllOk.c 96 (ok_istore (by decide) (by decide +kernel) rfl) ?_
  refine hAllOk.c 97 (ok_no) ?_
  refine hAllOk.c 98 (ok_iconst (n := 0) (by decide +kernel) (by decide +kernel) rfl) ?_
  refine hAllOk.c 99 (ok_istore (by decide) (by decide +kernel) rfl) ?_
  refine hAllOk.c 100 (ok_no) ?_
  refine hAllOk.c 101 (ok_iload (by decide +kernel) rfl) ?_
  refine hAllOk.c 102 (ok_no) ?_
  refine hAllOk.c 103 (ok_aload_n (f := 0) rfl (by decide +kernel) rfl) ?_
  refine hAllOk.c 104 (ok_getfield (idx := 7) (N := 16) (T := TX6) rfl inTb6 (by decide) rfl wd_t_602 (by decide +kernel) rfl) ?_
  refine hAllOk.c 105 (ok_no) ?_
  refine hAllOk.c 106 (ok_no) ?_
  refine hAllOk.c 107 (ok_iconst (n := 0) (by decide +kernel) (by decide +kernel) rfl) ?_
  refine hAllOk.c 108 (ok_iaload (by decide +kernel) rfl) ?_
  refine hAllOk.c 109 (ok_icge (off := 53) (by decide +kernel) (by decide +kernel) rfl) ?_
  refine hAllOk.c 110 (ok_no) ?_
  refine hAllOk.c 111 (ok_no) ?_
  refine hAllOk.c 112 (ok_iload (by decide +kernel) rfl) ?_
  refine hAllOk.c 113 (ok_no) ?_
  refine hAllOk.c 114 (ok_aload_n (f := 0) rfl (by decide +kernel) rfl) ?_
  refine hAllOk.c 115 (ok_getfield (idx := 7) (N := 16) (T := TX6) rfl inTb6 (by decide) rfl wd_t_602 (by decide +kernel) rfl) ?_
  refine hAllOk.c 116 (ok_no) ?_
  refine hAllOk.c 117 (ok_no) ?_
  refine hAllOk.c 118 (ok_bipush (n := 8) (by decide +kernel) (by decide +kernel) rfl) ?_
  refine hAllOk.c 119 (ok_no) ?_
  refine hAllOk.c 120 (ok_iaload (by decide +kernel) rfl) ?_
  refine hAllOk.c 121 (ok_iload (by decide +kernel) rfl) ?_
  refine hAllOk.c 122 (ok_no) ?_
  refine hAllOk.c 123 (ok_callS (idx := 81) ⟨wd_t_715, wd_t_7, by decide +kernel, by decide +kernel⟩ wd_t_713 wd_t_714 (by decide +kernel) rfl) ?_
  refine hAllOk.c 124 (ok_no) ?_
  refine hAllOk.c 125 (ok_no) ?_
  refine hAllOk.c 126 (ok_ifeq (off := 26) (by decide +kernel) (by decide +kernel) rfl) ?_
  refine hAllOk.c 127 (ok_no) ?_
  refine hAllOk.c 128 (ok_no) ?_
  refine hAllOk.c 129 (ok_aload_n (f := 0) rfl (by decide +kernel) rfl) ?_
  refine hAllOk.c 130 (ok_iload (by decide +kernel) rfl) ?_
  refine hAllOk.c 131 (ok_no) ?_
  refine hAllOk.c 132 (ok_aload_n (f := 0) rfl (by decide +kernel) rfl) ?_
  refine hAllOk.c 133 (ok_getfield (idx := 7) (N := 16) (T := TX6) rfl inTb6 (by decide) rfl wd_t_602 (by decide +kernel) rfl) ?_
  refine hAllOk.c 134 (ok_no) ?_
  refine hAllOk.c 135 (ok_no) ?_
  refine hAllOk.c 136 (ok_bipush (n := 8) (by decide +kernel) (by decide +kernel) rfl) ?_
  refine hAllOk.c 137 (ok_no) ?_
  refine hAllOk.c 138 (ok_iaload (by decide +kernel) rfl) ?_
  refine hAllOk.c 139 (ok_callV (idx := 87) ⟨wd_t_767, wd_t_7, by decide +kernel, by decide +kernel⟩ rfl rfl wd_t_764 wd_t_766 wd_s_67 (by decide +kernel) rfl) ?_
  refine hAllOk.c 140 (ok_no) ?_
  refine hAllOk.c 141 (ok_no) ?_
  refine hAllOk.c 142 (ok_ifne (off := 10) (by decide +kernel) (by decide +kernel) rfl) ?_
  refine hAllOk.c 143 (ok_no) ?_
  refine hAllOk.c 144 (ok_no) ?_
  refine hAllOk.c 145 (ok_iconst (n := 1) (by decide +kernel) (by decide +kernel) rfl) ?_
  refine hAllOk.c 146 (ok_iload (by decide +kernel) rfl) ?_
  refine hAllOk.c 147 (ok_no) ?_
  refine hAllOk.c 148 (ok_ishl (by decide +kernel) rfl) ?_
  refine hAllOk.c 149 (ok_goto (off := 4) (by decide +kernel) (by decide +kernel)) ?_
  refine hAllOk.c 150 (ok_no) ?_
  refine hAllOk.c 151 (ok_no) ?_
  refine hAllOk.c 152 (ok_iconst (n := 0) (by decide +kernel) (by decide +kernel) rfl) ?_
  refine hAllOk.c 153 (ok_ior (by decide +kernel) rfl) ?_
  refine hAllOk.c 154 (ok_istore (by decide) (by decide +kernel) rfl) ?_
  refine hAllOk.c 155 (ok_no) ?_
  refine hAllOk.c 156 (ok_iinc (n := 1) (by decide +kernel) (by decide) (by decide +kernel) rfl) ?_
  refine hAllOk.c 157 (ok_no) ?_
  refine hAllOk.c 158 (ok_no) ?_
  refine hAllOk.c 159 (ok_goto (off := (-58)) (by decide +kernel) (by decide +kernel)) ?_
  refine hAllOk.c 160 (ok_no) ?_
  refine hAllOk.c 161 (ok_no) ?_
  refine hAllOk.c 162 (ok_iconst (n := 0) (by decide +kernel) (by decide +kernel) rfl) ?_
  refine hAllOk.c 163 (ok_istore (by decide) (by decide +kernel) rfl) ?_
  refine hAllOk.c 164 (ok_no) ?_
  refine hAllOk.c 165 (ok_iload (by decide +kernel) rfl) ?_
  refine hAllOk.c 166 (ok_no) ?_
  refine hAllOk.c 167 (ok_aload_n (f := 0) rfl (by decide +kernel) rfl) ?_
  refine hAllOk.c 168 (ok_getfield (idx := 7) (N := 16) (T := TX6) rfl inTb6 (by decide) rfl wd_t_602 (by decide +kernel) rfl) ?_
  refine hAllOk.c 169 (ok_no) ?_
  refine hAllOk.c 170 (ok_no) ?_
  refine hAllOk.c 171 (ok_iconst (n := 0) (by decide +kernel) (by decide +kernel) rfl) ?_
  refine hAllOk.c 172 (ok_iaload (by decide +kernel) rfl) ?_
  refine hAllOk.c 173 (ok_icge (off := 74) (by decide +kernel) (by decide +kernel) rfl) ?_
  refine hAllOk.c 174 (ok_no) ?_
  refine hAllOk.c 175 (ok_no) ?_
  refine hAllOk.c 176 (ok_aload_n (f := 0) rfl (by decide +kernel) rfl) ?_
  refine hAllOk.c 177 (ok_getfield (idx := 7) (N := 16) (T := TX6) rfl inTb6 (by decide) rfl wd_t_602 (by decide +kernel) rfl) ?_
  refine hAllOk.c 178 (ok_no) ?_
  refine hAllOk.c 179 (ok_no) ?_
  refine hAllOk.c 180 (ok_iload (by decide +kernel) rfl) ?_
  refine hAllOk.c 181 (ok_no) ?_
  refine hAllOk.c 182 (ok_bipush (n := 6) (by decide +kernel) (by decide +kernel) rfl) ?_
  refine hAllOk.c 183 (ok_no) ?_
  refine hAllOk.c 184 (ok_callS (idx := 50) ⟨wd_t_669, wd_t_7, by decide +kernel, by decide +kernel⟩ wd_t_667 wd_t_668 (by decide +kernel) rfl) ?_
  refine hAllOk.c 185 (ok_no) ?_
  refine hAllOk.c 186 (ok_no) ?_
  refine hAllOk.c 187 (ok_dup2 (by decide +kernel) rfl) ?_
  refine hAllOk.c 188 (ok_iaload (by decide +kernel) rfl) ?_
  refine hAllOk.c 189 (ok_iload (by decide +kernel) rfl) ?_
  refine hAllOk.c 190 (ok_no) ?_
  refine hAllOk.c 191 (ok_iload (by decide +kernel) rfl) ?_
  refine hAllOk.c 192 (ok_no) ?_
  refine hAllOk.c 193 (ok_callS (idx := 81) ⟨wd_t_715, wd_t_7, by decide +kernel, by decide +kernel⟩ wd_t_713 wd_t_714 (by decide +kernel) rfl) ?_
  refine hAllOk.c 194 (ok_no) ?_
  refine hAllOk.c 195 (ok_no) ?_
  refine hAllOk.c 196 (ok_ifeq (off := 7) (by decide +kernel) (by decide +kernel) rfl) ?_
  refine hAllOk.c 197 (ok_no) ?_
  refine hAllOk.c 198 (ok_no) ?_
  refine hAllOk.c 199 (ok_iload_n (f := 3) rfl (by decide +kernel) rfl) ?_
  refine hAllOk.c 200 (ok_goto (off := 4) (by decide +kernel) (by decide +kernel)) ?_
  refine hAllOk.c 201 (ok_no) ?_
  refine hAllOk.c 202 (ok_no) ?_
  refine hAllOk.c 203 (ok_iconst (n := 0) (by decide +kernel) (by decide +kernel) rfl) ?_
  refine hAllOk.c 204 (ok_iadd (by decide +kernel) rfl) ?_
  refine hAllOk.c 205 (ok_iastore (by decide +kernel) rfl) ?_
  refine hAllOk.c 206 (ok_aload_n (f := 0) rfl (by decide +kernel) rfl) ?_
  refine hAllOk.c 207 (ok_getfield (idx := 7) (N := 16) (T := TX6) rfl inTb6 (by decide) rfl wd_t_602 (by decide +kernel) rfl) ?_
  refine hAllOk.c 208 (ok_no) ?_
  refine hAllOk.c 209 (ok_no) ?_
  refine hAllOk.c 210 (ok_iload (by decide +kernel) rfl) ?_
  refine hAllOk.c 211 (ok_no) ?_
  refine hAllOk.c 212 (ok_bipush (n := 7) (by decide +kernel) (by decide +kernel) rfl) ?_
  refine hAllOk.c 213 (ok_no) ?_
  refine hAllOk.c 214 (ok_callS (idx := 50) ⟨wd_t_669, wd_t_7, by decide +kernel, by decide +kernel⟩ wd_t_667 wd_t_668 (by decide +kernel) rfl) ?_
  refine hAllOk.c 215 (ok_no) ?_
  refine hAllOk.c 216 (ok_no) ?_
  refine hAllOk.c 217 (ok_iload (by decide +kernel) rfl) ?_
  refine hAllOk.c 218 (ok_no) ?_
  refine hAllOk.c 219 (ok_iload (by decide +kernel) rfl) ?_
  refine hAllOk.c 220 (ok_no) ?_
  refine hAllOk.c 221 (ok_callS (idx := 81) ⟨wd_t_715, wd_t_7, by decide +kernel, by decide +kernel⟩ wd_t_713 wd_t_714 (by decide +kernel) rfl) ?_
  refine hAllOk.c 222 (ok_no) ?_
  refine hAllOk.c 223 (ok_no) ?_
  refine hAllOk.c 224 (ok_ifeq (off := 8) (by decide +kernel) (by decide +kernel) rfl) ?_
  refine hAllOk.c 225 (ok_no) ?_
  refine hAllOk.c 226 (ok_no) ?_
  refine hAllOk.c 227 (ok_bipush (n := -5) (by decide +kernel) (by decide +kernel) rfl) ?_
  refine hAllOk.c 228 (ok_no) ?_
  refine hAllOk.c 229 (ok_goto (off := 11) (by decide +kernel) (by decide +kernel)) ?_
  refine hAllOk.c 230 (ok_no) ?_
  refine hAllOk.c 231 (ok_no) ?_
  refine hAllOk.c 232 (ok_aload_n (f := 0) rfl (by decide +kernel) rfl) ?_
  refine hAllOk.c 233 (ok_iload (by decide +kernel) rfl) ?_
  refine hAllOk.c 234 (ok_no) ?_
  refine hAllOk.c 235 (ok_bipush (n := 7) (by decide +kernel) (by decide +kernel) rfl) ?_
  refine hAllOk.c 236 (ok_no) ?_
  refine hAllOk.c 237 (ok_callV (idx := 84) ⟨wd_t_743, wd_t_7, by decide +kernel, by decide +kernel⟩ rfl rfl wd_t_740 wd_t_742 wd_s_64 (by decide +kernel) rfl) ?_
  refine hAllOk.c 238 (ok_no) ?_
  refine hAllOk.c 239 (ok_no) ?_
  refine hAllOk.c 240 (ok_iastore (by decide +kernel) rfl) ?_
  refine hAllOk.c 241 (ok_iinc (n := 1) (by decide +kernel) (by decide) (by decide +kernel) rfl) ?_
  refine hAllOk.c 242 (ok_no) ?_
  refine hAllOk.c 243 (ok_no) ?_
  refine hAllOk.c 244 (ok_goto (off := (-79)) (by decide +kernel) (by decide +kernel)) ?_
  refine hAllOk.c 245 (ok_no) ?_
  refine hAllOk.c 246 (ok_no) ?_
  refine hAllOk.c 247 (ok_aload_n (f := 0) rfl (by decide +kernel) rfl) ?_
  refine hAllOk.c 248 (ok_getfield (idx := 7) (N := 16) (T := TX6) rfl inTb6 (by decide) rfl wd_t_602 (by decide +kernel) rfl) ?_
  refine hAllOk.c 249 (ok_no) ?_
  refine hAllOk.c 250 (ok_no) ?_
  refine hAllOk.c 251 (ok_bipush (n := 8) (by decide +kernel) (by decide +kernel) rfl) ?_
  refine hAllOk.c 252 (ok_no) ?_
  refine hAllOk.c 253 (ok_dup2 (by decide +kernel) rfl) ?_
  refine hAllOk.c 254 (ok_iaload (by decide +kernel) rfl) ?_
  refine hAllOk.c 255 (ok_iload (by decide +kernel) rfl) ?_
  refine hAllOk.c 256 (ok_no) ?_
  refine hAllOk.c 257 (ok_iconst (n := -1) (by decide +kernel) (by decide +kernel) rfl) ?_
  refine hAllOk.c 258 (ok_ixor (by decide +kernel) rfl) ?_
  refine hAllOk.c 259 (ok_iand (by decide +kernel) rfl) ?_
  refine hAllOk.c 260 (ok_iastore (by decide +kernel) rfl) ?_
  refine hAllOk.c 261 (ok_aload_n (f := 0) rfl (by decide +kernel) rfl) ?_
  refine hAllOk.c 262 (ok_getfield (idx := 7) (N := 16) (T := TX6) rfl inTb6 (by decide) rfl wd_t_602 (by decide +kernel) rfl) ?_
  refine hAllOk.c 263 (ok_no) ?_
  refine hAllOk.c 264 (ok_no) ?_
  refine hAllOk.c 265 (ok_bipush (n := 11) (by decide +kernel) (by decide +kernel) rfl) ?_
  refine hAllOk.c 266 (ok_no) ?_
  refine hAllOk.c 267 (ok_dup2 (by decide +kernel) rfl) ?_
  refine hAllOk.c 268 (ok_iaload (by decide +kernel) rfl) ?_
  refine hAllOk.c 269 (ok_iload_n (f := 3) rfl (by decide +kernel) rfl) ?_
  refine hAllOk.c 270 (ok_iload (by decide +kernel) rfl) ?_
  refine hAllOk.c 271 (ok_no) ?_
  refine hAllOk.c 272 (ok_callS (idx := 78) ⟨wd_t_712, wd_t_7, by decide +kernel, by decide +kernel⟩ wd_t_710 wd_t_711 (by decide +kernel) rfl) ?_
  refine hAllOk.c 273 (ok_no) ?_
  refine hAllOk.c 274 (ok_no) ?_
  refine hAllOk.c 275 (ok_imul (by decide +kernel) rfl) ?_
  refine hAllOk.c 276 (ok_iadd (by decide +kernel) rfl) ?_
  refine hAllOk.c 277 (ok_iastore (by decide +kernel) rfl) ?_
  refine hAllOk.c 278 (ok_aload_n (f := 0) rfl (by decide +kernel) rfl) ?_
  refine hAllOk.c 279 (ok_getfield (idx := 7) (N := 16) (T := TX6) rfl inTb6 (by decide) rfl wd_t_602 (by decide +kernel) rfl) ?_
  refine hAllOk.c 280 (ok_no) ?_
  refine hAllOk.c 281 (ok_no) ?_
  refine hAllOk.c 282 (ok_bipush (n := 14) (by decide +kernel) (by decide +kernel) rfl) ?_
  refine hAllOk.c 283 (ok_no) ?_
  refine hAllOk.c 284 (ok_dup2 (by decide +kernel) rfl) ?_
  refine hAllOk.c 285 (ok_iaload (by decide +kernel) rfl) ?_
  refine hAllOk.c 286 (ok_iload (by decide +kernel) rfl) ?_
  refine hAllOk.c 287 (ok_no) ?_
  refine hAllOk.c 288 (ok_callS (idx := 78) ⟨wd_t_712, wd_t_7, by decide +kernel, by decide +kernel⟩ wd_t_710 wd_t_711 (by decide +kernel) rfl) ?_
  refine hAllOk.c 289 (ok_no) ?_
  refine hAllOk.c 290 (ok_no) ?_
  refine hAllOk.c 291 (ok_iadd (by decide +kernel) rfl) ?_
  refine hAllOk.c 292 (ok_iastore (by decide +kernel) rfl) ?_
  refine hAllOk.c 293 (ok_goto (off := (-203)) (by decide +kernel) (by decide +kernel)) ?_
  refine hAllOk.c 294 (ok_no) ?_
  refine hAllOk.c 295 (ok_no) ?_
  refine hAllOk.c 296 (ok_aload_n (f := 0) rfl (by decide +kernel) rfl) ?_
  refine hAllOk.c 297 (ok_getfield (idx := 7) (N := 16) (T := TX6) rfl inTb6 (by decide) rfl wd_t_602 (by decide +kernel) rfl) ?_
  refine hAllOk.c 298 (ok_no) ?_
  refine hAllOk.c 299 (ok_no) ?_
  refine hAllOk.c 300 (ok_bipush (n := 13) (by decide +kernel) (by decide +kernel) rfl) ?_
  refine hAllOk.c 301 (ok_no) ?_
  refine hAllOk.c 302 (ok_dup2 (by decide +kernel) rfl) ?_
  refine hAllOk.c 303 (ok_iaload (by decide +kernel) rfl) ?_
  refine hAllOk.c 304 (ok_iconst (n := 1) (by decide +kernel) (by decide +kernel) rfl) ?_
  refine hAllOk.c 305 (ok_iadd (by decide +kernel) rfl) ?_
  refine hAllOk.c 306 (ok_iastore (by decide +kernel) rfl) ?_
  refine hAllOk.c 307 (ok_iload_n (f := 2) rfl (by decide +kernel) rfl) ?_
  refine hAllOk.c 308 (ok_aload_n (f := 0) rfl (by decide +kernel) rfl) ?_
  refine hAllOk.c 309 (ok_getfield (idx := 7) (N := 16) (T := TX6) rfl inTb6 (by decide) rfl wd_t_602 (by decide +kernel) rfl) ?_
  refine hAllOk.c 310 (ok_no) ?_
  refine hAllOk.c 311 (ok_no) ?_
  refine hAllOk.c 312 (ok_bipush (n := 8) (by decide +kernel) (by decide +kernel) rfl) ?_
  refine hAllOk.c 313 (ok_no) ?_
  refine hAllOk.c 314 (ok_iaload (by decide +kernel) rfl) ?_
  refine hAllOk.c 315 (ok_callS (idx := 78) ⟨wd_t_712, wd_t_7, by decide +kernel, by decide +kernel⟩ wd_t_710 wd_t_711 (by decide +kernel) rfl) ?_
  refine hAllOk.c 316 (ok_no) ?_
  refine hAllOk.c 317 (ok_no) ?_
  refine hAllOk.c 318 (ok_isub (by decide +kernel) rfl) ?_
  refine hAllOk.c 319 (ok_ireturn (by decide +kernel)) ?_
  trivial
def M_Mo_dissolve : hM := (yX6_dissolve, prog_8_method_38_code, 3, (some .int), 1, 22)
def code_Mo_dissolve (K : hK) (B : Nat × Nat) (Q : hPost) : List hSem := [x_aload 1 0, x_callV K 4 M_Mo_isFixed 6 0, x_no, x_no, x_ifne 10 7, x_no, x_no, x_const 9 (-4), x_no, x_ireturn (some .int) Q, x_aload 11 0, x_callV K 14 M_Mo_record 6 0, x_no, x_no, x_aload 15 0, x_getfield 18 6 0, x_no, x_no, x_const 20 (8), x_no, x_iaload K 21, x_callS K 24 M_Mo_ones 1, x_no, x_no, x_istore 25 1, x_aload 26 0, x_getfield 29 6 0, x_no, x_no, x_const 31 (7), x_no, x_const 32 (0), x_iastore K 33, x_aload 34 0, x_getfield 37 6 0, x_no, x_no, x_const 39 (8), x_no, x_const 40 (0), x_iastore K 41, x_const 42 (0), x_istore 43 2, x_iload 44 2, x_aload 45 0, x_getfield 48 6 0, x_no, x_no, x_const 49 (0), x_iaload K 50, x_icge 72 53, x_no, x_no, x_aload 54 0, x_getfield 57 6 0, x_no, x_no, x_iload 58 2, x_const 60 (7), x_no, x_callS K 63 M_Mo_at 2, x_no, x_no, x_const 65 (-5), x_no, x_iastore K 66, x_iinc 69 2 (1), x_no, x_no, x_goto 43, x_no, x_no, x_iload 73 1, x_ireturn (some .int) Q]
set_option maxRecDepth 100000 in
set_option maxHeartbeats 4000000 in
theorem okc_Mo_dissolve (K : hK) (B : Nat × Nat) (Q : hPost) : hAllOk (hJ K M_Mo_dissolve B Q) 0 (code_Mo_dissolve K B Q) := by
  refine hAllOk.c 0 (ok_aload_n (f := 0) rfl (by decide +kernel) rfl) ?_
  refine hAllOk.c 1 (ok_callV (idx := 113) ⟨wd_t_662, wd_t_7, by decide +kernel, by decide +kernel⟩ rfl rfl wd_t_659 wd_t_661 wd_s_50 (by decide +kernel) rfl) ?_
  refine hAllOk.c 2 (ok_no) ?_
  refine hAllOk.c 3 (ok_no) ?_
  refine hAllOk.c 4 (ok_ifne (off := 6) (by decide +kernel) (by decide +kernel) rfl) ?_
  refine hAllOk.c 5 (ok_no) ?_
  refine hAllOk.c 6 (ok_no) ?_
  refine hAllOk.c 7 (ok_bipush (n := -4) (by decide +kernel) (by decide +kernel) rfl) ?_
  refine hAllOk.c 8 (ok_no) ?_
  refine hAllOk.c 9 (ok_ireturn (by decide +kernel)) ?_
  refine hAllOk.c 10 (ok_aload_n (f := 0) rfl (by decide +kernel) rfl) ?_
  refine hAllOk.c 11 (ok_callV (idx := 116) ⟨wd_t_666, wd_t_7, by decide +kernel, by decide +kernel⟩ rfl rfl wd_t_663 wd_t_665 wd_s_51 (by decide +kernel) rfl) ?_
  refine hAllOk.c 12 (ok_no) ?_
  refine hAllOk.c 13 (ok_no) ?_
  refine hAllOk.c 14 (ok_aload_n (f := 0) rfl (by decide +kernel) rfl) ?_
  refine hAllOk.c 15 (ok_getfield (idx := 7) (N := 16) (T := TX6) rfl inTb6 (by decide) rfl wd_t_602 (by decide +kernel) rfl) ?_
  refine hAllOk.c 16 (ok_no) ?_
  refine hAllOk.c 17 (ok_no) ?_
  refine hAllOk.c 18 (ok_bipush (n := 8) (by decide +kernel) (by decide +kernel) rfl) ?_
  refine hAllOk.c 19 (ok_no) ?_
  refine hAllOk.c 20 (ok_iaload (by decide +kernel) rfl) ?_
  refine hAllOk.c 21 (ok_callS (idx := 78) ⟨wd_t_712, wd_t_7, by decide +kernel, by decide +kernel⟩ wd_t_710 wd_t_711 (by decide +kernel) rfl) ?_
  refine hAllOk.c 22 (ok_no) ?_
  refine hAllOk.c 23 (ok_no) ?_
  refine hAllOk.c 24 (ok_istore_n (f := 1) rfl (by decide) (by decide +kernel) rfl) ?_
  refine hAllOk.c 25 (ok_aload_n (f := 0) rfl (by decide +kernel) rfl) ?_
  refine hAllOk.c 26 (ok_getfield (idx := 7) (N := 16) (T := TX6) rfl inTb6 (by decide) rfl wd_t_602 (by decide +kernel) rfl) ?_
  refine hAllOk.c 27 (ok_no) ?_
  refine hAllOk.c 28 (ok_no) ?_
  refine hAllOk.c 29 (ok_bipush (n := 7) (by decide +kernel) (by decide +kernel) rfl) ?_
  refine hAllOk.c 30 (ok_no) ?_
  refine hAllOk.c 31 (ok_iconst (n := 0) (by decide +kernel) (by decide +kernel) rfl) ?_
  refine hAllOk.c 32 (ok_iastore (by decide +kernel) rfl) ?_
  refine hAllOk.c 33 (ok_aload_n (f := 0) rfl (by decide +kernel) rfl) ?_
  refine hAllOk.c 34 (ok_getfield (idx := 7) (N := 16) (T := TX6) rfl inTb6 (by decide) rfl wd_t_602 (by decide +kernel) rfl) ?_
  refine hAllOk.c 35 (ok_no) ?_
  refine hAllOk.c 36 (ok_no) ?_
  refine hAllOk.c 37 (ok_bipush (n := 8) (by decide +kernel) (by decide +kernel) rfl) ?_
  refine hAllOk.c 38 (ok_no) ?_
  refine hAllOk.c 39 (ok_iconst (n := 0) (by decide +kernel) (by decide +kernel) rfl) ?_
  refine hAllOk.c 40 (ok_iastore (by decide +kernel) rfl) ?_
  refine hAllOk.c 41 (ok_iconst (n := 0) (by decide +kernel) (by decide +kernel) rfl) ?_
  refine hAllOk.c 42 (ok_istore_n (f := 2) rfl (by decide) (by decide +kernel) rfl) ?_
  refine hAllOk.c 43 (ok_iload_n (f := 2) rfl (by decide +kernel) rfl) ?_
  refine hAllOk.c 44 (ok_aload_n (f := 0) rfl (by decide +kernel) rfl) ?_
  refine hAllOk.c 45 (ok_getfield (idx := 7) (N := 16) (T := TX6) rfl inTb6 (by decide) rfl wd_t_602 (by decide +kernel) rfl) ?_
  refine hAllOk.c 46 (ok_no) ?_
  refine hAllOk.c 47 (ok_no) ?_
  refine hAllOk.c 48 (ok_iconst (n := 0) (by decide +kernel) (by decide +kernel) rfl) ?_
  refine hAllOk.c 49 (ok_iaload (by decide +kernel) rfl) ?_
  refine hAllOk.c 50 (ok_icge (off := 22) (by decide +kernel) (by decide +kernel) rfl) ?_
  refine hAllOk.c 51 (ok_no) ?_
  refine hAllOk.c 52 (ok_no) ?_
  refine hAllOk.c 53 (ok_aload_n (f := 0) rfl (by decide +kernel) rfl) ?_
  refine hAllOk.c 54 (ok_getfield (idx := 7) (N := 16) (T := TX6) rfl inTb6 (by decide) rfl wd_t_602 (by decide +kernel) rfl) ?_
  refine hAllOk.c 55 (ok_no) ?_
  refine hAllOk.c 56 (ok_no) ?_
  refine hAllOk.c 57 (ok_iload_n (f := 2) rfl (by decide +kernel) rfl) ?_
  refine hAllOk.c 58 (ok_bipush (n := 7) (by decide +kernel) (by decide +kernel) rfl) ?_
  refine hAllOk.c 59 (ok_no) ?_
  refine hAllOk.c 60 (ok_callS (idx := 50) ⟨wd_t_669, wd_t_7, by decide +kernel, by decide +kernel⟩ wd_t_667 wd_t_668 (by decide +kernel) rfl) ?_
  refine hAllOk.c 61 (ok_no) ?_
  refine hAllOk.c 62 (ok_no) ?_
  refine hAllOk.c 63 (ok_bipush (n := -5) (by decide +kernel) (by decide +kernel) rfl) ?_
  refine hAllOk.c 64 (ok_no) ?_
  refine hAllOk.c 65 (ok_iastore (by decide +kernel) rfl) ?_
  refine hAllOk.c 66 (ok_iinc (n := 1) (by decide +kernel) (by decide) (by decide +kernel) rfl) ?_
  refine hAllOk.c 67 (ok_no) ?_
  refine hAllOk.c 68 (ok_no) ?_
  refine hAllOk.c 69 (ok_goto (off := (-26)) (by decide +kernel) (by decide +kernel)) ?_
  refine hAllOk.c 70 (ok_no) ?_
  refine hAllOk.c 71 (ok_no) ?_
  refine hAllOk.c 72 (ok_iload_n (f := 1) rfl (by decide +kernel) rfl) ?_
  refine hAllOk.c 73 (ok_ireturn (by decide +kernel)) ?_
  trivial
def M_Mo_type : hM := (yX6_type, prog_8_method_39_code, 2, (some .int), 0, 0)
def code_Mo_type (K : hK) (B : Nat × Nat) (Q : hPost) : List hSem := [x_aload 1 0, x_getfield 4 6 6, x_no, x_no, x_const 6 (60), x_no, x_icne 12 9, x_no, x_no, x_const 11 (-3), x_no, x_ireturn (some .int) Q, x_aload 13 0, x_getfield 16 6 5, x_no, x_no, x_aload 17 0, x_getfield 20 6 6, x_no, x_no, x_iload 21 1, x_iastore K 22, x_aload 23 0, x_dup 24, x_getfield 27 6 6, x_no, x_no, x_const 28 (1), x_iadd 29, x_putfield 32 6 6 (.int), x_no, x_no, x_aload 33 0, x_getfield 36 6 6, x_no, x_no, x_ireturn (some .int) Q]
set_option maxRecDepth 100000 in
set_option maxHeartbeats 4000000 in
theorem okc_Mo_type (K : hK) (B : Nat × Nat) (Q : hPost) : hAllOk (hJ K M_Mo_type B Q) 0 (code_Mo_type K B Q) := by
  refine hAllOk.c 0 (ok_aload_n (f := 0) rfl (by decide +kernel) rfl) ?_
  refine hAllOk.c 1 (ok_getfield (idx := 57) (N := 16) (T := TX6) rfl inTb6 (by decide) rfl wd_t_608 (by decide +kernel) rfl) ?_
  refine hAllOk.c 2 (ok_no) ?_
  refine hAllOk.c 3 (ok_no) ?_
  refine hAllOk.c 4 (ok_bipush (n := 60) (by decide +kernel) (by decide +kernel) rfl) ?_
  refine hAllOk.c 5 (ok_no) ?_
  refine hAllOk.c 6 (ok_icne (off := 6) (by decide +kernel) (by decide +kernel) rfl) ?_
  refine hAllOk.c 7 (ok_no) ?_
  refine hAllOk.c 8 (ok_no) ?_
  refine hAllOk.c 9 (ok_bipush (n := -3) (by decide +kernel) (by decide +kernel) rfl) ?_
  refine hAllOk.c 10 (ok_no) ?_
  refine hAllOk.c 11 (ok_ireturn (by decide +kernel)) ?_
  refine hAllOk.c 12 (ok_aload_n (f := 0) rfl (by decide +kernel) rfl) ?_
  refine hAllOk.c 13 (ok_getfield (idx := 19) (N := 16) (T := TX6) rfl inTb6 (by decide) rfl wd_t_607 (by decide +kernel) rfl) ?_
  refine hAllOk.c 14 (ok_no) ?_
  refine hAllOk.c 15 (ok_no) ?_
  refine hAllOk.c 16 (ok_aload_n (f := 0) rfl (by decide +kernel) rfl) ?_
  refine hAllOk.c 17 (ok_getfield (idx := 57) (N := 16) (T := TX6) rfl inTb6 (by decide) rfl wd_t_608 (by decide +kernel) rfl) ?_
  refine hAllOk.c 18 (ok_no) ?_
  refine hAllOk.c 19 (ok_no) ?_
  refine hAllOk.c 20 (ok_iload_n (f := 1) rfl (by decide +kernel) rfl) ?_
  refine hAllOk.c 21 (ok_iastore (by decide +kernel) rfl) ?_
  refine hAllOk.c 22 (ok_aload_n (f := 0) rfl (by decide +kernel) rfl) ?_
  refine hAllOk.c 23 (ok_dup (by decide +kernel) rfl) ?_
  refine hAllOk.c 24 (ok_getfield (idx := 57) (N := 16) (T := TX6) rfl inTb6 (by decide) rfl wd_t_608 (by decide +kernel) rfl) ?_
  refine hAllOk.c 25 (ok_no) ?_
  refine hAllOk.c 26 (ok_no) ?_
  refine hAllOk.c 27 (ok_iconst (n := 1) (by decide +kernel) (by decide +kernel) rfl) ?_
  refine hAllOk.c 28 (ok_iadd (by decide +kernel) rfl) ?_
  refine hAllOk.c 29 (ok_putfield (idx := 57) (N := 16) (T := TX6) tyX6_ok nmX6 rfl rfl inTb6 (by decide) rfl rfl wd_t_608 (by decide +kernel) rfl) ?_
  refine hAllOk.c 30 (ok_no) ?_
  refine hAllOk.c 31 (ok_no) ?_
  refine hAllOk.c 32 (ok_aload_n (f := 0) rfl (by decide +kernel) rfl) ?_
  refine hAllOk.c 33 (ok_getfield (idx := 57) (N := 16) (T := TX6) rfl inTb6 (by decide) rfl wd_t_608 (by decide +kernel) rfl) ?_
  refine hAllOk.c 34 (ok_no) ?_
  refine hAllOk.c 35 (ok_no) ?_
  refine hAllOk.c 36 (ok_ireturn (by decide +kernel)) ?_
  trivial
def M_Mo_clearText : hM := (yX6_clearText, prog_8_method_40_code, 2, (some .int), 0, 0)
def code_Mo_clearText (K : hK) (B : Nat × Nat) (Q : hPost) : List hSem := [x_aload 1 0, x_getfield 4 6 6, x_no, x_no, x_istore 5 1, x_aload 6 0, x_const 7 (0), x_putfield 10 6 6 (.int), x_no, x_no, x_iload 11 1, x_ireturn (some .int) Q]
set_option maxRecDepth 100000 in
set_option maxHeartbeats 4000000 in
theorem okc_Mo_clearText (K : hK) (B : Nat × Nat) (Q : hPost) : hAllOk (hJ K M_Mo_clearText B Q) 0 (code_Mo_clearText K B Q) := by
  refine hAllOk.c 0 (ok_aload_n (f := 0) rfl (by decide +kernel) rfl) ?_
  refine hAllOk.c 1 (ok_getfield (idx := 57) (N := 16) (T := TX6) rfl inTb6 (by decide) rfl wd_t_608 (by decide +kernel) rfl) ?_
  refine hAllOk.c 2 (ok_no) ?_
  refine hAllOk.c 3 (ok_no) ?_
  refine hAllOk.c 4 (ok_istore_n (f := 1) rfl (by decide) (by decide +kernel) rfl) ?_
  refine hAllOk.c 5 (ok_aload_n (f := 0) rfl (by decide +kernel) rfl) ?_
  refine hAllOk.c 6 (ok_iconst (n := 0) (by decide +kernel) (by decide +kernel) rfl) ?_
  refine hAllOk.c 7 (ok_putfield (idx := 57) (N := 16) (T := TX6) tyX6_ok nmX6 rfl rfl inTb6 (by decide) rfl rfl wd_t_608 (by decide +kernel) rfl) ?_
  refine hAllOk.c 8 (ok_no) ?_
  refine hAllOk.c 9 (ok_no) ?_
  refine hAllOk.c 10 (ok_iload_n (f := 1) rfl (by decide +kernel) rfl) ?_
  refine hAllOk.c 11 (ok_ireturn (by decide +kernel)) ?_
  trivial
def M_Mo_undo : hM := (yX6_undo, prog_8_method_41_code, 2, (some .int), 0, 0)
def code_Mo_undo (K : hK) (B : Nat × Nat) (Q : hPost) : List hSem := [x_aload 1 0, x_getfield 4 6 2, x_no, x_no, x_ifne 10 7, x_no, x_no, x_const 9 (-5), x_no, x_ireturn (some .int) Q, x_aload 11 0, x_dup 12, x_getfield 15 6 2, x_no, x_no, x_const 16 (1), x_isub 17, x_putfield 20 6 2 (.int), x_no, x_no, x_const 21 (0), x_istore 22 1, x_iload 23 1, x_const 26 (1647), x_no, x_no, x_icge 56 29, x_no, x_no, x_aload 30 0, x_getfield 33 6 0, x_no, x_no, x_iload 34 1, x_aload 35 0, x_getfield 38 6 1, x_no, x_no, x_const 41 (1647), x_no, x_no, x_aload 42 0, x_getfield 45 6 2, x_no, x_no, x_imul 46, x_iload 47 1, x_iadd 48, x_iaload K 49, x_iastore K 50, x_iinc 53 1 (1), x_no, x_no, x_goto 22, x_no, x_no, x_aload 57 0, x_getfield 60 6 2, x_no, x_no, x_ireturn (some .int) Q]
set_option maxRecDepth 100000 in
set_option maxHeartbeats 4000000 in
theorem okc_Mo_undo (K : hK) (B : Nat × Nat) (Q : hPost) : hAllOk (hJ K M_Mo_undo B Q) 0 (code_Mo_undo K B Q) := by
  refine hAllOk.c 0 (ok_aload_n (f := 0) rfl (by decide +kernel) rfl) ?_
  refine hAllOk.c 1 (ok_getfield (idx := 42) (N := 16) (T := TX6) rfl inTb6 (by decide) rfl wd_t_604 (by decide +kernel) rfl) ?_
  refine hAllOk.c 2 (ok_no) ?_
  refine hAllOk.c 3 (ok_no) ?_
  refine hAllOk.c 4 (ok_ifne (off := 6) (by decide +kernel) (by decide +kernel) rfl) ?_
  refine hAllOk.c 5 (ok_no) ?_
  refine hAllOk.c 6 (ok_no) ?_
  refine hAllOk.c 7 (ok_bipush (n := -5) (by decide +kernel) (by decide +kernel) rfl) ?_
  refine hAllOk.c 8 (ok_no) ?_
  refine hAllOk.c 9 (ok_ireturn (by decide +kernel)) ?_
  refine hAllOk.c 10 (ok_aload_n (f := 0) rfl (by decide +kernel) rfl) ?_
  refine hAllOk.c 11 (ok_dup (by decide +kernel) rfl) ?_
  refine hAllOk.c 12 (ok_getfield (idx := 42) (N := 16) (T := TX6) rfl inTb6 (by decide) rfl wd_t_604 (by decide +kernel) rfl) ?_
  refine hAllOk.c 13 (ok_no) ?_
  refine hAllOk.c 14 (ok_no) ?_
  refine hAllOk.c 15 (ok_iconst (n := 1) (by decide +kernel) (by decide +kernel) rfl) ?_
  refine hAllOk.c 16 (ok_isub (by decide +kernel) rfl) ?_
  refine hAllOk.c 17 (ok_putfield (idx := 42) (N := 16) (T := TX6) tyX6_ok nmX6 rfl rfl inTb6 (by decide) rfl rfl wd_t_604 (by decide +kernel) rfl) ?_
  refine hAllOk.c 18 (ok_no) ?_
  refine hAllOk.c 19 (ok_no) ?_
  refine hAllOk.c 20 (ok_iconst (n := 0) (by decide +kernel) (by decide +kernel) rfl) ?_
  refine hAllOk.c 21 (ok_istore_n (f := 1) rfl (by decide) (by decide +kernel) rfl) ?_
  refine hAllOk.c 22 (ok_iload_n (f := 1) rfl (by decide +kernel) rfl) ?_
  refine hAllOk.c 23 (ok_sipush (n := 1647) (by decide +kernel) (by decide +kernel) rfl) ?_
  refine hAllOk.c 24 (ok_no) ?_
  refine hAllOk.c 25 (ok_no) ?_
  refine hAllOk.c 26 (ok_icge (off := 30) (by decide +kernel) (by decide +kernel) rfl) ?_
  refine hAllOk.c 27 (ok_no) ?_
  refine hAllOk.c 28 (ok_no) ?_
  refine hAllOk.c 29 (ok_aload_n (f := 0) rfl (by decide +kernel) rfl) ?_
  refine hAllOk.c 30 (ok_getfield (idx := 7) (N := 16) (T := TX6) rfl inTb6 (by decide) rfl wd_t_602 (by decide +kernel) rfl) ?_
  refine hAllOk.c 31 (ok_no) ?_
  refine hAllOk.c 32 (ok_no) ?_
  refine hAllOk.c 33 (ok_iload_n (f := 1) rfl (by decide +kernel) rfl) ?_
  refine hAllOk.c 34 (ok_aload_n (f := 0) rfl (by decide +kernel) rfl) ?_
  refine hAllOk.c 35 (ok_getfield (idx := 13) (N := 16) (T := TX6) rfl inTb6 (by decide) rfl wd_t_603 (by decide +kernel) rfl) ?_
  refine hAllOk.c 36 (ok_no) ?_
  refine hAllOk.c 37 (ok_no) ?_
  refine hAllOk.c 38 (ok_sipush (n := 1647) (by decide +kernel) (by decide +kernel) rfl) ?_
  refine hAllOk.c 39 (ok_no) ?_
  refine hAllOk.c 40 (ok_no) ?_
  refine hAllOk.c 41 (ok_aload_n (f := 0) rfl (by decide +kernel) rfl) ?_
  refine hAllOk.c 42 (ok_getfield (idx := 42) (N := 16) (T := TX6) rfl inTb6 (by decide) rfl wd_t_604 (by decide +kernel) rfl) ?_
  refine hAllOk.c 43 (ok_no) ?_
  refine hAllOk.c 44 (ok_no) ?_
  refine hAllOk.c 45 (ok_imul (by decide +kernel) rfl) ?_
  refine hAllOk.c 46 (ok_iload_n (f := 1) rfl (by decide +kernel) rfl) ?_
  refine hAllOk.c 47 (ok_iadd (by decide +kernel) rfl) ?_
  refine hAllOk.c 48 (ok_iaload (by decide +kernel) rfl) ?_
  refine hAllOk.c 49 (ok_iastore (by decide +kernel) rfl) ?_
  refine hAllOk.c 50 (ok_iinc (n := 1) (by decide +kernel) (by decide) (by decide +kernel) rfl) ?_
  refine hAllOk.c 51 (ok_no) ?_
  refine hAllOk.c 52 (ok_no) ?_
  refine hAllOk.c 53 (ok_goto (off := (-31)) (by decide +kernel) (by decide +kernel)) ?_
  refine hAllOk.c 54 (ok_no) ?_
  refine hAllOk.c 55 (ok_no) ?_
  refine hAllOk.c 56 (ok_aload_n (f := 0) rfl (by decide +kernel) rfl) ?_
  refine hAllOk.c 57 (ok_getfield (idx := 42) (N := 16) (T := TX6) rfl inTb6 (by decide) rfl wd_t_604 (by decide +kernel) rfl) ?_
  refine hAllOk.c 58 (ok_no) ?_
  refine hAllOk.c 59 (ok_no) ?_
  refine hAllOk.c 60 (ok_ireturn (by decide +kernel)) ?_
  trivial
theorem wd_t_606 : Cond.fieldLink RX6 141 RX6 "isKept" "Z" ∈ hTb := hTb_t (List.mem_of_getElem? (i := 606) (by decide +kernel)) (by decide +kernel)
def M_Mo_keep : hM := (yX6_keep, prog_8_method_42_code, 2, (some .int), 0, 0)
def code_Mo_keep (K : hK) (B : Nat × Nat) (Q : hPost) : List hSem := [x_const 1 (0), x_istore 2 1, x_iload 3 1, x_const 6 (1647), x_no, x_no, x_icge 27 9, x_no, x_no, x_aload 10 0, x_getfield 13 6 3, x_no, x_no, x_iload 14 1, x_aload 15 0, x_getfield 18 6 0, x_no, x_no, x_iload 19 1, x_iaload K 20, x_iastore K 21, x_iinc 24 1 (1), x_no, x_no, x_goto 2, x_no, x_no, x_aload 28 0, x_const 29 (1), x_putfield 32 6 4 (.boolean), x_no, x_no, x_aload 33 0, x_getfield 36 6 0, x_no, x_no, x_const 37 (0), x_iaload K 38, x_ireturn (some .int) Q]
set_option maxRecDepth 100000 in
set_option maxHeartbeats 4000000 in
theorem okc_Mo_keep (K : hK) (B : Nat × Nat) (Q : hPost) : hAllOk (hJ K M_Mo_keep B Q) 0 (code_Mo_keep K B Q) := by
  refine hAllOk.c 0 (ok_iconst (n := 0) (by decide +kernel) (by decide +kernel) rfl) ?_
  refine hAllOk.c 1 (ok_istore_n (f := 1) rfl (by decide) (by decide +kernel) rfl) ?_
  refine hAllOk.c 2 (ok_iload_n (f := 1) rfl (by decide +kernel) rfl) ?_
  refine hAllOk.c 3 (ok_sipush (n := 1647) (by decide +kernel) (by decide +kernel) rfl) ?_
  refine hAllOk.c 4 (ok_no) ?_
  refine hAllOk.c 5 (ok_no) ?_
  refine hAllOk.c 6 (ok_icge (off := 21) (by decide +kernel) (by decide +kernel) rfl) ?_
  refine hAllOk.c 7 (ok_no) ?_
  refine hAllOk.c 8 (ok_no) ?_
  refine hAllOk.c 9 (ok_aload_n (f := 0) rfl (by decide +kernel) rfl) ?_
  refine hAllOk.c 10 (ok_getfield (idx := 16) (N := 16) (T := TX6) rfl inTb6 (by decide) rfl wd_t_605 (by decide +kernel) rfl) ?_
  refine hAllOk.c 11 (ok_no) ?_
  refine hAllOk.c 12 (ok_no) ?_
  refine hAllOk.c 13 (ok_iload_n (f := 1) rfl (by decide +kernel) rfl) ?_
  refine hAllOk.c 14 (ok_aload_n (f := 0) rfl (by decide +kernel) rfl) ?_
  refine hAllOk.c 15 (ok_getfield (idx := 7) (N := 16) (T := TX6) rfl inTb6 (by decide) rfl wd_t_602 (by decide +kernel) rfl) ?_
  refine hAllOk.c 16 (ok_no) ?_
  refine hAllOk.c 17 (ok_no) ?_
  refine hAllOk.c 18 (ok_iload_n (f := 1) rfl (by decide +kernel) rfl) ?_
  refine hAllOk.c 19 (ok_iaload (by decide +kernel) rfl) ?_
  refine hAllOk.c 20 (ok_iastore (by decide +kernel) rfl) ?_
  refine hAllOk.c 21 (ok_iinc (n := 1) (by decide +kernel) (by decide) (by decide +kernel) rfl) ?_
  refine hAllOk.c 22 (ok_no) ?_
  refine hAllOk.c 23 (ok_no) ?_
  refine hAllOk.c 24 (ok_goto (off := (-22)) (by decide +kernel) (by decide +kernel)) ?_
  refine hAllOk.c 25 (ok_no) ?_
  refine hAllOk.c 26 (ok_no) ?_
  refine hAllOk.c 27 (ok_aload_n (f := 0) rfl (by decide +kernel) rfl) ?_
  refine hAllOk.c 28 (ok_iconst (n := 1) (by decide +kernel) (by decide +kernel) rfl) ?_
  refine hAllOk.c 29 (ok_putfield (idx := 141) (N := 16) (T := TX6) tyX6_ok nmX6 rfl rfl inTb6 (by decide) rfl rfl wd_t_606 (by decide +kernel) rfl) ?_
  refine hAllOk.c 30 (ok_no) ?_
  refine hAllOk.c 31 (ok_no) ?_
  refine hAllOk.c 32 (ok_aload_n (f := 0) rfl (by decide +kernel) rfl) ?_
  refine hAllOk.c 33 (ok_getfield (idx := 7) (N := 16) (T := TX6) rfl inTb6 (by decide) rfl wd_t_602 (by decide +kernel) rfl) ?_
  refine hAllOk.c 34 (ok_no) ?_
  refine hAllOk.c 35 (ok_no) ?_
  refine hAllOk.c 36 (ok_iconst (n := 0) (by decide +kernel) (by decide +kernel) rfl) ?_
  refine hAllOk.c 37 (ok_iaload (by decide +kernel) rfl) ?_
  refine hAllOk.c 38 (ok_ireturn (by decide +kernel)) ?_
  trivial
def M_Mo_restore : hM := (yX6_restore, prog_8_method_43_code, 2, (some .int), 1, 21)
def code_Mo_restore (K : hK) (B : Nat × Nat) (Q : hPost) : List hSem := [x_aload 1 0, x_getfield 4 6 4, x_no, x_no, x_ifne 10 7, x_no, x_no, x_const 9 (-5), x_no, x_ireturn (some .int) Q, x_aload 11 0, x_callV K 14 M_Mo_record 6 0, x_no, x_no, x_const 15 (0), x_istore 16 1, x_iload 17 1, x_const 20 (1647), x_no, x_no, x_icge 41 23, x_no, x_no, x_aload 24 0, x_getfield 27 6 0, x_no, x_no, x_iload 28 1, x_aload 29 0, x_getfield 32 6 3, x_no, x_no, x_iload 33 1, x_iaload K 34, x_iastore K 35, x_iinc 38 1 (1), x_no, x_no, x_goto 16, x_no, x_no, x_aload 42 0, x_getfield 45 6 0, x_no, x_no, x_const 46 (0), x_iaload K 47, x_ireturn (some .int) Q]
set_option maxRecDepth 100000 in
set_option maxHeartbeats 4000000 in
theorem okc_Mo_restore (K : hK) (B : Nat × Nat) (Q : hPost) : hAllOk (hJ K M_Mo_restore B Q) 0 (code_Mo_restore K B Q) := by
  refine hAllOk.c 0 (ok_aload_n (f := 0) rfl (by decide +kernel) rfl) ?_
  refine hAllOk.c 1 (ok_getfield (idx := 141) (N := 16) (T := TX6) rfl inTb6 (by decide) rfl wd_t_606 (by decide +kernel) rfl) ?_
  refine hAllOk.c 2 (ok_no) ?_
  refine hAllOk.c 3 (ok_no) ?_
  refine hAllOk.c 4 (ok_ifne (off := 6) (by decide +kernel) (by decide +kernel) rfl) ?_
  refine hAllOk.c 5 (ok_no) ?_
  refine hAllOk.c 6 (ok_no) ?_
  refine hAllOk.c 7 (ok_bipush (n := -5) (by decide +kernel) (by decide +kernel) rfl) ?_
  refine hAllOk.c 8 (ok_no) ?_
  refine hAllOk.c 9 (ok_ireturn (by decide +kernel)) ?_
  refine hAllOk.c 10 (ok_aload_n (f := 0) rfl (by decide +kernel) rfl) ?_
  refine hAllOk.c 11 (ok_callV (idx := 116) ⟨wd_t_666, wd_t_7, by decide +kernel, by decide +kernel⟩ rfl rfl wd_t_663 wd_t_665 wd_s_51 (by decide +kernel) rfl) ?_
  refine hAllOk.c 12 (ok_no) ?_
  refine hAllOk.c 13 (ok_no) ?_
  refine hAllOk.c 14 (ok_iconst (n := 0) (by decide +kernel) (by decide +kernel) rfl) ?_
  refine hAllOk.c 15 (ok_istore_n (f := 1) rfl (by decide) (by decide +kernel) rfl) ?_
  refine hAllOk.c 16 (ok_iload_n (f := 1) rfl (by decide +kernel) rfl) ?_
  refine hAllOk.c 17 (ok_sipush (n := 1647) (by decide +kernel) (by decide +kernel) rfl) ?_
  refine hAllOk.c 18 (ok_no) ?_
  refine hAllOk.c 19 (ok_no) ?_
  refine hAllOk.c 20 (ok_icge (off := 21) (by decide +kernel) (by decide +kernel) rfl) ?_
  refine hAllOk.c 21 (ok_no) ?_
  refine hAllOk.c 22 (ok_no) ?_
  refine hAllOk.c 23 (ok_aload_n (f := 0) rfl (by decide +kernel) rfl) ?_
  refine hAllOk.c 24 (ok_getfield (idx := 7) (N := 16) (T := TX6) rfl inTb6 (by decide) rfl wd_t_602 (by decide +kernel) rfl) ?_
  refine hAllOk.c 25 (ok_no) ?_
  refine hAllOk.c 26 (ok_no) ?_
  refine hAllOk.c 27 (ok_iload_n (f := 1) rfl (by decide +kernel) rfl) ?_
  refine hAllOk.c 28 (ok_aload_n (f := 0) rfl (by decide +kernel) rfl) ?_
  refine hAllOk.c 29 (ok_getfield (idx := 16) (N := 16) (T := TX6) rfl inTb6 (by decide) rfl wd_t_605 (by decide +kernel) rfl) ?_
  refine hAllOk.c 30 (ok_no) ?_
  refine hAllOk.c 31 (ok_no) ?_
  refine hAllOk.c 32 (ok_iload_n (f := 1) rfl (by decide +kernel) rfl) ?_
  refine hAllOk.c 33 (ok_iaload (by decide +kernel) rfl) ?_
  refine hAllOk.c 34 (ok_iastore (by decide +kernel) rfl) ?_
  refine hAllOk.c 35 (ok_iinc (n := 1) (by decide +kernel) (by decide) (by decide +kernel) rfl) ?_
  refine hAllOk.c 36 (ok_no) ?_
  refine hAllOk.c 37 (ok_no) ?_
  refine hAllOk.c 38 (ok_goto (off := (-22)) (by decide +kernel) (by decide +kernel)) ?_
  refine hAllOk.c 39 (ok_no) ?_
  refine hAllOk.c 40 (ok_no) ?_
  refine hAllOk.c 41 (ok_aload_n (f := 0) rfl (by decide +kernel) rfl) ?_
  refine hAllOk.c 42 (ok_getfield (idx := 7) (N := 16) (T := TX6) rfl inTb6 (by decide) rfl wd_t_602 (by decide +kernel) rfl) ?_
  refine hAllOk.c 43 (ok_no) ?_
  refine hAllOk.c 44 (ok_no) ?_
  refine hAllOk.c 45 (ok_iconst (n := 0) (by decide +kernel) (by decide +kernel) rfl) ?_
  refine hAllOk.c 46 (ok_iaload (by decide +kernel) rfl) ?_
  refine hAllOk.c 47 (ok_ireturn (by decide +kernel)) ?_
  trivial
def M_Mo_guest : hM := (yX6_guest, prog_8_method_44_code, 3, (some .int), 2, 43)
def code_Mo_guest (K : hK) (B : Nat × Nat) (Q : hPost) : List hSem := [x_aload 1 0, x_iload 2 1, x_callV K 5 M_Mo_isGuest 6 1, x_no, x_no, x_ifne 10 8, x_no, x_no, x_const 9 (-1), x_ireturn (some .int) Q, x_iload 11 2, x_const 12 (0), x_const 14 (7), x_no, x_callS K 17 M_Mo_in 3, x_no, x_no, x_ifeq 29 20, x_no, x_no, x_aload 21 0, x_iload 22 1, x_iload 23 2, x_callV K 26 M_Mo_of 6 2, x_no, x_no, x_goto 31, x_no, x_no, x_const 31 (-2), x_no, x_ireturn (some .int) Q]
set_option maxRecDepth 100000 in
set_option maxHeartbeats 4000000 in
theorem okc_Mo_guest (K : hK) (B : Nat × Nat) (Q : hPost) : hAllOk (hJ K M_Mo_guest B Q) 0 (code_Mo_guest K B Q) := by
  refine hAllOk.c 0 (ok_aload_n (f := 0) rfl (by decide +kernel) rfl) ?_
  refine hAllOk.c 1 (ok_iload_n (f := 1) rfl (by decide +kernel) rfl) ?_
  refine hAllOk.c 2 (ok_callV (idx := 123) ⟨wd_t_681, wd_t_7, by decide +kernel, by decide +kernel⟩ rfl rfl wd_t_678 wd_t_680 wd_s_53 (by decide +kernel) rfl) ?_
  refine hAllOk.c 3 (ok_no) ?_
  refine hAllOk.c 4 (ok_no) ?_
  refine hAllOk.c 5 (ok_ifne (off := 5) (by decide +kernel) (by decide +kernel) rfl) ?_
  refine hAllOk.c 6 (ok_no) ?_
  refine hAllOk.c 7 (ok_no) ?_
  refine hAllOk.c 8 (ok_iconst (n := -1) (by decide +kernel) (by decide +kernel) rfl) ?_
  refine hAllOk.c 9 (ok_ireturn (by decide +kernel)) ?_
  refine hAllOk.c 10 (ok_iload_n (f := 2) rfl (by decide +kernel) rfl) ?_
  refine hAllOk.c 11 (ok_iconst (n := 0) (by decide +kernel) (by decide +kernel) rfl) ?_
  refine hAllOk.c 12 (ok_bipush (n := 7) (by decide +kernel) (by decide +kernel) rfl) ?_
  refine hAllOk.c 13 (ok_no) ?_
  refine hAllOk.c 14 (ok_callS (idx := 46) ⟨wd_t_658, wd_t_7, by decide +kernel, by decide +kernel⟩ wd_t_656 wd_t_657 (by decide +kernel) rfl) ?_
  refine hAllOk.c 15 (ok_no) ?_
  refine hAllOk.c 16 (ok_no) ?_
  refine hAllOk.c 17 (ok_ifeq (off := 12) (by decide +kernel) (by decide +kernel) rfl) ?_
  refine hAllOk.c 18 (ok_no) ?_
  refine hAllOk.c 19 (ok_no) ?_
  refine hAllOk.c 20 (ok_aload_n (f := 0) rfl (by decide +kernel) rfl) ?_
  refine hAllOk.c 21 (ok_iload_n (f := 1) rfl (by decide +kernel) rfl) ?_
  refine hAllOk.c 22 (ok_iload_n (f := 2) rfl (by decide +kernel) rfl) ?_
  refine hAllOk.c 23 (ok_callV (idx := 84) ⟨wd_t_743, wd_t_7, by decide +kernel, by decide +kernel⟩ rfl rfl wd_t_740 wd_t_742 wd_s_64 (by decide +kernel) rfl) ?_
  refine hAllOk.c 24 (ok_no) ?_
  refine hAllOk.c 25 (ok_no) ?_
  refine hAllOk.c 26 (ok_goto (off := 5) (by decide +kernel) (by decide +kernel)) ?_
  refine hAllOk.c 27 (ok_no) ?_
  refine hAllOk.c 28 (ok_no) ?_
  refine hAllOk.c 29 (ok_bipush (n := -2) (by decide +kernel) (by decide +kernel) rfl) ?_
  refine hAllOk.c 30 (ok_no) ?_
  refine hAllOk.c 31 (ok_ireturn (by decide +kernel)) ?_
  trivial
def M_Mo_isSet : hM := (yX6_isSet, prog_8_method_45_code, 2, (some .boolean), 1, 22)
def code_Mo_isSet (K : hK) (B : Nat × Nat) (Q : hPost) : List hSem := [x_iload 1 1, x_const 2 (0), x_aload 3 0, x_callV K 6 M_Mo_all 6 0, x_no, x_no, x_callS K 9 M_Mo_in 3, x_no, x_no, x_ireturn (some .boolean) Q]
set_option maxRecDepth 100000 in
set_option maxHeartbeats 4000000 in
theorem okc_Mo_isSet (K : hK) (B : Nat × Nat) (Q : hPost) : hAllOk (hJ K M_Mo_isSet B Q) 0 (code_Mo_isSet K B Q) := by
  refine hAllOk.c 0 (ok_iload_n (f := 1) rfl (by decide +kernel) rfl) ?_
  refine hAllOk.c 1 (ok_iconst (n := 0) (by decide +kernel) (by decide +kernel) rfl) ?_
  refine hAllOk.c 2 (ok_aload_n (f := 0) rfl (by decide +kernel) rfl) ?_
  refine hAllOk.c 3 (ok_callV (idx := 103) ⟨wd_t_701, wd_t_7, by decide +kernel, by decide +kernel⟩ rfl rfl wd_t_698 wd_t_700 wd_s_58 (by decide +kernel) rfl) ?_
  refine hAllOk.c 4 (ok_no) ?_
  refine hAllOk.c 5 (ok_no) ?_
  refine hAllOk.c 6 (ok_callS (idx := 46) ⟨wd_t_658, wd_t_7, by decide +kernel, by decide +kernel⟩ wd_t_656 wd_t_657 (by decide +kernel) rfl) ?_
  refine hAllOk.c 7 (ok_no) ?_
  refine hAllOk.c 8 (ok_no) ?_
  refine hAllOk.c 9 (ok_ireturn (by decide +kernel)) ?_
  trivial
theorem wd_t_816 : Cond.methodLink RX6 145 yX6_isSet ∈ hTb := hTb_t (List.mem_of_getElem? (i := 816) (by decide +kernel)) (by decide +kernel)
theorem wd_t_819 : Cond.code yX6_isSet prog_8_method_45_code 2 (some .boolean) ∈ hTb := hTb_t (List.mem_of_getElem? (i := 819) (by decide +kernel)) (by decide +kernel)
theorem wd_t_818 : Cond.instanceMethod yX6_isSet ∈ hTb := hTb_t (List.mem_of_getElem? (i := 818) (by decide +kernel)) (by decide +kernel)
theorem wd_s_71 : Cond.selects RX6 yX6_isSet yX6_isSet ∈ hTb := hTb_s (List.mem_of_getElem? (i := 71) (by decide +kernel)) (by decide +kernel)
def M_Mo_met : hM := (yX6_met, prog_8_method_46_code, 3, (some .int), 2, 43)
def code_Mo_met (K : hK) (B : Nat × Nat) (Q : hPost) : List hSem := [x_aload 1 0, x_iload 2 1, x_callV K 5 M_Mo_isGuest 6 1, x_no, x_no, x_ifne 10 8, x_no, x_no, x_const 9 (-1), x_ireturn (some .int) Q, x_aload 11 0, x_iload 12 2, x_callV K 15 M_Mo_isSet 6 1, x_no, x_no, x_ifne 23 18, x_no, x_no, x_const 20 (-2), x_no, x_goto 37, x_no, x_no, x_aload 24 0, x_iload 25 1, x_iload 26 2, x_callV K 29 M_Mo_isMet 6 2, x_no, x_no, x_ifeq 36 32, x_no, x_no, x_const 33 (1), x_goto 37, x_no, x_no, x_const 37 (0), x_ireturn (some .int) Q]
set_option maxRecDepth 100000 in
set_option maxHeartbeats 4000000 in
theorem okc_Mo_met (K : hK) (B : Nat × Nat) (Q : hPost) : hAllOk (hJ K M_Mo_met B Q) 0 (code_Mo_met K B Q) := by
  refine hAllOk.c 0 (ok_aload_n (f := 0) rfl (by decide +kernel) rfl) ?_
  refine hAllOk.c 1 (ok_iload_n (f := 1) rfl (by decide +kernel) rfl) ?_
  refine hAllOk.c 2 (ok_callV (idx := 123) ⟨wd_t_681, wd_t_7, by decide +kernel, by decide +kernel⟩ rfl rfl wd_t_678 wd_t_680 wd_s_53 (by decide +kernel) rfl) ?_
  refine hAllOk.c 3 (ok_no) ?_
  refine hAllOk.c 4 (ok_no) ?_
  refine hAllOk.c 5 (ok_ifne (off := 5) (by decide +kernel) (by decide +kernel) rfl) ?_
  refine hAllOk.c 6 (ok_no) ?_
  refine hAllOk.c 7 (ok_no) ?_
  refine hAllOk.c 8 (ok_iconst (n := -1) (by decide +kernel) (by decide +kernel) rfl) ?_
  refine hAllOk.c 9 (ok_ireturn (by decide +kernel)) ?_
  refine hAllOk.c 10 (ok_aload_n (f := 0) rfl (by decide +kernel) rfl) ?_
  refine hAllOk.c 11 (ok_iload_n (f := 2) rfl (by decide +kernel) rfl) ?_
  refine hAllOk.c 12 (ok_callV (idx := 145) ⟨wd_t_819, wd_t_7, by decide +kernel, by decide +kernel⟩ rfl rfl wd_t_816 wd_t_818 wd_s_71 (by decide +kernel) rfl) ?_
  refine hAllOk.c 13 (ok_no) ?_
  refine hAllOk.c 14 (ok_no) ?_
  refine hAllOk.c 15 (ok_ifne (off := 8) (by decide +kernel) (by decide +kernel) rfl) ?_
  refine hAllOk.c 16 (ok_no) ?_
  refine hAllOk.c 17 (ok_no) ?_
  refine hAllOk.c 18 (ok_bipush (n := -2) (by decide +kernel) (by decide +kernel) rfl) ?_
  refine hAllOk.c 19 (ok_no) ?_
  refine hAllOk.c 20 (ok_goto (off := 17) (by decide +kernel) (by decide +kernel)) ?_
  refine hAllOk.c 21 (ok_no) ?_
  refine hAllOk.c 22 (ok_no) ?_
  refine hAllOk.c 23 (ok_aload_n (f := 0) rfl (by decide +kernel) rfl) ?_
  refine hAllOk.c 24 (ok_iload_n (f := 1) rfl (by decide +kernel) rfl) ?_
  refine hAllOk.c 25 (ok_iload_n (f := 2) rfl (by decide +kernel) rfl) ?_
  refine hAllOk.c 26 (ok_callV (idx := 87) ⟨wd_t_767, wd_t_7, by decide +kernel, by decide +kernel⟩ rfl rfl wd_t_764 wd_t_766 wd_s_67 (by decide +kernel) rfl) ?_
  refine hAllOk.c 27 (ok_no) ?_
  refine hAllOk.c 28 (ok_no) ?_
  refine hAllOk.c 29 (ok_ifeq (off := 7) (by decide +kernel) (by decide +kernel) rfl) ?_
  refine hAllOk.c 30 (ok_no) ?_
  refine hAllOk.c 31 (ok_no) ?_
  refine hAllOk.c 32 (ok_iconst (n := 1) (by decide +kernel) (by decide +kernel) rfl) ?_
  refine hAllOk.c 33 (ok_goto (off := 4) (by decide +kernel) (by decide +kernel)) ?_
  refine hAllOk.c 34 (ok_no) ?_
  refine hAllOk.c 35 (ok_no) ?_
  refine hAllOk.c 36 (ok_iconst (n := 0) (by decide +kernel) (by decide +kernel) rfl) ?_
  refine hAllOk.c 37 (ok_ireturn (by decide +kernel)) ?_
  trivial
def M_Mo_stable : hM := (yX6_stable, prog_8_method_47_code, 2, (some .int), 3, 66)
def code_Mo_stable (K : hK) (B : Nat × Nat) (Q : hPost) : List hSem := [x_aload 1 0, x_iload 2 1, x_callV K 5 M_Mo_isSet 6 1, x_no, x_no, x_ifne 13 8, x_no, x_no, x_const 10 (-2), x_no, x_goto 26, x_no, x_no, x_aload 14 0, x_iload 15 1, x_callV K 18 M_Mo_isStable 6 1, x_no, x_no, x_ifeq 25 21, x_no, x_no, x_const 22 (1), x_goto 26, x_no, x_no, x_const 26 (0), x_ireturn (some .int) Q]
set_option maxRecDepth 100000 in
set_option maxHeartbeats 4000000 in
theorem okc_Mo_stable (K : hK) (B : Nat × Nat) (Q : hPost) : hAllOk (hJ K M_Mo_stable B Q) 0 (code_Mo_stable K B Q) := by
  refine hAllOk.c 0 (ok_aload_n (f := 0) rfl (by decide +kernel) rfl) ?_
  refine hAllOk.c 1 (ok_iload_n (f := 1) rfl (by decide +kernel) rfl) ?_
  refine hAllOk.c 2 (ok_callV (idx := 145) ⟨wd_t_819, wd_t_7, by decide +kernel, by decide +kernel⟩ rfl rfl wd_t_816 wd_t_818 wd_s_71 (by decide +kernel) rfl) ?_
  refine hAllOk.c 3 (ok_no) ?_
  refine hAllOk.c 4 (ok_no) ?_
  refine hAllOk.c 5 (ok_ifne (off := 8) (by decide +kernel) (by decide +kernel) rfl) ?_
  refine hAllOk.c 6 (ok_no) ?_
  refine hAllOk.c 7 (ok_no) ?_
  refine hAllOk.c 8 (ok_bipush (n := -2) (by decide +kernel) (by decide +kernel) rfl) ?_
  refine hAllOk.c 9 (ok_no) ?_
  refine hAllOk.c 10 (ok_goto (off := 16) (by decide +kernel) (by decide +kernel)) ?_
  refine hAllOk.c 11 (ok_no) ?_
  refine hAllOk.c 12 (ok_no) ?_
  refine hAllOk.c 13 (ok_aload_n (f := 0) rfl (by decide +kernel) rfl) ?_
  refine hAllOk.c 14 (ok_iload_n (f := 1) rfl (by decide +kernel) rfl) ?_
  refine hAllOk.c 15 (ok_callV (idx := 109) ⟨wd_t_779, wd_t_7, by decide +kernel, by decide +kernel⟩ rfl rfl wd_t_776 wd_t_778 wd_s_70 (by decide +kernel) rfl) ?_
  refine hAllOk.c 16 (ok_no) ?_
  refine hAllOk.c 17 (ok_no) ?_
  refine hAllOk.c 18 (ok_ifeq (off := 7) (by decide +kernel) (by decide +kernel) rfl) ?_
  refine hAllOk.c 19 (ok_no) ?_
  refine hAllOk.c 20 (ok_no) ?_
  refine hAllOk.c 21 (ok_iconst (n := 1) (by decide +kernel) (by decide +kernel) rfl) ?_
  refine hAllOk.c 22 (ok_goto (off := 4) (by decide +kernel) (by decide +kernel)) ?_
  refine hAllOk.c 23 (ok_no) ?_
  refine hAllOk.c 24 (ok_no) ?_
  refine hAllOk.c 25 (ok_iconst (n := 0) (by decide +kernel) (by decide +kernel) rfl) ?_
  refine hAllOk.c 26 (ok_ireturn (by decide +kernel)) ?_
  trivial
def M_Mo_fee : hM := (yX6_fee, prog_8_method_48_code, 2, (some .int), 1, 22)
def code_Mo_fee (K : hK) (B : Nat × Nat) (Q : hPost) : List hSem := [x_iload 1 1, x_const 2 (1), x_const 4 (12), x_no, x_callS K 7 M_Mo_in 3, x_no, x_no, x_ifeq 18 10, x_no, x_no, x_aload 11 0, x_iload 12 1, x_callV K 15 M_Mo_feeOf 6 1, x_no, x_no, x_goto 20, x_no, x_no, x_const 20 (-2), x_no, x_ireturn (some .int) Q]
set_option maxRecDepth 100000 in
set_option maxHeartbeats 4000000 in
theorem okc_Mo_fee (K : hK) (B : Nat × Nat) (Q : hPost) : hAllOk (hJ K M_Mo_fee B Q) 0 (code_Mo_fee K B Q) := by
  refine hAllOk.c 0 (ok_iload_n (f := 1) rfl (by decide +kernel) rfl) ?_
  refine hAllOk.c 1 (ok_iconst (n := 1) (by decide +kernel) (by decide +kernel) rfl) ?_
  refine hAllOk.c 2 (ok_bipush (n := 12) (by decide +kernel) (by decide +kernel) rfl) ?_
  refine hAllOk.c 3 (ok_no) ?_
  refine hAllOk.c 4 (ok_callS (idx := 46) ⟨wd_t_658, wd_t_7, by decide +kernel, by decide +kernel⟩ wd_t_656 wd_t_657 (by decide +kernel) rfl) ?_
  refine hAllOk.c 5 (ok_no) ?_
  refine hAllOk.c 6 (ok_no) ?_
  refine hAllOk.c 7 (ok_ifeq (off := 11) (by decide +kernel) (by decide +kernel) rfl) ?_
  refine hAllOk.c 8 (ok_no) ?_
  refine hAllOk.c 9 (ok_no) ?_
  refine hAllOk.c 10 (ok_aload_n (f := 0) rfl (by decide +kernel) rfl) ?_
  refine hAllOk.c 11 (ok_iload_n (f := 1) rfl (by decide +kernel) rfl) ?_
  refine hAllOk.c 12 (ok_callV (idx := 90) ⟨wd_t_771, wd_t_7, by decide +kernel, by decide +kernel⟩ rfl rfl wd_t_768 wd_t_770 wd_s_68 (by decide +kernel) rfl) ?_
  refine hAllOk.c 13 (ok_no) ?_
  refine hAllOk.c 14 (ok_no) ?_
  refine hAllOk.c 15 (ok_goto (off := 5) (by decide +kernel) (by decide +kernel)) ?_
  refine hAllOk.c 16 (ok_no) ?_
  refine hAllOk.c 17 (ok_no) ?_
  refine hAllOk.c 18 (ok_bipush (n := -2) (by decide +kernel) (by decide +kernel) rfl) ?_
  refine hAllOk.c 19 (ok_no) ?_
  refine hAllOk.c 20 (ok_ireturn (by decide +kernel)) ?_
  trivial
def M_Mo_smallest : hM := (yX6_smallest, prog_8_method_25_code, 3, (some .int), 3, 66)
def code_Mo_smallest (K : hK) (B : Nat × Nat) (Q : hPost) : List hSem := [x_const 2 (-5), x_no, x_istore 3 1, x_const 4 (1), x_istore 5 2, x_iload 6 2, x_aload 7 0, x_callV K 10 M_Mo_all 6 0, x_no, x_no, x_icgt 48 13, x_no, x_no, x_iload 14 1, x_iflt 28 17, x_no, x_no, x_iload 18 2, x_callS K 21 M_Mo_ones 1, x_no, x_no, x_iload 22 1, x_callS K 25 M_Mo_ones 1, x_no, x_no, x_icge 40 28, x_no, x_no, x_aload 29 0, x_iload 30 2, x_callV K 33 M_Mo_isStable 6 1, x_no, x_no, x_ifeq 40 36, x_no, x_no, x_iload 37 2, x_goto 41, x_no, x_no, x_iload 41 1, x_istore 42 1, x_iinc 45 2 (1), x_no, x_no, x_goto 5, x_no, x_no, x_iload 49 1, x_ireturn (some .int) Q]
set_option maxRecDepth 100000 in
set_option maxHeartbeats 4000000 in
theorem okc_Mo_smallest (K : hK) (B : Nat × Nat) (Q : hPost) : hAllOk (hJ K M_Mo_smallest B Q) 0 (code_Mo_smallest K B Q) := by
  refine hAllOk.c 0 (ok_bipush (n := -5) (by decide +kernel) (by decide +kernel) rfl) ?_
  refine hAllOk.c 1 (ok_no) ?_
  refine hAllOk.c 2 (ok_istore_n (f := 1) rfl (by decide) (by decide +kernel) rfl) ?_
  refine hAllOk.c 3 (ok_iconst (n := 1) (by decide +kernel) (by decide +kernel) rfl) ?_
  refine hAllOk.c 4 (ok_istore_n (f := 2) rfl (by decide) (by decide +kernel) rfl) ?_
  refine hAllOk.c 5 (ok_iload_n (f := 2) rfl (by decide +kernel) rfl) ?_
  refine hAllOk.c 6 (ok_aload_n (f := 0) rfl (by decide +kernel) rfl) ?_
  refine hAllOk.c 7 (ok_callV (idx := 103) ⟨wd_t_701, wd_t_7, by decide +kernel, by decide +kernel⟩ rfl rfl wd_t_698 wd_t_700 wd_s_58 (by decide +kernel) rfl) ?_
  refine hAllOk.c 8 (ok_no) ?_
  refine hAllOk.c 9 (ok_no) ?_
  refine hAllOk.c 10 (ok_icgt (off := 38) (by decide +kernel) (by decide +kernel) rfl) ?_
  refine hAllOk.c 11 (ok_no) ?_
  refine hAllOk.c 12 (ok_no) ?_
  refine hAllOk.c 13 (ok_iload_n (f := 1) rfl (by decide +kernel) rfl) ?_
  refine hAllOk.c 14 (ok_iflt (off := 14) (by decide +kernel) (by decide +kernel) rfl) ?_
  refine hAllOk.c 15 (ok_no) ?_
  refine hAllOk.c 16 (ok_no) ?_
  refine hAllOk.c 17 (ok_iload_n (f := 2) rfl (by decide +kernel) rfl) ?_
  refine hAllOk.c 18 (ok_callS (idx := 78) ⟨wd_t_712, wd_t_7, by decide +kernel, by decide +kernel⟩ wd_t_710 wd_t_711 (by decide +kernel) rfl) ?_
  refine hAllOk.c 19 (ok_no) ?_
  refine hAllOk.c 20 (ok_no) ?_
  refine hAllOk.c 21 (ok_iload_n (f := 1) rfl (by decide +kernel) rfl) ?_
  refine hAllOk.c 22 (ok_callS (idx := 78) ⟨wd_t_712, wd_t_7, by decide +kernel, by decide +kernel⟩ wd_t_710 wd_t_711 (by decide +kernel) rfl) ?_
  refine hAllOk.c 23 (ok_no) ?_
  refine hAllOk.c 24 (ok_no) ?_
  refine hAllOk.c 25 (ok_icge (off := 15) (by decide +kernel) (by decide +kernel) rfl) ?_
  refine hAllOk.c 26 (ok_no) ?_
  refine hAllOk.c 27 (ok_no) ?_
  refine hAllOk.c 28 (ok_aload_n (f := 0) rfl (by decide +kernel) rfl) ?_
  refine hAllOk.c 29 (ok_iload_n (f := 2) rfl (by decide +kernel) rfl) ?_
  refine hAllOk.c 30 (ok_callV (idx := 109) ⟨wd_t_779, wd_t_7, by decide +kernel, by decide +kernel⟩ rfl rfl wd_t_776 wd_t_778 wd_s_70 (by decide +kernel) rfl) ?_
  refine hAllOk.c 31 (ok_no) ?_
  refine hAllOk.c 32 (ok_no) ?_
  refine hAllOk.c 33 (ok_ifeq (off := 7) (by decide +kernel) (by decide +kernel) rfl) ?_
  refine hAllOk.c 34 (ok_no) ?_
  refine hAllOk.c 35 (ok_no) ?_
  refine hAllOk.c 36 (ok_iload_n (f := 2) rfl (by decide +kernel) rfl) ?_
  refine hAllOk.c 37 (ok_goto (off := 4) (by decide +kernel) (by decide +kernel)) ?_
  refine hAllOk.c 38 (ok_no) ?_
  refine hAllOk.c 39 (ok_no) ?_
  refine hAllOk.c 40 (ok_iload_n (f := 1) rfl (by decide +kernel) rfl) ?_
  refine hAllOk.c 41 (ok_istore_n (f := 1) rfl (by decide) (by decide +kernel) rfl) ?_
  refine hAllOk.c 42 (ok_iinc (n := 1) (by decide +kernel) (by decide) (by decide +kernel) rfl) ?_
  refine hAllOk.c 43 (ok_no) ?_
  refine hAllOk.c 44 (ok_no) ?_
  refine hAllOk.c 45 (ok_goto (off := (-40)) (by decide +kernel) (by decide +kernel)) ?_
  refine hAllOk.c 46 (ok_no) ?_
  refine hAllOk.c 47 (ok_no) ?_
  refine hAllOk.c 48 (ok_iload_n (f := 1) rfl (by decide +kernel) rfl) ?_
  refine hAllOk.c 49 (ok_ireturn (by decide +kernel)) ?_
  trivial
theorem wd_t_832 : Cond.methodLink RX6 148 yX6_smallest ∈ hTb := hTb_t (List.mem_of_getElem? (i := 832) (by decide +kernel)) (by decide +kernel)
theorem wd_t_835 : Cond.code yX6_smallest prog_8_method_25_code 3 (some .int) ∈ hTb := hTb_t (List.mem_of_getElem? (i := 835) (by decide +kernel)) (by decide +kernel)
theorem wd_t_834 : Cond.instanceMethod yX6_smallest ∈ hTb := hTb_t (List.mem_of_getElem? (i := 834) (by decide +kernel)) (by decide +kernel)
theorem wd_s_72 : Cond.selects RX6 yX6_smallest yX6_smallest ∈ hTb := hTb_s (List.mem_of_getElem? (i := 72) (by decide +kernel)) (by decide +kernel)
def M_Mo_company : hM := (yX6_company, prog_8_method_49_code, 2, (some .int), 5, 112)
def code_Mo_company (K : hK) (B : Nat × Nat) (Q : hPost) : List hSem := [x_iload 1 1, x_tab 67 [(0, 32), (1, 37), (2, 42), (3, 47)], x_no, x_no, x_no, x_no, x_no, x_no, x_no, x_no, x_no, x_no, x_no, x_no, x_no, x_no, x_no, x_no, x_no, x_no, x_no, x_no, x_no, x_no, x_no, x_no, x_no, x_no, x_no, x_no, x_no, x_no, x_aload 33 0, x_callV K 36 M_Mo_greatest 6 0, x_no, x_no, x_ireturn (some .int) Q, x_aload 38 0, x_callV K 41 M_Mo_chosen 6 0, x_no, x_no, x_ireturn (some .int) Q, x_aload 43 0, x_callV K 46 M_Mo_smallest 6 0, x_no, x_no, x_ireturn (some .int) Q, x_aload 48 0, x_callV K 51 M_Mo_isFixed 6 0, x_no, x_no, x_ifeq 64 54, x_no, x_no, x_aload 55 0, x_getfield 58 6 0, x_no, x_no, x_const 60 (8), x_no, x_iaload K 61, x_goto 66, x_no, x_no, x_const 66 (-5), x_no, x_ireturn (some .int) Q, x_const 69 (-2), x_no, x_ireturn (some .int) Q]
set_option maxRecDepth 100000 in
set_option maxHeartbeats 4000000 in
theorem okc_Mo_company (K : hK) (B : Nat × Nat) (Q : hPost) : hAllOk (hJ K M_Mo_company B Q) 0 (code_Mo_company K B Q) := by
  refine hAllOk.c 0 (ok_iload_n (f := 1) rfl (by decide +kernel) rfl) ?_
  refine hAllOk.c 1 (ok_tab (dflt := 66) (lo := 0) (hi := 3) (offs := #[31, 36, 41, 46]) (len := 31) (by decide +kernel) (by decide +kernel) (by decide +kernel) (by decide +kernel)) ?_
  refine hAllOk.c 2 (ok_no) ?_
  refine hAllOk.c 3 (ok_no) ?_
  refine hAllOk.c 4 (ok_no) ?_
  refine hAllOk.c 5 (ok_no) ?_
  refine hAllOk.c 6 (ok_no) ?_
  refine hAllOk.c 7 (ok_no) ?_
  refine hAllOk.c 8 (ok_no) ?_
  refine hAllOk.c 9 (ok_no) ?_
  refine hAllOk.c 10 (ok_no) ?_
  refine hAllOk.c 11 (ok_no) ?_
  refine hAllOk.c 12 (ok_no) ?_
  refine hAllOk.c 13 (ok_no) ?_
  refine hAllOk.c 14 (ok_no) ?_
  refine hAllOk.c 15 (ok_no) ?_
  refine hAllOk.c 16 (ok_no) ?_
  refine hAllOk.c 17 (ok_no) ?_
  refine hAllOk.c 18 (ok_no) ?_
  refine hAllOk.c 19 (ok_no) ?_
  refine hAllOk.c 20 (ok_no) ?_
  refine hAllOk.c 21 (ok_no) ?_
  refine hAllOk.c 22 (ok_no) ?_
  refine hAllOk.c 23 (ok_no) ?_
  refine hAllOk.c 24 (ok_no) ?_
  refine hAllOk.c 25 (ok_no) ?_
  refine hAllOk.c 26 (ok_no) ?_
  refine hAllOk.c 27 (ok_no) ?_
  refine hAllOk.c 28 (ok_no) ?_
  refine hAllOk.c 29 (ok_no) ?_
  refine hAllOk.c 30 (ok_no) ?_
  refine hAllOk.c 31 (ok_no) ?_
  refine hAllOk.c 32 (ok_aload_n (f := 0) rfl (by decide +kernel) rfl) ?_
  refine hAllOk.c 33 (ok_callV (idx := 100) ⟨wd_t_763, wd_t_7, by decide +kernel, by decide +kernel⟩ rfl rfl wd_t_760 wd_t_762 wd_s_66 (by decide +kernel) rfl) ?_
  refine hAllOk.c 34 (ok_no) ?_
  refine hAllOk.c 35 (ok_no) ?_
  refine hAllOk.c 36 (ok_ireturn (by decide +kernel)) ?_
  refine hAllOk.c 37 (ok_aload_n (f := 0) rfl (by decide +kernel) rfl) ?_
  refine hAllOk.c 38 (ok_callV (idx := 138) ⟨wd_t_759, wd_t_7, by decide +kernel, by decide +kernel⟩ rfl rfl wd_t_756 wd_t_758 wd_s_65 (by decide +kernel) rfl) ?_
  refine hAllOk.c 39 (ok_no) ?_
  refine hAllOk.c 40 (ok_no) ?_
  refine hAllOk.c 41 (ok_ireturn (by decide +kernel)) ?_
  refine hAllOk.c 42 (ok_aload_n (f := 0) rfl (by decide +kernel) rfl) ?_
  refine hAllOk.c 43 (ok_callV (idx := 148) ⟨wd_t_835, wd_t_7, by decide +kernel, by decide +kernel⟩ rfl rfl wd_t_832 wd_t_834 wd_s_72 (by decide +kernel) rfl) ?_
  refine hAllOk.c 44 (ok_no) ?_
  refine hAllOk.c 45 (ok_no) ?_
  refine hAllOk.c 46 (ok_ireturn (by decide +kernel)) ?_
  refine hAllOk.c 47 (ok_aload_n (f := 0) rfl (by decide +kernel) rfl) ?_
  refine hAllOk.c 48 (ok_callV (idx := 113) ⟨wd_t_662, wd_t_7, by decide +kernel, by decide +kernel⟩ rfl rfl wd_t_659 wd_t_661 wd_s_50 (by decide +kernel) rfl) ?_
  refine hAllOk.c 49 (ok_no) ?_
  refine hAllOk.c 50 (ok_no) ?_
  refine hAllOk.c 51 (ok_ifeq (off := 13) (by decide +kernel) (by decide +kernel) rfl) ?_
  refine hAllOk.c 52 (ok_no) ?_
  refine hAllOk.c 53 (ok_no) ?_
  refine hAllOk.c 54 (ok_aload_n (f := 0) rfl (by decide +kernel) rfl) ?_
  refine hAllOk.c 55 (ok_getfield (idx := 7) (N := 16) (T := TX6) rfl inTb6 (by decide) rfl wd_t_602 (by decide +kernel) rfl) ?_
  refine hAllOk.c 56 (ok_no) ?_
  refine hAllOk.c 57 (ok_no) ?_
  refine hAllOk.c 58 (ok_bipush (n := 8) (by decide +kernel) (by decide +kernel) rfl) ?_
  refine hAllOk.c 59 (ok_no) ?_
  refine hAllOk.c 60 (ok_iaload (by decide +kernel) rfl) ?_
  refine hAllOk.c 61 (ok_goto (off := 5) (by decide +kernel) (by decide +kernel)) ?_
  refine hAllOk.c 62 (ok_no) ?_
  refine hAllOk.c 63 (ok_no) ?_
  refine hAllOk.c 64 (ok_bipush (n := -5) (by decide +kernel) (by decide +kernel) rfl) ?_
  refine hAllOk.c 65 (ok_no) ?_
  refine hAllOk.c 66 (ok_ireturn (by decide +kernel)) ?_
  refine hAllOk.c 67 (ok_bipush (n := -2) (by decide +kernel) (by decide +kernel) rfl) ?_
  refine hAllOk.c 68 (ok_no) ?_
  refine hAllOk.c 69 (ok_ireturn (by decide +kernel)) ?_
  trivial
def M_Mo_companies : hM := (yX6_companies, prog_8_method_50_code, 3, (some .int), 3, 66)
def code_Mo_companies (K : hK) (B : Nat × Nat) (Q : hPost) : List hSem := [x_const 1 (0), x_istore 2 1, x_const 3 (0), x_istore 4 2, x_iload 5 2, x_aload 6 0, x_callV K 9 M_Mo_all 6 0, x_no, x_no, x_icgt 34 12, x_no, x_no, x_iload 13 1, x_aload 14 0, x_iload 15 2, x_callV K 18 M_Mo_isStable 6 1, x_no, x_no, x_ifeq 25 21, x_no, x_no, x_const 22 (1), x_goto 26, x_no, x_no, x_const 26 (0), x_iadd 27, x_istore 28 1, x_iinc 31 2 (1), x_no, x_no, x_goto 4, x_no, x_no, x_iload 35 1, x_ireturn (some .int) Q]
set_option maxRecDepth 100000 in
set_option maxHeartbeats 4000000 in
theorem okc_Mo_companies (K : hK) (B : Nat × Nat) (Q : hPost) : hAllOk (hJ K M_Mo_companies B Q) 0 (code_Mo_companies K B Q) := by
  refine hAllOk.c 0 (ok_iconst (n := 0) (by decide +kernel) (by decide +kernel) rfl) ?_
  refine hAllOk.c 1 (ok_istore_n (f := 1) rfl (by decide) (by decide +kernel) rfl) ?_
  refine hAllOk.c 2 (ok_iconst (n := 0) (by decide +kernel) (by decide +kernel) rfl) ?_
  refine hAllOk.c 3 (ok_istore_n (f := 2) rfl (by decide) (by decide +kernel) rfl) ?_
  refine hAllOk.c 4 (ok_iload_n (f := 2) rfl (by decide +kernel) rfl) ?_
  refine hAllOk.c 5 (ok_aload_n (f := 0) rfl (by decide +kernel) rfl) ?_
  refine hAllOk.c 6 (ok_callV (idx := 103) ⟨wd_t_701, wd_t_7, by decide +kernel, by decide +kernel⟩ rfl rfl wd_t_698 wd_t_700 wd_s_58 (by decide +kernel) rfl) ?_
  refine hAllOk.c 7 (ok_no) ?_
  refine hAllOk.c 8 (ok_no) ?_
  refine hAllOk.c 9 (ok_icgt (off := 25) (by decide +kernel) (by decide +kernel) rfl) ?_
  refine hAllOk.c 10 (ok_no) ?_
  refine hAllOk.c 11 (ok_no) ?_
  refine hAllOk.c 12 (ok_iload_n (f := 1) rfl (by decide +kernel) rfl) ?_
  refine hAllOk.c 13 (ok_aload_n (f := 0) rfl (by decide +kernel) rfl) ?_
  refine hAllOk.c 14 (ok_iload_n (f := 2) rfl (by decide +kernel) rfl) ?_
  refine hAllOk.c 15 (ok_callV (idx := 109) ⟨wd_t_779, wd_t_7, by decide +kernel, by decide +kernel⟩ rfl rfl wd_t_776 wd_t_778 wd_s_70 (by decide +kernel) rfl) ?_
  refine hAllOk.c 16 (ok_no) ?_
  refine hAllOk.c 17 (ok_no) ?_
  refine hAllOk.c 18 (ok_ifeq (off := 7) (by decide +kernel) (by decide +kernel) rfl) ?_
  refine hAllOk.c 19 (ok_no) ?_
  refine hAllOk.c 20 (ok_no) ?_
  refine hAllOk.c 21 (ok_iconst (n := 1) (by decide +kernel) (by decide +kernel) rfl) ?_
  refine hAllOk.c 22 (ok_goto (off := 4) (by decide +kernel) (by decide +kernel)) ?_
  refine hAllOk.c 23 (ok_no) ?_
  refine hAllOk.c 24 (ok_no) ?_
  refine hAllOk.c 25 (ok_iconst (n := 0) (by decide +kernel) (by decide +kernel) rfl) ?_
  refine hAllOk.c 26 (ok_iadd (by decide +kernel) rfl) ?_
  refine hAllOk.c 27 (ok_istore_n (f := 1) rfl (by decide) (by decide +kernel) rfl) ?_
  refine hAllOk.c 28 (ok_iinc (n := 1) (by decide +kernel) (by decide) (by decide +kernel) rfl) ?_
  refine hAllOk.c 29 (ok_no) ?_
  refine hAllOk.c 30 (ok_no) ?_
  refine hAllOk.c 31 (ok_goto (off := (-27)) (by decide +kernel) (by decide +kernel)) ?_
  refine hAllOk.c 32 (ok_no) ?_
  refine hAllOk.c 33 (ok_no) ?_
  refine hAllOk.c 34 (ok_iload_n (f := 1) rfl (by decide +kernel) rfl) ?_
  refine hAllOk.c 35 (ok_ireturn (by decide +kernel)) ?_
  trivial
def M_Mo_backTo : hM := (yX6_backTo, prog_8_method_51_code, 5, (some .int), 2, 43)
def code_Mo_backTo (K : hK) (B : Nat × Nat) (Q : hPost) : List hSem := [x_const 2 (-5), x_no, x_istore 3 2, x_aload 4 0, x_getfield 7 6 0, x_no, x_no, x_const 8 (0), x_iaload K 9, x_const 10 (1), x_isub 11, x_istore 12 3, x_iload 13 3, x_iflt 99 16, x_no, x_no, x_aload 17 0, x_getfield 20 6 13, x_no, x_no, x_iload 21 3, x_iaload K 22, x_ifle 46 25, x_no, x_no, x_aload 26 0, x_getfield 29 6 14, x_no, x_no, x_iload 30 3, x_iaload K 31, x_aload 32 0, x_getfield 35 6 14, x_no, x_no, x_iload 36 1, x_iaload K 37, x_const 38 (1), x_isub 39, x_icne 46 42, x_no, x_no, x_const 43 (1), x_goto 47, x_no, x_no, x_const 47 (0), x_istore 49 4, x_no, x_aload 50 0, x_getfield 53 6 13, x_no, x_no, x_iload 54 1, x_iaload K 55, x_const 56 (1), x_icle 91 59, x_no, x_no, x_iload 61 4, x_no, x_ifeq 91 64, x_no, x_no, x_aload 65 0, x_getfield 68 6 13, x_no, x_no, x_iload 69 1, x_iaload K 70, x_const 71 (3), x_iceq 87 74, x_no, x_no, x_aload 75 0, x_iload 76 1, x_const 77 (4), x_callV K 80 M_Mo_of 6 2, x_no, x_no, x_iload 81 3, x_callS K 84 M_Mo_has 2, x_no, x_no, x_ifeq 91 87, x_no, x_no, x_iload 88 3, x_goto 92, x_no, x_no, x_iload 92 2, x_istore 93 2, x_iinc 96 3 (-1), x_no, x_no, x_goto 12, x_no, x_no, x_iload 100 2, x_ireturn (some .int) Q]
set_option maxRecDepth 100000 in
set_option maxHeartbeats 4000000 in
theorem okc_Mo_backTo (K : hK) (B : Nat × Nat) (Q : hPost) : hAllOk (hJ K M_Mo_backTo B Q) 0 (code_Mo_backTo K B Q) := by
  refine hAllOk.c 0 (ok_bipush (n := -5) (by decide +kernel) (by decide +kernel) rfl) ?_
  refine hAllOk.c 1 (ok_no) ?_
  refine hAllOk.c 2 (ok_istore_n (f := 2) rfl (by decide) (by decide +kernel) rfl) ?_
  refine hAllOk.c 3 (ok_aload_n (f := 0) rfl (by decide +kernel) rfl) ?_
  refine hAllOk.c 4 (ok_getfield (idx := 7) (N := 16) (T := TX6) rfl inTb6 (by decide) rfl wd_t_602 (by decide +kernel) rfl) ?_
  refine hAllOk.c 5 (ok_no) ?_
  refine hAllOk.c 6 (ok_no) ?_
  refine hAllOk.c 7 (ok_iconst (n := 0) (by decide +kernel) (by decide +kernel) rfl) ?_
  refine hAllOk.c 8 (ok_iaload (by decide +kernel) rfl) ?_
  refine hAllOk.c 9 (ok_iconst (n := 1) (by decide +kernel) (by decide +kernel) rfl) ?_
  refine hAllOk.c 10 (ok_isub (by decide +kernel) rfl) ?_
  refine hAllOk.c 11 (ok_istore_n (f := 3) rfl (by decide) (by decide +kernel) rfl) ?_
  refine hAllOk.c 12 (ok_iload_n (f := 3) rfl (by decide +kernel) rfl) ?_
  refine hAllOk.c 13 (ok_iflt (off := 86) (by decide +kernel) (by decide +kernel) rfl) ?_
  refine hAllOk.c 14 (ok_no) ?_
  refine hAllOk.c 15 (ok_no) ?_
  refine hAllOk.c 16 (ok_aload_n (f := 0) rfl (by decide +kernel) rfl) ?_
  refine hAllOk.c 17 (ok_getfield (idx := 36) (N := 16) (T := TX6) rfl inTb6 (by decide) rfl wd_t_615 (by decide +kernel) rfl) ?_
  refine hAllOk.c 18 (ok_no) ?_
  refine hAllOk.c 19 (ok_no) ?_
  refine hAllOk.c 20 (ok_iload_n (f := 3) rfl (by decide +kernel) rfl) ?_
  refine hAllOk.c 21 (ok_iaload (by decide +kernel) rfl) ?_
  refine hAllOk.c 22 (ok_ifle (off := 24) (by decide +kernel) (by decide +kernel) rfl) ?_
  refine hAllOk.c 23 (ok_no) ?_
  refine hAllOk.c 24 (ok_no) ?_
  refine hAllOk.c 25 (ok_aload_n (f := 0) rfl (by decide +kernel) rfl) ?_
  refine hAllOk.c 26 (ok_getfield (idx := 39) (N := 16) (T := TX6) rfl inTb6 (by decide) rfl wd_t_616 (by decide +kernel) rfl) ?_
  refine hAllOk.c 27 (ok_no) ?_
  refine hAllOk.c 28 (ok_no) ?_
  refine hAllOk.c 29 (ok_iload_n (f := 3) rfl (by decide +kernel) rfl) ?_
  refine hAllOk.c 30 (ok_iaload (by decide +kernel) rfl) ?_
  refine hAllOk.c 31 (ok_aload_n (f := 0) rfl (by decide +kernel) rfl) ?_
  refine hAllOk.c 32 (ok_getfield (idx := 39) (N := 16) (T := TX6) rfl inTb6 (by decide) rfl wd_t_616 (by decide +kernel) rfl) ?_
  refine hAllOk.c 33 (ok_no) ?_
  refine hAllOk.c 34 (ok_no) ?_
  refine hAllOk.c 35 (ok_iload_n (f := 1) rfl (by decide +kernel) rfl) ?_
  refine hAllOk.c 36 (ok_iaload (by decide +kernel) rfl) ?_
  refine hAllOk.c 37 (ok_iconst (n := 1) (by decide +kernel) (by decide +kernel) rfl) ?_
  refine hAllOk.c 38 (ok_isub (by decide +kernel) rfl) ?_
  refine hAllOk.c 39 (ok_icne (off := 7) (by decide +kernel) (by decide +kernel) rfl) ?_
  refine hAllOk.c 40 (ok_no) ?_
  refine hAllOk.c 41 (ok_no) ?_
  refine hAllOk.c 42 (ok_iconst (n := 1) (by decide +kernel) (by decide +kernel) rfl) ?_
  refine hAllOk.c 43 (ok_goto (off := 4) (by decide +kernel) (by decide +kernel)) ?_
  refine hAllOk.c 44 (ok_no) ?_
  refine hAllOk.c 45 (ok_no) ?_
  refine hAllOk.c 46 (ok_iconst (n := 0) (by decide +kernel) (by decide +kernel) rfl) ?_
  refine hAllOk.c 47 (ok_istore (by decide) (by decide +kernel) rfl) ?_
  refine hAllOk.c 48 (ok_no) ?_
  refine hAllOk.c 49 (ok_aload_n (f := 0) rfl (by decide +kernel) rfl) ?_
  refine hAllOk.c 50 (ok_getfield (idx := 36) (N := 16) (T := TX6) rfl inTb6 (by decide) rfl wd_t_615 (by decide +kernel) rfl) ?_
  refine hAllOk.c 51 (ok_no) ?_
  refine hAllOk.c 52 (ok_no) ?_
  refine hAllOk.c 53 (ok_iload_n (f := 1) rfl (by decide +kernel) rfl) ?_
  refine hAllOk.c 54 (ok_iaload (by decide +kernel) rfl) ?_
  refine hAllOk.c 55 (ok_iconst (n := 1) (by decide +kernel) (by decide +kernel) rfl) ?_
  refine hAllOk.c 56 (ok_icle (off := 35) (by decide +kernel) (by decide +kernel) rfl) ?_
  refine hAllOk.c 57 (ok_no) ?_
  refine hAllOk.c 58 (ok_no) ?_
  refine hAllOk.c 59 (ok_iload (by decide +kernel) rfl) ?_
  refine hAllOk.c 60 (ok_no) ?_
  refine hAllOk.c 61 (ok_ifeq (off := 30) (by decide +kernel) (by decide +kernel) rfl) ?_
  refine hAllOk.c 62 (ok_no) ?_
  refine hAllOk.c 63 (ok_no) ?_
  refine hAllOk.c 64 (ok_aload_n (f := 0) rfl (by decide +kernel) rfl) ?_
  refine hAllOk.c 65 (ok_getfield (idx := 36) (N := 16) (T := TX6) rfl inTb6 (by decide) rfl wd_t_615 (by decide +kernel) rfl) ?_
  refine hAllOk.c 66 (ok_no) ?_
  refine hAllOk.c 67 (ok_no) ?_
  refine hAllOk.c 68 (ok_iload_n (f := 1) rfl (by decide +kernel) rfl) ?_
  refine hAllOk.c 69 (ok_iaload (by decide +kernel) rfl) ?_
  refine hAllOk.c 70 (ok_iconst (n := 3) (by decide +kernel) (by decide +kernel) rfl) ?_
  refine hAllOk.c 71 (ok_iceq (off := 16) (by decide +kernel) (by decide +kernel) rfl) ?_
  refine hAllOk.c 72 (ok_no) ?_
  refine hAllOk.c 73 (ok_no) ?_
  refine hAllOk.c 74 (ok_aload_n (f := 0) rfl (by decide +kernel) rfl) ?_
  refine hAllOk.c 75 (ok_iload_n (f := 1) rfl (by decide +kernel) rfl) ?_
  refine hAllOk.c 76 (ok_iconst (n := 4) (by decide +kernel) (by decide +kernel) rfl) ?_
  refine hAllOk.c 77 (ok_callV (idx := 84) ⟨wd_t_743, wd_t_7, by decide +kernel, by decide +kernel⟩ rfl rfl wd_t_740 wd_t_742 wd_s_64 (by decide +kernel) rfl) ?_
  refine hAllOk.c 78 (ok_no) ?_
  refine hAllOk.c 79 (ok_no) ?_
  refine hAllOk.c 80 (ok_iload_n (f := 3) rfl (by decide +kernel) rfl) ?_
  refine hAllOk.c 81 (ok_callS (idx := 81) ⟨wd_t_715, wd_t_7, by decide +kernel, by decide +kernel⟩ wd_t_713 wd_t_714 (by decide +kernel) rfl) ?_
  refine hAllOk.c 82 (ok_no) ?_
  refine hAllOk.c 83 (ok_no) ?_
  refine hAllOk.c 84 (ok_ifeq (off := 7) (by decide +kernel) (by decide +kernel) rfl) ?_
  refine hAllOk.c 85 (ok_no) ?_
  refine hAllOk.c 86 (ok_no) ?_
  refine hAllOk.c 87 (ok_iload_n (f := 3) rfl (by decide +kernel) rfl) ?_
  refine hAllOk.c 88 (ok_goto (off := 4) (by decide +kernel) (by decide +kernel)) ?_
  refine hAllOk.c 89 (ok_no) ?_
  refine hAllOk.c 90 (ok_no) ?_
  refine hAllOk.c 91 (ok_iload_n (f := 2) rfl (by decide +kernel) rfl) ?_
  refine hAllOk.c 92 (ok_istore_n (f := 2) rfl (by decide) (by decide +kernel) rfl) ?_
  refine hAllOk.c 93 (ok_iinc (n := -1) (by decide +kernel) (by decide) (by decide +kernel) rfl) ?_
  refine hAllOk.c 94 (ok_no) ?_
  refine hAllOk.c 95 (ok_no) ?_
  refine hAllOk.c 96 (ok_goto (off := (-84)) (by decide +kernel) (by decide +kernel)) ?_
  refine hAllOk.c 97 (ok_no) ?_
  refine hAllOk.c 98 (ok_no) ?_
  refine hAllOk.c 99 (ok_iload_n (f := 2) rfl (by decide +kernel) rfl) ?_
  refine hAllOk.c 100 (ok_ireturn (by decide +kernel)) ?_
  trivial
theorem wd_t_844 : Cond.methodLink RX6 151 yX6_backTo ∈ hTb := hTb_t (List.mem_of_getElem? (i := 844) (by decide +kernel)) (by decide +kernel)
theorem wd_t_847 : Cond.code yX6_backTo prog_8_method_51_code 5 (some .int) ∈ hTb := hTb_t (List.mem_of_getElem? (i := 847) (by decide +kernel)) (by decide +kernel)
theorem wd_t_846 : Cond.instanceMethod yX6_backTo ∈ hTb := hTb_t (List.mem_of_getElem? (i := 846) (by decide +kernel)) (by decide +kernel)
theorem wd_s_73 : Cond.selects RX6 yX6_backTo yX6_backTo ∈ hTb := hTb_s (List.mem_of_getElem? (i := 73) (by decide +kernel)) (by decide +kernel)
def M_Mo_why : hM := (yX6_why, prog_8_method_52_code, 5, (some .int), 4, 89)
def code_Mo_why (K : hK) (B : Nat × Nat) (Q : hPost) : List hSem := [x_aload 1 0, x_iload 2 1, x_callV K 5 M_Mo_isGuest 6 1, x_no, x_no, x_ifne 10 8, x_no, x_no, x_const 9 (-1), x_ireturn (some .int) Q, x_iload 11 2, x_const 12 (0), x_const 13 (4), x_callS K 16 M_Mo_in 3, x_no, x_no, x_ifne 22 19, x_no, x_no, x_const 21 (-2), x_no, x_ireturn (some .int) Q, x_aload 23 0, x_callV K 26 M_Mo_greatest 6 0, x_no, x_no, x_pop 27, x_iload 28 2, x_ifeq 40 31, x_no, x_no, x_aload 32 0, x_getfield 35 6 13, x_no, x_no, x_iload 36 1, x_iaload K 37, x_ifne 56 40, x_no, x_no, x_iload 41 2, x_ifne 53 44, x_no, x_no, x_aload 45 0, x_getfield 48 6 13, x_no, x_no, x_iload 49 1, x_iaload K 50, x_goto 55, x_no, x_no, x_const 55 (-5), x_no, x_ireturn (some .int) Q, x_const 57 (1), x_istore 58 3, x_iload 59 1, x_istore 61 4, x_no, x_aload 62 0, x_iload 64 4, x_no, x_callV K 67 M_Mo_backTo 6 1, x_no, x_no, x_iflt 84 70, x_no, x_no, x_aload 71 0, x_iload 73 4, x_no, x_callV K 76 M_Mo_backTo 6 1, x_no, x_no, x_istore 78 4, x_no, x_iinc 81 3 (1), x_no, x_no, x_goto 61, x_no, x_no, x_iload 85 2, x_const 86 (1), x_icne 98 89, x_no, x_no, x_aload 90 0, x_getfield 93 6 14, x_no, x_no, x_iload 94 1, x_iaload K 95, x_goto 122, x_no, x_no, x_iload 99 2, x_const 100 (2), x_icne 111 103, x_no, x_no, x_aload 104 0, x_iload 105 1, x_callV K 108 M_Mo_backTo 6 1, x_no, x_no, x_goto 122, x_no, x_no, x_iload 112 2, x_const 113 (3), x_icne 120 116, x_no, x_no, x_iload 117 3, x_goto 122, x_no, x_no, x_iload 122 4, x_no, x_ireturn (some .int) Q]
set_option maxRecDepth 100000 in
set_option maxHeartbeats 4000000 in
theorem okc_Mo_why (K : hK) (B : Nat × Nat) (Q : hPost) : hAllOk (hJ K M_Mo_why B Q) 0 (code_Mo_why K B Q) := by
  refine hAllOk.c 0 (ok_aload_n (f := 0) rfl (by decide +kernel) rfl) ?_
  refine hAllOk.c 1 (ok_iload_n (f := 1) rfl (by decide +kernel) rfl) ?_
  refine hAllOk.c 2 (ok_callV (idx := 123) ⟨wd_t_681, wd_t_7, by decide +kernel, by decide +kernel⟩ rfl rfl wd_t_678 wd_t_680 wd_s_53 (by decide +kernel) rfl) ?_
  refine hAllOk.c 3 (ok_no) ?_
  refine hAllOk.c 4 (ok_no) ?_
  refine hAllOk.c 5 (ok_ifne (off := 5) (by decide +kernel) (by decide +kernel) rfl) ?_
  refine hAllOk.c 6 (ok_no) ?_
  refine hAllOk.c 7 (ok_no) ?_
  refine hAllOk.c 8 (ok_iconst (n := -1) (by decide +kernel) (by decide +kernel) rfl) ?_
  refine hAllOk.c 9 (ok_ireturn (by decide +kernel)) ?_
  refine hAllOk.c 10 (ok_iload_n (f := 2) rfl (by decide +kernel) rfl) ?_
  refine hAllOk.c 11 (ok_iconst (n := 0) (by decide +kernel) (by decide +kernel) rfl) ?_
  refine hAllOk.c 12 (ok_iconst (n := 4) (by decide +kernel) (by decide +kernel) rfl) ?_
  refine hAllOk.c 13 (ok_callS (idx := 46) ⟨wd_t_658, wd_t_7, by decide +kernel, by decide +kernel⟩ wd_t_656 wd_t_657 (by decide +kernel) rfl) ?_
  refine hAllOk.c 14 (ok_no) ?_
  refine hAllOk.c 15 (ok_no) ?_
  refine hAllOk.c 16 (ok_ifne (off := 6) (by decide +kernel) (by decide +kernel) rfl) ?_
  refine hAllOk.c 17 (ok_no) ?_
  refine hAllOk.c 18 (ok_no) ?_
  refine hAllOk.c 19 (ok_bipush (n := -2) (by decide +kernel) (by decide +kernel) rfl) ?_
  refine hAllOk.c 20 (ok_no) ?_
  refine hAllOk.c 21 (ok_ireturn (by decide +kernel)) ?_
  refine hAllOk.c 22 (ok_aload_n (f := 0) rfl (by decide +kernel) rfl) ?_
  refine hAllOk.c 23 (ok_callV (idx := 100) ⟨wd_t_763, wd_t_7, by decide +kernel, by decide +kernel⟩ rfl rfl wd_t_760 wd_t_762 wd_s_66 (by decide +kernel) rfl) ?_
  refine hAllOk.c 24 (ok_no) ?_
  refine hAllOk.c 25 (ok_no) ?_
  refine hAllOk.c 26 (ok_pop (by decide +kernel) rfl) ?_
  refine hAllOk.c 27 (ok_iload_n (f := 2) rfl (by decide +kernel) rfl) ?_
  refine hAllOk.c 28 (ok_ifeq (off := 12) (by decide +kernel) (by decide +kernel) rfl) ?_
  refine hAllOk.c 29 (ok_no) ?_
  refine hAllOk.c 30 (ok_no) ?_
  refine hAllOk.c 31 (ok_aload_n (f := 0) rfl (by decide +kernel) rfl) ?_
  refine hAllOk.c 32 (ok_getfield (idx := 36) (N := 16) (T := TX6) rfl inTb6 (by decide) rfl wd_t_615 (by decide +kernel) rfl) ?_
  refine hAllOk.c 33 (ok_no) ?_
  refine hAllOk.c 34 (ok_no) ?_
  refine hAllOk.c 35 (ok_iload_n (f := 1) rfl (by decide +kernel) rfl) ?_
  refine hAllOk.c 36 (ok_iaload (by decide +kernel) rfl) ?_
  refine hAllOk.c 37 (ok_ifne (off := 19) (by decide +kernel) (by decide +kernel) rfl) ?_
  refine hAllOk.c 38 (ok_no) ?_
  refine hAllOk.c 39 (ok_no) ?_
  refine hAllOk.c 40 (ok_iload_n (f := 2) rfl (by decide +kernel) rfl) ?_
  refine hAllOk.c 41 (ok_ifne (off := 12) (by decide +kernel) (by decide +kernel) rfl) ?_
  refine hAllOk.c 42 (ok_no) ?_
  refine hAllOk.c 43 (ok_no) ?_
  refine hAllOk.c 44 (ok_aload_n (f := 0) rfl (by decide +kernel) rfl) ?_
  refine hAllOk.c 45 (ok_getfield (idx := 36) (N := 16) (T := TX6) rfl inTb6 (by decide) rfl wd_t_615 (by decide +kernel) rfl) ?_
  refine hAllOk.c 46 (ok_no) ?_
  refine hAllOk.c 47 (ok_no) ?_
  refine hAllOk.c 48 (ok_iload_n (f := 1) rfl (by decide +kernel) rfl) ?_
  refine hAllOk.c 49 (ok_iaload (by decide +kernel) rfl) ?_
  refine hAllOk.c 50 (ok_goto (off := 5) (by decide +kernel) (by decide +kernel)) ?_
  refine hAllOk.c 51 (ok_no) ?_
  refine hAllOk.c 52 (ok_no) ?_
  refine hAllOk.c 53 (ok_bipush (n := -5) (by decide +kernel) (by decide +kernel) rfl) ?_
  refine hAllOk.c 54 (ok_no) ?_
  refine hAllOk.c 55 (ok_ireturn (by decide +kernel)) ?_
  refine hAllOk.c 56 (ok_iconst (n := 1) (by decide +kernel) (by decide +kernel) rfl) ?_
  refine hAllOk.c 57 (ok_istore_n (f := 3) rfl (by decide) (by decide +kernel) rfl) ?_
  refine hAllOk.c 58 (ok_iload_n (f := 1) rfl (by decide +kernel) rfl) ?_
  refine hAllOk.c 59 (ok_istore (by decide) (by decide +kernel) rfl) ?_
  refine hAllOk.c 60 (ok_no) ?_
  refine hAllOk.c 61 (ok_aload_n (f := 0) rfl (by decide +kernel) rfl) ?_
  refine hAllOk.c 62 (ok_iload (by decide +kernel) rfl) ?_
  refine hAllOk.c 63 (ok_no) ?_
  refine hAllOk.c 64 (ok_callV (idx := 151) ⟨wd_t_847, wd_t_7, by decide +kernel, by decide +kernel⟩ rfl rfl wd_t_844 wd_t_846 wd_s_73 (by decide +kernel) rfl) ?_
  refine hAllOk.c 65 (ok_no) ?_
  refine hAllOk.c 66 (ok_no) ?_
  refine hAllOk.c 67 (ok_iflt (off := 17) (by decide +kernel) (by decide +kernel) rfl) ?_
  refine hAllOk.c 68 (ok_no) ?_
  refine hAllOk.c 69 (ok_no) ?_
  refine hAllOk.c 70 (ok_aload_n (f := 0) rfl (by decide +kernel) rfl) ?_
  refine hAllOk.c 71 (ok_iload (by decide +kernel) rfl) ?_
  refine hAllOk.c 72 (ok_no) ?_
  refine hAllOk.c 73 (ok_callV (idx := 151) ⟨wd_t_847, wd_t_7, by decide +kernel, by decide +kernel⟩ rfl rfl wd_t_844 wd_t_846 wd_s_73 (by decide +kernel) rfl) ?_
  refine hAllOk.c 74 (ok_no) ?_
  refine hAllOk.c 75 (ok_no) ?_
  refine hAllOk.c 76 (ok_istore (by decide) (by decide +kernel) rfl) ?_
  refine hAllOk.c 77 (ok_no) ?_
  refine hAllOk.c 78 (ok_iinc (n := 1) (by decide +kernel) (by decide) (by decide +kernel) rfl) ?_
  refine hAllOk.c 79 (ok_no) ?_
  refine hAllOk.c 80 (ok_no) ?_
  refine hAllOk.c 81 (ok_goto (off := (-20)) (by decide +kernel) (by decide +kernel)) ?_
  refine hAllOk.c 82 (ok_no) ?_
  refine hAllOk.c 83 (ok_no) ?_
  refine hAllOk.c 84 (ok_iload_n (f := 2) rfl (by decide +kernel) rfl) ?_
  refine hAllOk.c 85 (ok_iconst (n := 1) (by decide +kernel) (by decide +kernel) rfl) ?_
  refine hAllOk.c 86 (ok_icne (off := 12) (by decide +kernel) (by decide +kernel) rfl) ?_
  refine hAllOk.c 87 (ok_no) ?_
  refine hAllOk.c 88 (ok_no) ?_
  refine hAllOk.c 89 (ok_aload_n (f := 0) rfl (by decide +kernel) rfl) ?_
  refine hAllOk.c 90 (ok_getfield (idx := 39) (N := 16) (T := TX6) rfl inTb6 (by decide) rfl wd_t_616 (by decide +kernel) rfl) ?_
  refine hAllOk.c 91 (ok_no) ?_
  refine hAllOk.c 92 (ok_no) ?_
  refine hAllOk.c 93 (ok_iload_n (f := 1) rfl (by decide +kernel) rfl) ?_
  refine hAllOk.c 94 (ok_iaload (by decide +kernel) rfl) ?_
  refine hAllOk.c 95 (ok_goto (off := 27) (by decide +kernel) (by decide +kernel)) ?_
  refine hAllOk.c 96 (ok_no) ?_
  refine hAllOk.c 97 (ok_no) ?_
  refine hAllOk.c 98 (ok_iload_n (f := 2) rfl (by decide +kernel) rfl) ?_
  refine hAllOk.c 99 (ok_iconst (n := 2) (by decide +kernel) (by decide +kernel) rfl) ?_
  refine hAllOk.c 100 (ok_icne (off := 11) (by decide +kernel) (by decide +kernel) rfl) ?_
  refine hAllOk.c 101 (ok_no) ?_
  refine hAllOk.c 102 (ok_no) ?_
  refine hAllOk.c 103 (ok_aload_n (f := 0) rfl (by decide +kernel) rfl) ?_
  refine hAllOk.c 104 (ok_iload_n (f := 1) rfl (by decide +kernel) rfl) ?_
  refine hAllOk.c 105 (ok_callV (idx := 151) ⟨wd_t_847, wd_t_7, by decide +kernel, by decide +kernel⟩ rfl rfl wd_t_844 wd_t_846 wd_s_73 (by decide +kernel) rfl) ?_
  refine hAllOk.c 106 (ok_no) ?_
  refine hAllOk.c 107 (ok_no) ?_
  refine hAllOk.c 108 (ok_goto (off := 14) (by decide +kernel) (by decide +kernel)) ?_
  refine hAllOk.c 109 (ok_no) ?_
  refine hAllOk.c 110 (ok_no) ?_
  refine hAllOk.c 111 (ok_iload_n (f := 2) rfl (by decide +kernel) rfl) ?_
  refine hAllOk.c 112 (ok_iconst (n := 3) (by decide +kernel) (by decide +kernel) rfl) ?_
  refine hAllOk.c 113 (ok_icne (off := 7) (by decide +kernel) (by decide +kernel) rfl) ?_
  refine hAllOk.c 114 (ok_no) ?_
  refine hAllOk.c 115 (ok_no) ?_
  refine hAllOk.c 116 (ok_iload_n (f := 3) rfl (by decide +kernel) rfl) ?_
  refine hAllOk.c 117 (ok_goto (off := 5) (by decide +kernel) (by decide +kernel)) ?_
  refine hAllOk.c 118 (ok_no) ?_
  refine hAllOk.c 119 (ok_no) ?_
  refine hAllOk.c 120 (ok_iload (by decide +kernel) rfl) ?_
  refine hAllOk.c 121 (ok_no) ?_
  refine hAllOk.c 122 (ok_ireturn (by decide +kernel)) ?_
  trivial
def M_Mo_rounds : hM := (yX6_rounds, prog_8_method_53_code, 1, (some .int), 4, 89)
def code_Mo_rounds (K : hK) (B : Nat × Nat) (Q : hPost) : List hSem := [x_aload 1 0, x_callV K 4 M_Mo_greatest 6 0, x_no, x_no, x_pop 5, x_aload 6 0, x_getfield 9 6 15, x_no, x_no, x_ireturn (some .int) Q]
set_option maxRecDepth 100000 in
set_option maxHeartbeats 4000000 in
theorem okc_Mo_rounds (K : hK) (B : Nat × Nat) (Q : hPost) : hAllOk (hJ K M_Mo_rounds B Q) 0 (code_Mo_rounds K B Q) := by
  refine hAllOk.c 0 (ok_aload_n (f := 0) rfl (by decide +kernel) rfl) ?_
  refine hAllOk.c 1 (ok_callV (idx := 100) ⟨wd_t_763, wd_t_7, by decide +kernel, by decide +kernel⟩ rfl rfl wd_t_760 wd_t_762 wd_s_66 (by decide +kernel) rfl) ?_
  refine hAllOk.c 2 (ok_no) ?_
  refine hAllOk.c 3 (ok_no) ?_
  refine hAllOk.c 4 (ok_pop (by decide +kernel) rfl) ?_
  refine hAllOk.c 5 (ok_aload_n (f := 0) rfl (by decide +kernel) rfl) ?_
  refine hAllOk.c 6 (ok_getfield (idx := 97) (N := 16) (T := TX6) rfl inTb6 (by decide) rfl wd_t_617 (by decide +kernel) rfl) ?_
  refine hAllOk.c 7 (ok_no) ?_
  refine hAllOk.c 8 (ok_no) ?_
  refine hAllOk.c 9 (ok_ireturn (by decide +kernel)) ?_
  trivial
def M_Mo_needs : hM := (yX6_needs, prog_8_method_54_code, 4, (some .int), 2, 43)
def code_Mo_needs (K : hK) (B : Nat × Nat) (Q : hPost) : List hSem := [x_aload 1 0, x_iload 2 1, x_callV K 5 M_Mo_isGuest 6 1, x_no, x_no, x_ifne 10 8, x_no, x_no, x_const 9 (-1), x_ireturn (some .int) Q, x_const 12 (-5), x_no, x_istore 13 2, x_const 14 (0), x_istore 15 3, x_iload 16 3, x_aload 17 0, x_callV K 20 M_Mo_all 6 0, x_no, x_no, x_icgt 59 23, x_no, x_no, x_aload 24 0, x_iload 25 1, x_iload 26 3, x_callV K 29 M_Mo_isMet 6 2, x_no, x_no, x_ifeq 51 32, x_no, x_no, x_iload 33 2, x_iflt 44 36, x_no, x_no, x_iload 37 3, x_callS K 40 M_Mo_ones 1, x_no, x_no, x_iload 41 2, x_icge 51 44, x_no, x_no, x_iload 45 3, x_callS K 48 M_Mo_ones 1, x_no, x_no, x_goto 52, x_no, x_no, x_iload 52 2, x_istore 53 2, x_iinc 56 3 (1), x_no, x_no, x_goto 15, x_no, x_no, x_iload 60 2, x_ireturn (some .int) Q]
set_option maxRecDepth 100000 in
set_option maxHeartbeats 4000000 in
theorem okc_Mo_needs (K : hK) (B : Nat × Nat) (Q : hPost) : hAllOk (hJ K M_Mo_needs B Q) 0 (code_Mo_needs K B Q) := by
  refine hAllOk.c 0 (ok_aload_n (f := 0) rfl (by decide +kernel) rfl) ?_
  refine hAllOk.c 1 (ok_iload_n (f := 1) rfl (by decide +kernel) rfl) ?_
  refine hAllOk.c 2 (ok_callV (idx := 123) ⟨wd_t_681, wd_t_7, by decide +kernel, by decide +kernel⟩ rfl rfl wd_t_678 wd_t_680 wd_s_53 (by decide +kernel) rfl) ?_
  refine hAllOk.c 3 (ok_no) ?_
  refine hAllOk.c 4 (ok_no) ?_
  refine hAllOk.c 5 (ok_ifne (off := 5) (by decide +kernel) (by decide +kernel) rfl) ?_
  refine hAllOk.c 6 (ok_no) ?_
  refine hAllOk.c 7 (ok_no) ?_
  refine hAllOk.c 8 (ok_iconst (n := -1) (by decide +kernel) (by decide +kernel) rfl) ?_
  refine hAllOk.c 9 (ok_ireturn (by decide +kernel)) ?_
  refine hAllOk.c 10 (ok_bipush (n := -5) (by decide +kernel) (by decide +kernel) rfl) ?_
  refine hAllOk.c 11 (ok_no) ?_
  refine hAllOk.c 12 (ok_istore_n (f := 2) rfl (by decide) (by decide +kernel) rfl) ?_
  refine hAllOk.c 13 (ok_iconst (n := 0) (by decide +kernel) (by decide +kernel) rfl) ?_
  refine hAllOk.c 14 (ok_istore_n (f := 3) rfl (by decide) (by decide +kernel) rfl) ?_
  refine hAllOk.c 15 (ok_iload_n (f := 3) rfl (by decide +kernel) rfl) ?_
  refine hAllOk.c 16 (ok_aload_n (f := 0) rfl (by decide +kernel) rfl) ?_
  refine hAllOk.c 17 (ok_callV (idx := 103) ⟨wd_t_701, wd_t_7, by decide +kernel, by decide +kernel⟩ rfl rfl wd_t_698 wd_t_700 wd_s_58 (by decide +kernel) rfl) ?_
  refine hAllOk.c 18 (ok_no) ?_
  refine hAllOk.c 19 (ok_no) ?_
  refine hAllOk.c 20 (ok_icgt (off := 39) (by decide +kernel) (by decide +kernel) rfl) ?_
  refine hAllOk.c 21 (ok_no) ?_
  refine hAllOk.c 22 (ok_no) ?_
  refine hAllOk.c 23 (ok_aload_n (f := 0) rfl (by decide +kernel) rfl) ?_
  refine hAllOk.c 24 (ok_iload_n (f := 1) rfl (by decide +kernel) rfl) ?_
  refine hAllOk.c 25 (ok_iload_n (f := 3) rfl (by decide +kernel) rfl) ?_
  refine hAllOk.c 26 (ok_callV (idx := 87) ⟨wd_t_767, wd_t_7, by decide +kernel, by decide +kernel⟩ rfl rfl wd_t_764 wd_t_766 wd_s_67 (by decide +kernel) rfl) ?_
  refine hAllOk.c 27 (ok_no) ?_
  refine hAllOk.c 28 (ok_no) ?_
  refine hAllOk.c 29 (ok_ifeq (off := 22) (by decide +kernel) (by decide +kernel) rfl) ?_
  refine hAllOk.c 30 (ok_no) ?_
  refine hAllOk.c 31 (ok_no) ?_
  refine hAllOk.c 32 (ok_iload_n (f := 2) rfl (by decide +kernel) rfl) ?_
  refine hAllOk.c 33 (ok_iflt (off := 11) (by decide +kernel) (by decide +kernel) rfl) ?_
  refine hAllOk.c 34 (ok_no) ?_
  refine hAllOk.c 35 (ok_no) ?_
  refine hAllOk.c 36 (ok_iload_n (f := 3) rfl (by decide +kernel) rfl) ?_
  refine hAllOk.c 37 (ok_callS (idx := 78) ⟨wd_t_712, wd_t_7, by decide +kernel, by decide +kernel⟩ wd_t_710 wd_t_711 (by decide +kernel) rfl) ?_
  refine hAllOk.c 38 (ok_no) ?_
  refine hAllOk.c 39 (ok_no) ?_
  refine hAllOk.c 40 (ok_iload_n (f := 2) rfl (by decide +kernel) rfl) ?_
  refine hAllOk.c 41 (ok_icge (off := 10) (by decide +kernel) (by decide +kernel) rfl) ?_
  refine hAllOk.c 42 (ok_no) ?_
  refine hAllOk.c 43 (ok_no) ?_
  refine hAllOk.c 44 (ok_iload_n (f := 3) rfl (by decide +kernel) rfl) ?_
  refine hAllOk.c 45 (ok_callS (idx := 78) ⟨wd_t_712, wd_t_7, by decide +kernel, by decide +kernel⟩ wd_t_710 wd_t_711 (by decide +kernel) rfl) ?_
  refine hAllOk.c 46 (ok_no) ?_
  refine hAllOk.c 47 (ok_no) ?_
  refine hAllOk.c 48 (ok_goto (off := 4) (by decide +kernel) (by decide +kernel)) ?_
  refine hAllOk.c 49 (ok_no) ?_
  refine hAllOk.c 50 (ok_no) ?_
  refine hAllOk.c 51 (ok_iload_n (f := 2) rfl (by decide +kernel) rfl) ?_
  refine hAllOk.c 52 (ok_istore_n (f := 2) rfl (by decide) (by decide +kernel) rfl) ?_
  refine hAllOk.c 53 (ok_iinc (n := 1) (by decide +kernel) (by decide) (by decide +kernel) rfl) ?_
  refine hAllOk.c 54 (ok_no) ?_
  refine hAllOk.c 55 (ok_no) ?_
  refine hAllOk.c 56 (ok_goto (off := (-41)) (by decide +kernel) (by decide +kernel)) ?_
  refine hAllOk.c 57 (ok_no) ?_
  refine hAllOk.c 58 (ok_no) ?_
  refine hAllOk.c 59 (ok_iload_n (f := 2) rfl (by decide +kernel) rfl) ?_
  refine hAllOk.c 60 (ok_ireturn (by decide +kernel)) ?_
  trivial
def M_Mo_weightOf : hM := (yX6_weightOf, prog_8_method_55_code, 4, (some .int), 4, 89)
def code_Mo_weightOf (K : hK) (B : Nat × Nat) (Q : hPost) : List hSem := [x_aload 1 0, x_iload 2 1, x_callV K 5 M_Mo_isGuest 6 1, x_no, x_no, x_ifne 10 8, x_no, x_no, x_const 9 (-1), x_ireturn (some .int) Q, x_aload 11 0, x_iload 12 1, x_const 13 (2), x_callV K 16 M_Mo_of 6 2, x_no, x_no, x_ifne 22 19, x_no, x_no, x_const 21 (-5), x_no, x_ireturn (some .int) Q, x_aload 23 0, x_callV K 26 M_Mo_greatest 6 0, x_no, x_no, x_callS K 29 M_Mo_ones 1, x_no, x_no, x_istore 30 2, x_aload 31 0, x_getfield 34 6 0, x_no, x_no, x_iload 35 1, x_const 36 (2), x_callS K 39 M_Mo_at 2, x_no, x_no, x_const 40 (0), x_iastore K 41, x_aload 42 0, x_callV K 45 M_Mo_greatest 6 0, x_no, x_no, x_callS K 48 M_Mo_ones 1, x_no, x_no, x_istore 49 3, x_aload 50 0, x_getfield 53 6 0, x_no, x_no, x_iload 54 1, x_const 55 (2), x_callS K 58 M_Mo_at 2, x_no, x_no, x_const 59 (1), x_iastore K 60, x_iload 61 2, x_iload 62 3, x_isub 63, x_ireturn (some .int) Q]
set_option maxRecDepth 100000 in
set_option maxHeartbeats 4000000 in
theorem okc_Mo_weightOf (K : hK) (B : Nat × Nat) (Q : hPost) : hAllOk (hJ K M_Mo_weightOf B Q) 0 (code_Mo_weightOf K B Q) := by
  refine hAllOk.c 0 (ok_aload_n (f := 0) rfl (by decide +kernel) rfl) ?_
  refine hAllOk.c 1 (ok_iload_n (f := 1) rfl (by decide +kernel) rfl) ?_
  refine hAllOk.c 2 (ok_callV (idx := 123) ⟨wd_t_681, wd_t_7, by decide +kernel, by decide +kernel⟩ rfl rfl wd_t_678 wd_t_680 wd_s_53 (by decide +kernel) rfl) ?_
  refine hAllOk.c 3 (ok_no) ?_
  refine hAllOk.c 4 (ok_no) ?_
  refine hAllOk.c 5 (ok_ifne (off := 5) (by decide +kernel) (by decide +kernel) rfl) ?_
  refine hAllOk.c 6 (ok_no) ?_
  refine hAllOk.c 7 (ok_no) ?_
  refine hAllOk.c 8 (ok_iconst (n := -1) (by decide +kernel) (by decide +kernel) rfl) ?_
  refine hAllOk.c 9 (ok_ireturn (by decide +kernel)) ?_
  refine hAllOk.c 10 (ok_aload_n (f := 0) rfl (by decide +kernel) rfl) ?_
  refine hAllOk.c 11 (ok_iload_n (f := 1) rfl (by decide +kernel) rfl) ?_
  refine hAllOk.c 12 (ok_iconst (n := 2) (by decide +kernel) (by decide +kernel) rfl) ?_
  refine hAllOk.c 13 (ok_callV (idx := 84) ⟨wd_t_743, wd_t_7, by decide +kernel, by decide +kernel⟩ rfl rfl wd_t_740 wd_t_742 wd_s_64 (by decide +kernel) rfl) ?_
  refine hAllOk.c 14 (ok_no) ?_
  refine hAllOk.c 15 (ok_no) ?_
  refine hAllOk.c 16 (ok_ifne (off := 6) (by decide +kernel) (by decide +kernel) rfl) ?_
  refine hAllOk.c 17 (ok_no) ?_
  refine hAllOk.c 18 (ok_no) ?_
  refine hAllOk.c 19 (ok_bipush (n := -5) (by decide +kernel) (by decide +kernel) rfl) ?_
  refine hAllOk.c 20 (ok_no) ?_
  refine hAllOk.c 21 (ok_ireturn (by decide +kernel)) ?_
  refine hAllOk.c 22 (ok_aload_n (f := 0) rfl (by decide +kernel) rfl) ?_
  refine hAllOk.c 23 (ok_callV (idx := 100) ⟨wd_t_763, wd_t_7, by decide +kernel, by decide +kernel⟩ rfl rfl wd_t_760 wd_t_762 wd_s_66 (by decide +kernel) rfl) ?_
  refine hAllOk.c 24 (ok_no) ?_
  refine hAllOk.c 25 (ok_no) ?_
  refine hAllOk.c 26 (ok_callS (idx := 78) ⟨wd_t_712, wd_t_7, by decide +kernel, by decide +kernel⟩ wd_t_710 wd_t_711 (by decide +kernel) rfl) ?_
  refine hAllOk.c 27 (ok_no) ?_
  refine hAllOk.c 28 (ok_no) ?_
  refine hAllOk.c 29 (ok_istore_n (f := 2) rfl (by decide) (by decide +kernel) rfl) ?_
  refine hAllOk.c 30 (ok_aload_n (f := 0) rfl (by decide +kernel) rfl) ?_
  refine hAllOk.c 31 (ok_getfield (idx := 7) (N := 16) (T := TX6) rfl inTb6 (by decide) rfl wd_t_602 (by decide +kernel) rfl) ?_
  refine hAllOk.c 32 (ok_no) ?_
  refine hAllOk.c 33 (ok_no) ?_
  refine hAllOk.c 34 (ok_iload_n (f := 1) rfl (by decide +kernel) rfl) ?_
  refine hAllOk.c 35 (ok_iconst (n := 2) (by decide +kernel) (by decide +kernel) rfl) ?_
  refine hAllOk.c 36 (ok_callS (idx := 50) ⟨wd_t_669, wd_t_7, by decide +kernel, by decide +kernel⟩ wd_t_667 wd_t_668 (by decide +kernel) rfl) ?_
  refine hAllOk.c 37 (ok_no) ?_
  refine hAllOk.c 38 (ok_no) ?_
  refine hAllOk.c 39 (ok_iconst (n := 0) (by decide +kernel) (by decide +kernel) rfl) ?_
  refine hAllOk.c 40 (ok_iastore (by decide +kernel) rfl) ?_
  refine hAllOk.c 41 (ok_aload_n (f := 0) rfl (by decide +kernel) rfl) ?_
  refine hAllOk.c 42 (ok_callV (idx := 100) ⟨wd_t_763, wd_t_7, by decide +kernel, by decide +kernel⟩ rfl rfl wd_t_760 wd_t_762 wd_s_66 (by decide +kernel) rfl) ?_
  refine hAllOk.c 43 (ok_no) ?_
  refine hAllOk.c 44 (ok_no) ?_
  refine hAllOk.c 45 (ok_callS (idx := 78) ⟨wd_t_712, wd_t_7, by decide +kernel, by decide +kernel⟩ wd_t_710 wd_t_711 (by decide +kernel) rfl) ?_
  refine hAllOk.c 46 (ok_no) ?_
  refine hAllOk.c 47 (ok_no) ?_
  refine hAllOk.c 48 (ok_istore_n (f := 3) rfl (by decide) (by decide +kernel) rfl) ?_
  refine hAllOk.c 49 (ok_aload_n (f := 0) rfl (by decide +kernel) rfl) ?_
  refine hAllOk.c 50 (ok_getfield (idx := 7) (N := 16) (T := TX6) rfl inTb6 (by decide) rfl wd_t_602 (by decide +kernel) rfl) ?_
  refine hAllOk.c 51 (ok_no) ?_
  refine hAllOk.c 52 (ok_no) ?_
  refine hAllOk.c 53 (ok_iload_n (f := 1) rfl (by decide +kernel) rfl) ?_
  refine hAllOk.c 54 (ok_iconst (n := 2) (by decide +kernel) (by decide +kernel) rfl) ?_
  refine hAllOk.c 55 (ok_callS (idx := 50) ⟨wd_t_669, wd_t_7, by decide +kernel, by decide +kernel⟩ wd_t_667 wd_t_668 (by decide +kernel) rfl) ?_
  refine hAllOk.c 56 (ok_no) ?_
  refine hAllOk.c 57 (ok_no) ?_
  refine hAllOk.c 58 (ok_iconst (n := 1) (by decide +kernel) (by decide +kernel) rfl) ?_
  refine hAllOk.c 59 (ok_iastore (by decide +kernel) rfl) ?_
  refine hAllOk.c 60 (ok_iload_n (f := 2) rfl (by decide +kernel) rfl) ?_
  refine hAllOk.c 61 (ok_iload_n (f := 3) rfl (by decide +kernel) rfl) ?_
  refine hAllOk.c 62 (ok_isub (by decide +kernel) rfl) ?_
  refine hAllOk.c 63 (ok_ireturn (by decide +kernel)) ?_
  trivial
def M_Mo_leastLimit : hM := (yX6_leastLimit, prog_8_method_56_code, 4, (some .int), 4, 89)
def code_Mo_leastLimit (K : hK) (B : Nat × Nat) (Q : hPost) : List hSem := [x_aload 1 0, x_iload 2 1, x_callV K 5 M_Mo_isGuest 6 1, x_no, x_no, x_ifne 10 8, x_no, x_no, x_const 9 (-1), x_ireturn (some .int) Q, x_aload 11 0, x_iload 12 1, x_const 13 (2), x_callV K 16 M_Mo_of 6 2, x_no, x_no, x_ifne 22 19, x_no, x_no, x_const 21 (-5), x_no, x_ireturn (some .int) Q, x_aload 23 0, x_iload 24 1, x_const 25 (0), x_callV K 28 M_Mo_of 6 2, x_no, x_no, x_istore 29 2, x_aload 30 0, x_getfield 33 6 0, x_no, x_no, x_iload 34 1, x_const 35 (0), x_callS K 38 M_Mo_at 2, x_no, x_no, x_const 40 (99999), x_no, x_iastore K 41, x_aload 42 0, x_callV K 45 M_Mo_greatest 6 0, x_no, x_no, x_istore 46 3, x_aload 47 0, x_getfield 50 6 0, x_no, x_no, x_iload 51 1, x_const 52 (0), x_callS K 55 M_Mo_at 2, x_no, x_no, x_iload 56 2, x_iastore K 57, x_iload 58 3, x_iload 59 1, x_callS K 62 M_Mo_has 2, x_no, x_no, x_ifeq 76 65, x_no, x_no, x_aload 66 0, x_iload 67 3, x_callS K 70 M_Mo_ones 1, x_no, x_no, x_callV K 73 M_Mo_feeOf 6 1, x_no, x_no, x_goto 78, x_no, x_no, x_const 78 (-5), x_no, x_ireturn (some .int) Q]
set_option maxRecDepth 100000 in
set_option maxHeartbeats 4000000 in
theorem okc_Mo_leastLimit (K : hK) (B : Nat × Nat) (Q : hPost) : hAllOk (hJ K M_Mo_leastLimit B Q) 0 (code_Mo_leastLimit K B Q) := by
  refine hAllOk.c 0 (ok_aload_n (f := 0) rfl (by decide +kernel) rfl) ?_
  refine hAllOk.c 1 (ok_iload_n (f := 1) rfl (by decide +kernel) rfl) ?_
  refine hAllOk.c 2 (ok_callV (idx := 123) ⟨wd_t_681, wd_t_7, by decide +kernel, by decide +kernel⟩ rfl rfl wd_t_678 wd_t_680 wd_s_53 (by decide +kernel) rfl) ?_
  refine hAllOk.c 3 (ok_no) ?_
  refine hAllOk.c 4 (ok_no) ?_
  refine hAllOk.c 5 (ok_ifne (off := 5) (by decide +kernel) (by decide +kernel) rfl) ?_
  refine hAllOk.c 6 (ok_no) ?_
  refine hAllOk.c 7 (ok_no) ?_
  refine hAllOk.c 8 (ok_iconst (n := -1) (by decide +kernel) (by decide +kernel) rfl) ?_
  refine hAllOk.c 9 (ok_ireturn (by decide +kernel)) ?_
  refine hAllOk.c 10 (ok_aload_n (f := 0) rfl (by decide +kernel) rfl) ?_
  refine hAllOk.c 11 (ok_iload_n (f := 1) rfl (by decide +kernel) rfl) ?_
  refine hAllOk.c 12 (ok_iconst (n := 2) (by decide +kernel) (by decide +kernel) rfl) ?_
  refine hAllOk.c 13 (ok_callV (idx := 84) ⟨wd_t_743, wd_t_7, by decide +kernel, by decide +kernel⟩ rfl rfl wd_t_740 wd_t_742 wd_s_64 (by decide +kernel) rfl) ?_
  refine hAllOk.c 14 (ok_no) ?_
  refine hAllOk.c 15 (ok_no) ?_
  refine hAllOk.c 16 (ok_ifne (off := 6) (by decide +kernel) (by decide +kernel) rfl) ?_
  refine hAllOk.c 17 (ok_no) ?_
  refine hAllOk.c 18 (ok_no) ?_
  refine hAllOk.c 19 (ok_bipush (n := -5) (by decide +kernel) (by decide +kernel) rfl) ?_
  refine hAllOk.c 20 (ok_no) ?_
  refine hAllOk.c 21 (ok_ireturn (by decide +kernel)) ?_
  refine hAllOk.c 22 (ok_aload_n (f := 0) rfl (by decide +kernel) rfl) ?_
  refine hAllOk.c 23 (ok_iload_n (f := 1) rfl (by decide +kernel) rfl) ?_
  refine hAllOk.c 24 (ok_iconst (n := 0) (by decide +kernel) (by decide +kernel) rfl) ?_
  refine hAllOk.c 25 (ok_callV (idx := 84) ⟨wd_t_743, wd_t_7, by decide +kernel, by decide +kernel⟩ rfl rfl wd_t_740 wd_t_742 wd_s_64 (by decide +kernel) rfl) ?_
  refine hAllOk.c 26 (ok_no) ?_
  refine hAllOk.c 27 (ok_no) ?_
  refine hAllOk.c 28 (ok_istore_n (f := 2) rfl (by decide) (by decide +kernel) rfl) ?_
  refine hAllOk.c 29 (ok_aload_n (f := 0) rfl (by decide +kernel) rfl) ?_
  refine hAllOk.c 30 (ok_getfield (idx := 7) (N := 16) (T := TX6) rfl inTb6 (by decide) rfl wd_t_602 (by decide +kernel) rfl) ?_
  refine hAllOk.c 31 (ok_no) ?_
  refine hAllOk.c 32 (ok_no) ?_
  refine hAllOk.c 33 (ok_iload_n (f := 1) rfl (by decide +kernel) rfl) ?_
  refine hAllOk.c 34 (ok_iconst (n := 0) (by decide +kernel) (by decide +kernel) rfl) ?_
  refine hAllOk.c 35 (ok_callS (idx := 50) ⟨wd_t_669, wd_t_7, by decide +kernel, by decide +kernel⟩ wd_t_667 wd_t_668 (by decide +kernel) rfl) ?_
  refine hAllOk.c 36 (ok_no) ?_
  refine hAllOk.c 37 (ok_no) ?_
  refine hAllOk.c 38 (ok_ldc (i := 25) wd_t_601 (by decide +kernel) rfl) ?_
  refine hAllOk.c 39 (ok_no) ?_
  refine hAllOk.c 40 (ok_iastore (by decide +kernel) rfl) ?_
  refine hAllOk.c 41 (ok_aload_n (f := 0) rfl (by decide +kernel) rfl) ?_
  refine hAllOk.c 42 (ok_callV (idx := 100) ⟨wd_t_763, wd_t_7, by decide +kernel, by decide +kernel⟩ rfl rfl wd_t_760 wd_t_762 wd_s_66 (by decide +kernel) rfl) ?_
  refine hAllOk.c 43 (ok_no) ?_
  refine hAllOk.c 44 (ok_no) ?_
  refine hAllOk.c 45 (ok_istore_n (f := 3) rfl (by decide) (by decide +kernel) rfl) ?_
  refine hAllOk.c 46 (ok_aload_n (f := 0) rfl (by decide +kernel) rfl) ?_
  refine hAllOk.c 47 (ok_getfield (idx := 7) (N := 16) (T := TX6) rfl inTb6 (by decide) rfl wd_t_602 (by decide +kernel) rfl) ?_
  refine hAllOk.c 48 (ok_no) ?_
  refine hAllOk.c 49 (ok_no) ?_
  refine hAllOk.c 50 (ok_iload_n (f := 1) rfl (by decide +kernel) rfl) ?_
  refine hAllOk.c 51 (ok_iconst (n := 0) (by decide +kernel) (by decide +kernel) rfl) ?_
  refine hAllOk.c 52 (ok_callS (idx := 50) ⟨wd_t_669, wd_t_7, by decide +kernel, by decide +kernel⟩ wd_t_667 wd_t_668 (by decide +kernel) rfl) ?_
  refine hAllOk.c 53 (ok_no) ?_
  refine hAllOk.c 54 (ok_no) ?_
  refine hAllOk.c 55 (ok_iload_n (f := 2) rfl (by decide +kernel) rfl) ?_
  refine hAllOk.c 56 (ok_iastore (by decide +kernel) rfl) ?_
  refine hAllOk.c 57 (ok_iload_n (f := 3) rfl (by decide +kernel) rfl) ?_
  refine hAllOk.c 58 (ok_iload_n (f := 1) rfl (by decide +kernel) rfl) ?_
  refine hAllOk.c 59 (ok_callS (idx := 81) ⟨wd_t_715, wd_t_7, by decide +kernel, by decide +kernel⟩ wd_t_713 wd_t_714 (by decide +kernel) rfl) ?_
  refine hAllOk.c 60 (ok_no) ?_
  refine hAllOk.c 61 (ok_no) ?_
  refine hAllOk.c 62 (ok_ifeq (off := 14) (by decide +kernel) (by decide +kernel) rfl) ?_
  refine hAllOk.c 63 (ok_no) ?_
  refine hAllOk.c 64 (ok_no) ?_
  refine hAllOk.c 65 (ok_aload_n (f := 0) rfl (by decide +kernel) rfl) ?_
  refine hAllOk.c 66 (ok_iload_n (f := 3) rfl (by decide +kernel) rfl) ?_
  refine hAllOk.c 67 (ok_callS (idx := 78) ⟨wd_t_712, wd_t_7, by decide +kernel, by decide +kernel⟩ wd_t_710 wd_t_711 (by decide +kernel) rfl) ?_
  refine hAllOk.c 68 (ok_no) ?_
  refine hAllOk.c 69 (ok_no) ?_
  refine hAllOk.c 70 (ok_callV (idx := 90) ⟨wd_t_771, wd_t_7, by decide +kernel, by decide +kernel⟩ rfl rfl wd_t_768 wd_t_770 wd_s_68 (by decide +kernel) rfl) ?_
  refine hAllOk.c 71 (ok_no) ?_
  refine hAllOk.c 72 (ok_no) ?_
  refine hAllOk.c 73 (ok_goto (off := 5) (by decide +kernel) (by decide +kernel)) ?_
  refine hAllOk.c 74 (ok_no) ?_
  refine hAllOk.c 75 (ok_no) ?_
  refine hAllOk.c 76 (ok_bipush (n := -5) (by decide +kernel) (by decide +kernel) rfl) ?_
  refine hAllOk.c 77 (ok_no) ?_
  refine hAllOk.c 78 (ok_ireturn (by decide +kernel)) ?_
  trivial
def M_Mo_seat : hM := (yX6_seat, prog_8_method_57_code, 4, (some .int), 2, 43)
def code_Mo_seat (K : hK) (B : Nat × Nat) (Q : hPost) : List hSem := [x_iload 1 1, x_const 2 (0), x_const 4 (11), x_no, x_callS K 7 M_Mo_in 3, x_no, x_no, x_ifne 12 10, x_no, x_no, x_const 11 (-1), x_ireturn (some .int) Q, x_const 14 (-5), x_no, x_istore 15 2, x_const 16 (0), x_istore 17 3, x_iload 18 3, x_aload 19 0, x_getfield 22 6 0, x_no, x_no, x_const 23 (0), x_iaload K 24, x_icge 50 27, x_no, x_no, x_aload 28 0, x_iload 29 3, x_const 31 (7), x_no, x_callV K 34 M_Mo_of 6 2, x_no, x_no, x_iload 35 1, x_icne 42 38, x_no, x_no, x_iload 39 3, x_goto 43, x_no, x_no, x_iload 43 2, x_istore 44 2, x_iinc 47 3 (1), x_no, x_no, x_goto 17, x_no, x_no, x_iload 51 2, x_ireturn (some .int) Q]
set_option maxRecDepth 100000 in
set_option maxHeartbeats 4000000 in
theorem okc_Mo_seat (K : hK) (B : Nat × Nat) (Q : hPost) : hAllOk (hJ K M_Mo_seat B Q) 0 (code_Mo_seat K B Q) := by
  refine hAllOk.c 0 (ok_iload_n (f := 1) rfl (by decide +kernel) rfl) ?_
  refine hAllOk.c 1 (ok_iconst (n := 0) (by decide +kernel) (by decide +kernel) rfl) ?_
  refine hAllOk.c 2 (ok_bipush (n := 11) (by decide +kernel) (by decide +kernel) rfl) ?_
  refine hAllOk.c 3 (ok_no) ?_
  refine hAllOk.c 4 (ok_callS (idx := 46) ⟨wd_t_658, wd_t_7, by decide +kernel, by decide +kernel⟩ wd_t_656 wd_t_657 (by decide +kernel) rfl) ?_
  refine hAllOk.c 5 (ok_no) ?_
  refine hAllOk.c 6 (ok_no) ?_
  refine hAllOk.c 7 (ok_ifne (off := 5) (by decide +kernel) (by decide +kernel) rfl) ?_
  refine hAllOk.c 8 (ok_no) ?_
  refine hAllOk.c 9 (ok_no) ?_
  refine hAllOk.c 10 (ok_iconst (n := -1) (by decide +kernel) (by decide +kernel) rfl) ?_
  refine hAllOk.c 11 (ok_ireturn (by decide +kernel)) ?_
  refine hAllOk.c 12 (ok_bipush (n := -5) (by decide +kernel) (by decide +kernel) rfl) ?_
  refine hAllOk.c 13 (ok_no) ?_
  refine hAllOk.c 14 (ok_istore_n (f := 2) rfl (by decide) (by decide +kernel) rfl) ?_
  refine hAllOk.c 15 (ok_iconst (n := 0) (by decide +kernel) (by decide +kernel) rfl) ?_
  refine hAllOk.c 16 (ok_istore_n (f := 3) rfl (by decide) (by decide +kernel) rfl) ?_
  refine hAllOk.c 17 (ok_iload_n (f := 3) rfl (by decide +kernel) rfl) ?_
  refine hAllOk.c 18 (ok_aload_n (f := 0) rfl (by decide +kernel) rfl) ?_
  refine hAllOk.c 19 (ok_getfield (idx := 7) (N := 16) (T := TX6) rfl inTb6 (by decide) rfl wd_t_602 (by decide +kernel) rfl) ?_
  refine hAllOk.c 20 (ok_no) ?_
  refine hAllOk.c 21 (ok_no) ?_
  refine hAllOk.c 22 (ok_iconst (n := 0) (by decide +kernel) (by decide +kernel) rfl) ?_
  refine hAllOk.c 23 (ok_iaload (by decide +kernel) rfl) ?_
  refine hAllOk.c 24 (ok_icge (off := 26) (by decide +kernel) (by decide +kernel) rfl) ?_
  refine hAllOk.c 25 (ok_no) ?_
  refine hAllOk.c 26 (ok_no) ?_
  refine hAllOk.c 27 (ok_aload_n (f := 0) rfl (by decide +kernel) rfl) ?_
  refine hAllOk.c 28 (ok_iload_n (f := 3) rfl (by decide +kernel) rfl) ?_
  refine hAllOk.c 29 (ok_bipush (n := 7) (by decide +kernel) (by decide +kernel) rfl) ?_
  refine hAllOk.c 30 (ok_no) ?_
  refine hAllOk.c 31 (ok_callV (idx := 84) ⟨wd_t_743, wd_t_7, by decide +kernel, by decide +kernel⟩ rfl rfl wd_t_740 wd_t_742 wd_s_64 (by decide +kernel) rfl) ?_
  refine hAllOk.c 32 (ok_no) ?_
  refine hAllOk.c 33 (ok_no) ?_
  refine hAllOk.c 34 (ok_iload_n (f := 1) rfl (by decide +kernel) rfl) ?_
  refine hAllOk.c 35 (ok_icne (off := 7) (by decide +kernel) (by decide +kernel) rfl) ?_
  refine hAllOk.c 36 (ok_no) ?_
  refine hAllOk.c 37 (ok_no) ?_
  refine hAllOk.c 38 (ok_iload_n (f := 3) rfl (by decide +kernel) rfl) ?_
  refine hAllOk.c 39 (ok_goto (off := 4) (by decide +kernel) (by decide +kernel)) ?_
  refine hAllOk.c 40 (ok_no) ?_
  refine hAllOk.c 41 (ok_no) ?_
  refine hAllOk.c 42 (ok_iload_n (f := 2) rfl (by decide +kernel) rfl) ?_
  refine hAllOk.c 43 (ok_istore_n (f := 2) rfl (by decide) (by decide +kernel) rfl) ?_
  refine hAllOk.c 44 (ok_iinc (n := 1) (by decide +kernel) (by decide) (by decide +kernel) rfl) ?_
  refine hAllOk.c 45 (ok_no) ?_
  refine hAllOk.c 46 (ok_no) ?_
  refine hAllOk.c 47 (ok_goto (off := (-30)) (by decide +kernel) (by decide +kernel)) ?_
  refine hAllOk.c 48 (ok_no) ?_
  refine hAllOk.c 49 (ok_no) ?_
  refine hAllOk.c 50 (ok_iload_n (f := 2) rfl (by decide +kernel) rfl) ?_
  refine hAllOk.c 51 (ok_ireturn (by decide +kernel)) ?_
  trivial
def M_Mo_count : hM := (yX6_count, prog_8_method_58_code, 4, (some .int), 3, 65)
def code_Mo_count (K : hK) (B : Nat × Nat) (Q : hPost) : List hSem := [x_const 1 (0), x_istore 2 2, x_const 3 (0), x_istore 4 3, x_iload 5 3, x_aload 6 0, x_getfield 9 6 0, x_no, x_no, x_const 10 (0), x_iaload K 11, x_icge 29 14, x_no, x_no, x_iload 15 2, x_aload 16 0, x_iload 17 3, x_const 18 (3), x_callV K 21 M_Mo_of 6 2, x_no, x_no, x_iadd 22, x_istore 23 2, x_iinc 26 3 (1), x_no, x_no, x_goto 4, x_no, x_no, x_iload 30 1, x_tab 205 [(0, 112), (1, 119), (2, 126), (3, 134), (4, 134), (5, 134), (6, 134), (7, 134), (8, 145), (9, 153), (10, 161), (11, 169), (12, 177), (13, 185), (14, 193), (15, 195), (16, 200)], x_no, x_no, x_no, x_no, x_no, x_no, x_no, x_no, x_no, x_no, x_no, x_no, x_no, x_no, x_no, x_no, x_no, x_no, x_no, x_no, x_no, x_no, x_no, x_no, x_no, x_no, x_no, x_no, x_no, x_no, x_no, x_no, x_no, x_no, x_no, x_no, x_no, x_no, x_no, x_no, x_no, x_no, x_no, x_no, x_no, x_no, x_no, x_no, x_no, x_no, x_no, x_no, x_no, x_no, x_no, x_no, x_no, x_no, x_no, x_no, x_no, x_no, x_no, x_no, x_no, x_no, x_no, x_no, x_no, x_no, x_no, x_no, x_no, x_no, x_no, x_no, x_no, x_no, x_no, x_no, x_no, x_aload 113 0, x_getfield 116 6 0, x_no, x_no, x_const 117 (1), x_iaload K 118, x_ireturn (some .int) Q, x_aload 120 0, x_getfield 123 6 0, x_no, x_no, x_const 124 (0), x_iaload K 125, x_ireturn (some .int) Q, x_aload 127 0, x_callV K 130 M_Mo_invited 6 0, x_no, x_no, x_callS K 133 M_Mo_ones 1, x_no, x_no, x_ireturn (some .int) Q, x_aload 135 0, x_getfield 138 6 0, x_no, x_no, x_const 139 (2), x_iload 140 1, x_iadd 141, x_const 142 (3), x_isub 143, x_iaload K 144, x_ireturn (some .int) Q, x_aload 146 0, x_getfield 149 6 0, x_no, x_no, x_const 151 (7), x_no, x_iaload K 152, x_ireturn (some .int) Q, x_aload 154 0, x_getfield 157 6 0, x_no, x_no, x_const 159 (10), x_no, x_iaload K 160, x_ireturn (some .int) Q, x_aload 162 0, x_getfield 165 6 0, x_no, x_no, x_const 167 (11), x_no, x_iaload K 168, x_ireturn (some .int) Q, x_aload 170 0, x_getfield 173 6 0, x_no, x_no, x_const 175 (12), x_no, x_iaload K 176, x_ireturn (some .int) Q, x_aload 178 0, x_getfield 181 6 0, x_no, x_no, x_const 183 (13), x_no, x_iaload K 184, x_ireturn (some .int) Q, x_aload 186 0, x_getfield 189 6 0, x_no, x_no, x_const 191 (14), x_no, x_iaload K 192, x_ireturn (some .int) Q, x_iload 194 2, x_ireturn (some .int) Q, x_aload 196 0, x_getfield 199 6 2, x_no, x_no, x_ireturn (some .int) Q, x_aload 201 0, x_getfield 204 6 6, x_no, x_no, x_ireturn (some .int) Q, x_const 207 (-2), x_no, x_ireturn (some .int) Q]
set_option maxRecDepth 100000 in
set_option maxHeartbeats 4000000 in
theorem okc_Mo_count (K : hK) (B : Nat × Nat) (Q : hPost) : hAllOk (hJ K M_Mo_count B Q) 0 (code_Mo_count K B Q) := by
  refine hAllOk.c 0 (ok_iconst (n := 0) (by decide +kernel) (by decide +kernel) rfl) ?_
  refine hAllOk.c 1 (ok_istore_n (f := 2) rfl (by decide) (by decide +kernel) rfl) ?_
  refine hAllOk.c 2 (ok_iconst (n := 0) (by decide +kernel) (by decide +kernel) rfl) ?_
  refine hAllOk.c 3 (ok_istore_n (f := 3) rfl (by decide) (by decide +kernel) rfl) ?_
  refine hAllOk.c 4 (ok_iload_n (f := 3) rfl (by decide +kernel) rfl) ?_
  refine hAllOk.c 5 (ok_aload_n (f := 0) rfl (by decide +kernel) rfl) ?_
  refine hAllOk.c 6 (ok_getfield (idx := 7) (N := 16) (T := TX6) rfl inTb6 (by decide) rfl wd_t_602 (by decide +kernel) rfl) ?_
  refine hAllOk.c 7 (ok_no) ?_
  refine hAllOk.c 8 (ok_no) ?_
  refine hAllOk.c 9 (ok_iconst (n := 0) (by decide +kernel) (by decide +kernel) rfl) ?_
  refine hAllOk.c 10 (ok_iaload (by decide +kernel) rfl) ?_
  refine hAllOk.c 11 (ok_icge (off := 18) (by decide +kernel) (by decide +kernel) rfl) ?_
  refine hAllOk.c 12 (ok_no) ?_
  refine hAllOk.c 13 (ok_no) ?_
  refine hAllOk.c 14 (ok_iload_n (f := 2) rfl (by decide +kernel) rfl) ?_
  refine hAllOk.c 15 (ok_aload_n (f := 0) rfl (by decide +kernel) rfl) ?_
  refine hAllOk.c 16 (ok_iload_n (f := 3) rfl (by decide +kernel) rfl) ?_
  refine hAllOk.c 17 (ok_iconst (n := 3) (by decide +kernel) (by decide +kernel) rfl) ?_
  refine hAllOk.c 18 (ok_callV (idx := 84) ⟨wd_t_743, wd_t_7, by decide +kernel, by decide +kernel⟩ rfl rfl wd_t_740 wd_t_742 wd_s_64 (by decide +kernel) rfl) ?_
  refine hAllOk.c 19 (ok_no) ?_
  refine hAllOk.c 20 (ok_no) ?_
  refine hAllOk.c 21 (ok_iadd (by decide +kernel) rfl) ?_
  refine hAllOk.c 22 (ok_istore_n (f := 2) rfl (by decide) (by decide +kernel) rfl) ?_
  refine hAllOk.c 23 (ok_iinc (n := 1) (by decide +kernel) (by decide) (by decide +kernel) rfl) ?_
  refine hAllOk.c 24 (ok_no) ?_
  refine hAllOk.c 25 (ok_no) ?_
  refine hAllOk.c 26 (ok_goto (off := (-22)) (by decide +kernel) (by decide +kernel)) ?_
  refine hAllOk.c 27 (ok_no) ?_
  refine hAllOk.c 28 (ok_no) ?_
  refine hAllOk.c 29 (ok_iload_n (f := 1) rfl (by decide +kernel) rfl) ?_
  refine hAllOk.c 30 (ok_tab (dflt := 175) (lo := 0) (hi := 16) (offs := #[82, 89, 96, 104, 104, 104, 104, 104, 115, 123, 131, 139, 147, 155, 163, 165, 170]) (len := 82) (by decide +kernel) (by decide +kernel) (by decide +kernel) (by decide +kernel)) ?_
  refine hAllOk.c 31 (ok_no) ?_
  refine hAllOk.c 32 (ok_no) ?_
  refine hAllOk.c 33 (ok_no) ?_
  refine hAllOk.c 34 (ok_no) ?_
  refine hAllOk.c 35 (ok_no) ?_
  refine hAllOk.c 36 (ok_no) ?_
  refine hAllOk.c 37 (ok_no) ?_
  refine hAllOk.c 38 (ok_no) ?_
  refine hAllOk.c 39 (ok_no) ?_
  refine hAllOk.c 40 (ok_no) ?_
  refine hAllOk.c 41 (ok_no) ?_
  refine hAllOk.c 42 (ok_no) ?_
  refine hAllOk.c 43 (ok_no) ?_
  refine hAllOk.c 44 (ok_no) ?_
  refine hAllOk.c 45 (ok_no) ?_
  refine hAllOk.c 46 (ok_no) ?_
  refine hAllOk.c 47 (ok_no) ?_
  refine hAllOk.c 48 (ok_no) ?_
  refine hAllOk.c 49 (ok_no) ?_
  refine hAllOk.c 50 (ok_no) ?_
  refine hAllOk.c 51 (ok_no) ?_
  refine hAllOk.c 52 (ok_no) ?_
  refine hAllOk.c 53 (ok_no) ?_
  refine hAllOk.c 54 (ok_no) ?_
  refine hAllOk.c 55 (ok_no) ?_
  refine hAllOk.c 56 (ok_no) ?_
  refine hAllOk.c 57 (ok_no) ?_
  refine hAllOk.c 58 (ok_no) ?_
  refine hAllOk.c 59 (ok_no) ?_
  refine hAllOk.c 60 (ok_no) ?_
  refine hAllOk.c 61 (ok_no) ?_
  refine hAllOk.c 62 (ok_no) ?_
  refine hAllOk.c 63 (ok_no) ?_
  refine hAllOk.c 64 (ok_no) ?_
  refine hAllOk.c 65 (ok_no) ?_
  refine hAllOk.c 66 (ok_no) ?_
  refine hAllOk.c 67 (ok_no) ?_
  refine hAllOk.c 68 (ok_no) ?_
  refine hAllOk.c 69 (ok_no) ?_
  refine hAllOk.c 70 (ok_no) ?_
  refine hAllOk.c 71 (ok_no) ?_
  refine hAllOk.c 72 (ok_no) ?_
  refine hAllOk.c 73 (ok_no) ?_
  refine hAllOk.c 74 (ok_no) ?_
  refine hAllOk.c 75 (ok_no) ?_
  refine hAllOk.c 76 (ok_no) ?_
  refine hAllOk.c 77 (ok_no) ?_
  refine hAllOk.c 78 (ok_no) ?_
  refine hAllOk.c 79 (ok_no) ?_
  refine hAllOk.c 80 (ok_no) ?_
  refine hAllOk.c 81 (ok_no) ?_
  refine hAllOk.c 82 (ok_no) ?_
  refine hAllOk.c 83 (ok_no) ?_
  refine hAllOk.c 84 (ok_no) ?_
  refine hAllOk.c 85 (ok_no) ?_
  refine hAllOk.c 86 (ok_no) ?_
  refine hAllOk.c 87 (ok_no) ?_
  refine hAllOk.c 88 (ok_no) ?_
  refine hAllOk.c 89 (ok_no) ?_
  refine hAllOk.c 90 (ok_no) ?_
  refine hAllOk.c 91 (ok_no) ?_
  refine hAllOk.c 92 (ok_no) ?_
  refine hAllOk.c 93 (ok_no) ?_
  refine hAllOk.c 94 (ok_no) ?_
  refine hAllOk.c 95 (ok_no) ?_
  refine hAllOk.c 96 (ok_no) ?_
  refine hAllOk.c 97 (ok_no) ?_
  refine hAllOk.c 98 (ok_no) ?_
  refine hAllOk.c 99 (ok_no) ?_
  refine hAllOk.c 100 (ok_no) ?_
  refine hAllOk.c 101 (ok_no) ?_
  refine hAllOk.c 102 (ok_no) ?_
  refine hAllOk.c 103 (ok_no) ?_
  refine hAllOk.c 104 (ok_no) ?_
  refine hAllOk.c 105 (ok_no) ?_
  refine hAllOk.c 106 (ok_no) ?_
  refine hAllOk.c 107 (ok_no) ?_
  refine hAllOk.c 108 (ok_no) ?_
  refine hAllOk.c 109 (ok_no) ?_
  refine hAllOk.c 110 (ok_no) ?_
  refine hAllOk.c 111 (ok_no) ?_
  refine hAllOk.c 112 (ok_aload_n (f := 0) rfl (by decide +kernel) rfl) ?_
  refine hAllOk.c 113 (ok_getfield (idx := 7) (N := 16) (T := TX6) rfl inTb6 (by decide) rfl wd_t_602 (by decide +kernel) rfl) ?_
  refine hAllOk.c 114 (ok_no) ?_
  refine hAllOk.c 115 (ok_no) ?_
  refine hAllOk.c 116 (ok_iconst (n := 1) (by decide +kernel) (by decide +kernel) rfl) ?_
  refine hAllOk.c 117 (ok_iaload (by decide +kernel) rfl) ?_
  refine hAllOk.c 118 (ok_ireturn (by decide +kernel)) ?_
  refine hAllOk.c 119 (ok_aload_n (f := 0) rfl (by decide +kernel) rfl) ?_
  refine hAllOk.c 120 (ok_getfield (idx := 7) (N := 16) (T := TX6) rfl inTb6 (by decide) rfl wd_t_602 (by decide +kernel) rfl) ?_
  refine hAllOk.c 121 (ok_no) ?_
  refine hAllOk.c 122 (ok_no) ?_
  refine hAllOk.c 123 (ok_iconst (n := 0) (by decide +kernel) (by decide +kernel) rfl) ?_
  refine hAllOk.c 124 (ok_iaload (by decide +kernel) rfl) ?_
  refine hAllOk.c 125 (ok_ireturn (by decide +kernel)) ?_
  refine hAllOk.c 126 (ok_aload_n (f := 0) rfl (by decide +kernel) rfl) ?_
  refine hAllOk.c 127 (ok_callV (idx := 93) ⟨wd_t_739, wd_t_7, by decide +kernel, by decide +kernel⟩ rfl rfl wd_t_736 wd_t_738 wd_s_63 (by decide +kernel) rfl) ?_
  refine hAllOk.c 128 (ok_no) ?_
  refine hAllOk.c 129 (ok_no) ?_
  refine hAllOk.c 130 (ok_callS (idx := 78) ⟨wd_t_712, wd_t_7, by decide +kernel, by decide +kernel⟩ wd_t_710 wd_t_711 (by decide +kernel) rfl) ?_
  refine hAllOk.c 131 (ok_no) ?_
  refine hAllOk.c 132 (ok_no) ?_
  refine hAllOk.c 133 (ok_ireturn (by decide +kernel)) ?_
  refine hAllOk.c 134 (ok_aload_n (f := 0) rfl (by decide +kernel) rfl) ?_
  refine hAllOk.c 135 (ok_getfield (idx := 7) (N := 16) (T := TX6) rfl inTb6 (by decide) rfl wd_t_602 (by decide +kernel) rfl) ?_
  refine hAllOk.c 136 (ok_no) ?_
  refine hAllOk.c 137 (ok_no) ?_
  refine hAllOk.c 138 (ok_iconst (n := 2) (by decide +kernel) (by decide +kernel) rfl) ?_
  refine hAllOk.c 139 (ok_iload_n (f := 1) rfl (by decide +kernel) rfl) ?_
  refine hAllOk.c 140 (ok_iadd (by decide +kernel) rfl) ?_
  refine hAllOk.c 141 (ok_iconst (n := 3) (by decide +kernel) (by decide +kernel) rfl) ?_
  refine hAllOk.c 142 (ok_isub (by decide +kernel) rfl) ?_
  refine hAllOk.c 143 (ok_iaload (by decide +kernel) rfl) ?_
  refine hAllOk.c 144 (ok_ireturn (by decide +kernel)) ?_
  refine hAllOk.c 145 (ok_aload_n (f := 0) rfl (by decide +kernel) rfl) ?_
  refine hAllOk.c 146 (ok_getfield (idx := 7) (N := 16) (T := TX6) rfl inTb6 (by decide) rfl wd_t_602 (by decide +kernel) rfl) ?_
  refine hAllOk.c 147 (ok_no) ?_
  refine hAllOk.c 148 (ok_no) ?_
  refine hAllOk.c 149 (ok_bipush (n := 7) (by decide +kernel) (by decide +kernel) rfl) ?_
  refine hAllOk.c 150 (ok_no) ?_
  refine hAllOk.c 151 (ok_iaload (by decide +kernel) rfl) ?_
  refine hAllOk.c 152 (ok_ireturn (by decide +kernel)) ?_
  refine hAllOk.c 153 (ok_aload_n (f := 0) rfl (by decide +kernel) rfl) ?_
  refine hAllOk.c 154 (ok_getfield (idx := 7) (N := 16) (T := TX6) rfl inTb6 (by decide) rfl wd_t_602 (by decide +kernel) rfl) ?_
  refine hAllOk.c 155 (ok_no) ?_
  refine hAllOk.c 156 (ok_no) ?_
  refine hAllOk.c 157 (ok_bipush (n := 10) (by decide +kernel) (by decide +kernel) rfl) ?_
  refine hAllOk.c 158 (ok_no) ?_
  refine hAllOk.c 159 (ok_iaload (by decide +kernel) rfl) ?_
  refine hAllOk.c 160 (ok_ireturn (by decide +kernel)) ?_
  refine hAllOk.c 161 (ok_aload_n (f := 0) rfl (by decide +kernel) rfl) ?_
  refine hAllOk.c 162 (ok_getfield (idx := 7) (N := 16) (T := TX6) rfl inTb6 (by decide) rfl wd_t_602 (by decide +kernel) rfl) ?_
  refine hAllOk.c 163 (ok_no) ?_
  refine hAllOk.c 164 (ok_no) ?_
  refine hAllOk.c 165 (ok_bipush (n := 11) (by decide +kernel) (by decide +kernel) rfl) ?_
  refine hAllOk.c 166 (ok_no) ?_
  refine hAllOk.c 167 (ok_iaload (by decide +kernel) rfl) ?_
  refine hAllOk.c 168 (ok_ireturn (by decide +kernel)) ?_
  refine hAllOk.c 169 (ok_aload_n (f := 0) rfl (by decide +kernel) rfl) ?_
  refine hAllOk.c 170 (ok_getfield (idx := 7) (N := 16) (T := TX6) rfl inTb6 (by decide) rfl wd_t_602 (by decide +kernel) rfl) ?_
  refine hAllOk.c 171 (ok_no) ?_
  refine hAllOk.c 172 (ok_no) ?_
  refine hAllOk.c 173 (ok_bipush (n := 12) (by decide +kernel) (by decide +kernel) rfl) ?_
  refine hAllOk.c 174 (ok_no) ?_
  refine hAllOk.c 175 (ok_iaload (by decide +kernel) rfl) ?_
  refine hAllOk.c 176 (ok_ireturn (by decide +kernel)) ?_
  refine hAllOk.c 177 (ok_aload_n (f := 0) rfl (by decide +kernel) rfl) ?_
  refine hAllOk.c 178 (ok_getfield (idx := 7) (N := 16) (T := TX6) rfl inTb6 (by decide) rfl wd_t_602 (by decide +kernel) rfl) ?_
  refine hAllOk.c 179 (ok_no) ?_
  refine hAllOk.c 180 (ok_no) ?_
  refine hAllOk.c 181 (ok_bipush (n := 13) (by decide +kernel) (by decide +kernel) rfl) ?_
  refine hAllOk.c 182 (ok_no) ?_
  refine hAllOk.c 183 (ok_iaload (by decide +kernel) rfl) ?_
  refine hAllOk.c 184 (ok_ireturn (by decide +kernel)) ?_
  refine hAllOk.c 185 (ok_aload_n (f := 0) rfl (by decide +kernel) rfl) ?_
  refine hAllOk.c 186 (ok_getfield (idx := 7) (N := 16) (T := TX6) rfl inTb6 (by decide) rfl wd_t_602 (by decide +kernel) rfl) ?_
  refine hAllOk.c 187 (ok_no) ?_
  refine hAllOk.c 188 (ok_no) ?_
  refine hAllOk.c 189 (ok_bipush (n := 14) (by decide +kernel) (by decide +kernel) rfl) ?_
  refine hAllOk.c 190 (ok_no) ?_
  refine hAllOk.c 191 (ok_iaload (by decide +kernel) rfl) ?_
  refine hAllOk.c 192 (ok_ireturn (by decide +kernel)) ?_
  refine hAllOk.c 193 (ok_iload_n (f := 2) rfl (by decide +kernel) rfl) ?_
  refine hAllOk.c 194 (ok_ireturn (by decide +kernel)) ?_
  refine hAllOk.c 195 (ok_aload_n (f := 0) rfl (by decide +kernel) rfl) ?_
  refine hAllOk.c 196 (ok_getfield (idx := 42) (N := 16) (T := TX6) rfl inTb6 (by decide) rfl wd_t_604 (by decide +kernel) rfl) ?_
  refine hAllOk.c 197 (ok_no) ?_
  refine hAllOk.c 198 (ok_no) ?_
  refine hAllOk.c 199 (ok_ireturn (by decide +kernel)) ?_
  refine hAllOk.c 200 (ok_aload_n (f := 0) rfl (by decide +kernel) rfl) ?_
  refine hAllOk.c 201 (ok_getfield (idx := 57) (N := 16) (T := TX6) rfl inTb6 (by decide) rfl wd_t_608 (by decide +kernel) rfl) ?_
  refine hAllOk.c 202 (ok_no) ?_
  refine hAllOk.c 203 (ok_no) ?_
  refine hAllOk.c 204 (ok_ireturn (by decide +kernel)) ?_
  refine hAllOk.c 205 (ok_bipush (n := -2) (by decide +kernel) (by decide +kernel) rfl) ?_
  refine hAllOk.c 206 (ok_no) ?_
  refine hAllOk.c 207 (ok_ireturn (by decide +kernel)) ?_
  trivial
