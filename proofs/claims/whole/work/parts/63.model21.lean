/-! THE REFERENCE: whether the condition of the text is met by a set: bits and brackets -/
def mtR (f g : Nat → Int32) (o : Nat) (q : Int32 × Int32) : Prop := ∀ j, j ≤ o → f j = b2i (ib q.1 (o - j)) ∧ g j = b2i (ib q.2 (o - j))
theorem nI_n3 {k : Nat} (h : k < 2147483648) : nI k ≠ -1 ∧ nI k ≠ -2 ∧ nI k ≠ -3 := by
  have h1 := nI_pos (n := k) h
  exact ⟨fun q => h1 (by rw [q]; decide), fun q => h1 (by rw [q]; decide), fun q => h1 (by rw [q]; decide)⟩
theorem mt_open {f g : Nat → Int32} {o x : Nat} {q : Int32 × Int32} (ho : o < 20) (h : mtR f g o q) : mtR (upd f (o + 1) 0) (upd g (o + 1) 1) (o + 1) (gcStep (-1) x q) := by
  intro j hj
  obtain ⟨a, b⟩ := gs_open x q (i := o + 1 - j) (by omega)
  rw [a, b]
  by_cases e : j = o + 1
  · rw [e, upd_s, upd_s, Nat.sub_self]
    exact ⟨rfl, rfl⟩
  · rw [upd_n e, upd_n e, decide_eq_true (show 0 < o + 1 - j by omega), decide_eq_false (show ¬ o + 1 - j = 0 by omega), Bool.true_and, Bool.false_or, show o + 1 - j - 1 = o - j by omega]
    exact h j (by omega)
theorem mt_close {f g : Nat → Int32} {o x : Nat} {q : Int32 × Int32} (ho : o < 20) (h : mtR f g (o + 1) q) : mtR f (upd g o (b2i (ib q.2 1 && (ib q.1 0 || ib q.2 0)))) o (gcStep (-2) x q) := by
  intro j hj
  obtain ⟨a, b⟩ := gs_close x q (i := o - j) (by omega)
  rw [a, b, if_pos (by omega)]
  obtain ⟨h1, h2⟩ := h j (by omega)
  rw [show o + 1 - j = o - j + 1 by omega] at h1 h2
  refine ⟨h1, ?_⟩
  by_cases e : j = o
  · rw [e, upd_s, Nat.sub_self]
    rfl
  · rw [upd_n e, decide_eq_true (show 0 < o - j by omega), Bool.true_or, Bool.and_true]
    exact h2
theorem mt_or {f g : Nat → Int32} {o x : Nat} {q : Int32 × Int32} (ho : o < 20) (h : mtR f g o q) : mtR (upd f o (b2i (ib q.1 0 || ib q.2 0))) (upd g o 1) o (gcStep (-3) x q) := by
  intro j hj
  obtain ⟨a, b⟩ := gs_or x q (i := o - j) (by omega)
  rw [a, b]
  by_cases e : j = o
  · rw [e, upd_s, upd_s, Nat.sub_self]
    exact ⟨rfl, rfl⟩
  · rw [upd_n e, upd_n e, decide_eq_false (show ¬ o - j = 0 by omega), Bool.false_and, Bool.or_false, Bool.false_or]
    exact h j hj
theorem mt_atom {f g : Nat → Int32} {o x k : Nat} {q : Int32 × Int32} (ho : o < 20) (hk : k < 2147483648) (h : mtR f g o q) : mtR f (upd g o (b2i (ib q.2 0 && atomMet (nI k) x))) o (gcStep (nI k) x q) := by
  intro j hj
  obtain ⟨n1, n2, n3⟩ := nI_n3 hk
  obtain ⟨a, b⟩ := gs_atom x q n1 n2 n3 (i := o - j) (by omega)
  rw [a, b]
  refine ⟨(h j hj).1, ?_⟩
  by_cases e : j = o
  · rw [e, upd_s, Nat.sub_self]
    rfl
  · rw [upd_n e, decide_eq_true (show 0 < o - j by omega), Bool.true_or, Bool.and_true]
    exact (h j hj).2
theorem upd_id {f : Nat → Int32} {k : Nat} {v : Int32} (h : f k = v) : upd f k v = f := by
  funext j
  by_cases e : j = k
  · rw [e, upd_s, h]
  · rw [upd_n e]
theorem mt_0 {f g : Nat → Int32} {o : Nat} {q : Int32 × Int32} (h : mtR f g o q) : f o = b2i (ib q.1 0) ∧ g o = b2i (ib q.2 0) := by
  have := h o (Nat.le_refl _)
  rw [Nat.sub_self] at this
  exact this
/-- where nothing more can be met, an atom says nothing -/
theorem mt_none {f g : Nat → Int32} {o x k : Nat} {q : Int32 × Int32} (ho : o < 20) (hk : k < 2147483648) (h : mtR f g o q) (hz : g o = 0) : mtR f g o (gcStep (nI k) x q) := by
  have h1 := mt_atom (x := x) ho hk h
  have h2 : ib q.2 0 = false := b2i_0.mp ((mt_0 h).2.symm.trans hz)
  rw [h2, Bool.false_and, upd_id (show g o = b2i false from hz)] at h1
  exact h1
/-- what holds at each place of the text -/
def mtI (tx : Nat → Nat) (len p x : Nat) (f g : Nat → Int32) : Prop :=
  (((tR tx p).1 3 = 0 ∨ rsE tx len p) ∧ mtR f g ((tR tx p).1 2) (gRn (tR tx p) x)) ∨
  (g ((tR tx p).1 2) = 0 ∧ (((tR tx p).1 3 = 1 ∧ mtR f g ((tR tx p).1 2) (gRn (tR tx p) x)) ∨
    (((tR tx p).1 3 = 2 ∨ (tR tx p).1 3 = 3 ∨ (tR tx p).1 3 = 5 ∨ (tR tx p).1 3 = 6) ∧ 0 < (tR tx p).1 0 ∧ mtR f g ((tR tx p).1 2) (gBs (tR tx p) x) ∧ (5 ≤ (tR tx p).1 3 → mtR f g ((tR tx p).1 2) (gRn (tR tx p) x)))))
section TXD
variable {len p x : Nat} {f g : Nat → Int32} {tx : Nat → Nat}
theorem rk0 (h : (tR tx p).1 3 = 0) : rdOk (tR tx p).1 (tx p) = atomOk ((tR tx p).1 2) (tx p) := by
  unfold rdOk
  rw [if_pos h]
theorem rk1 (h : (tR tx p).1 3 = 1) : rdOk (tR tx p).1 (tx p) = isDig (tx p) 49 57 := by
  unfold rdOk
  rw [if_neg (by omega), if_pos h]
theorem rk2 (h : (tR tx p).1 3 = 2) : rdOk (tR tx p).1 (tx p) = decide (tx p = 58) := by
  unfold rdOk
  rw [if_neg (by omega), if_neg (by omega), if_pos h]
theorem rk3 (h : (tR tx p).1 3 = 3) : rdOk (tR tx p).1 (tx p) = isLet (tx p) := by
  unfold rdOk
  rw [if_neg (by omega), if_neg (by omega), if_neg (by omega), if_pos h]
theorem rk5 (h : (tR tx p).1 3 = 5) : rdOk (tR tx p).1 (tx p) = (isLet (tx p) || behOk ((tR tx p).1 2) (tx p)) := by
  unfold rdOk
  rw [if_neg (by omega), if_neg (by omega), if_neg (by omega), if_neg (by omega), if_pos h]
theorem rk6 (h : (tR tx p).1 3 = 6) : rdOk (tR tx p).1 (tx p) = (isDig (tx p) 48 50 || behOk ((tR tx p).1 2) (tx p)) := by
  unfold rdOk
  rw [if_neg (by omega), if_neg (by omega), if_neg (by omega), if_neg (by omega), if_neg (by omega), if_pos h]
theorem beh_no {o c : Nat} (h : c ≠ 41 ∧ c ≠ 124 ∧ c ≠ 38) : behOk o c = false := by
  unfold behOk
  rw [if_neg h.1, decide_eq_false h.2.1, decide_eq_false h.2.2]
  rfl
theorem let_no {c : Nat} (h : c < 97) : isLet c = false := by
  unfold isLet
  rw [decide_eq_false (p := 97 ≤ c) (by omega)]
  rfl
theorem let_no2 {c : Nat} (h : 109 ≤ c) : isLet c = false := by
  unfold isLet
  rw [decide_eq_false (p := c < 109) (by omega), Bool.and_false]
theorem dig_no {c a b : Nat} (h : c < a ∨ b < c) : isDig c a b = false := by
  unfold isDig
  by_cases e : a ≤ c
  · rw [decide_eq_false (p := c ≤ b) (by omega), Bool.and_false]
  · rw [decide_eq_false e]; rfl
/-- a bracket opens -/
theorem cl_open (hI : mtI tx len p x f g) (hp : p < len) (hk : rdOk (tR tx p).1 (tx p) = true) (hc : tx p = 40) : (tR tx p).1 3 = 0 ∧ mtR f g ((tR tx p).1 2) (gRn (tR tx p) x) ∧ (tR tx p).1 2 < 8 := by
  have nb : behOk ((tR tx p).1 2) (tx p) = false := beh_no (by omega)
  have nl : isLet (tx p) = false := let_no (by omega)
  rcases hI with ⟨h0 | h0, hR⟩ | ⟨-, ⟨h1, -⟩ | ⟨h2 | h2 | h2 | h2, -⟩⟩
  · rw [rk0 h0] at hk
    unfold atomOk at hk
    rw [if_pos hc] at hk
    exact ⟨h0, hR, of_decide_eq_true hk⟩
  · rw [(st_beh (T := (tR tx p).2) (h0.b hp)).2, nb] at hk
    cases hk
  · rw [rk1 h1, dig_no (by omega)] at hk
    cases hk
  · rw [rk2 h2, decide_eq_false (by omega)] at hk
    cases hk
  · rw [rk3 h2, nl] at hk
    cases hk
  · rw [rk5 h2, nl, nb] at hk
    cases hk
  · rw [rk6 h2, nb, dig_no (by omega)] at hk
    cases hk
/-- what joins or closes -/
theorem cl_beh (hI : mtI tx len p x f g) (hp : p < len) (hk : rdOk (tR tx p).1 (tx p) = true) (hc : tx p = 41 ∨ tx p = 124 ∨ tx p = 38) : rsE tx len p ∧ mtR f g ((tR tx p).1 2) (gRn (tR tx p) x) ∧ behOk ((tR tx p).1 2) (tx p) = true := by
  have nl : isLet (tx p) = false := by
    by_cases e : tx p = 124
    · exact let_no2 (by omega)
    · exact let_no (by omega)
  have nd : isDig (tx p) 48 50 = false := dig_no (by omega)
  have fin : rsE tx len p → mtR f g ((tR tx p).1 2) (gRn (tR tx p) x) → rsE tx len p ∧ mtR f g ((tR tx p).1 2) (gRn (tR tx p) x) ∧ behOk ((tR tx p).1 2) (tx p) = true := fun h0 hR => by
    refine ⟨h0, hR, ?_⟩
    rw [(st_beh (T := (tR tx p).2) (h0.b hp)).2] at hk
    exact hk
  rcases hI with ⟨h0 | h0, hR⟩ | ⟨-, ⟨h1, -⟩ | ⟨h2 | h2 | h2 | h2, -, -, hR⟩⟩
  · rw [rk0 h0] at hk
    unfold atomOk at hk
    rw [if_neg (by omega), decide_eq_false (by omega), decide_eq_false (by omega), nl, dig_no (by omega)] at hk
    cases hk
  · exact fin h0 hR
  · rw [rk1 h1, dig_no (by omega)] at hk
    cases hk
  · rw [rk2 h2, decide_eq_false (by omega)] at hk
    cases hk
  · rw [rk3 h2, nl] at hk
    cases hk
  · exact fin (Or.inr (Or.inl ⟨h2, by unfold letAt; rw [nl, Bool.and_false]⟩)) (hR (by omega))
  · exact fin (Or.inr (Or.inr ⟨h2, by unfold digAt; rw [nd, Bool.and_false]⟩)) (hR (by omega))
/-- an atom, where more can be met -/
theorem cl_zero (hI : mtI tx len p x f g) (hp : p < len) (hk : rdOk (tR tx p).1 (tx p) = true) (hc : tx p ≠ 41 ∧ tx p ≠ 124 ∧ tx p ≠ 38) (hz : ¬ g ((tR tx p).1 2) = 0) : (tR tx p).1 3 = 0 ∧ mtR f g ((tR tx p).1 2) (gRn (tR tx p) x) := by
  rcases hI with ⟨h0 | h0, hR⟩ | ⟨hz', -⟩
  · exact ⟨h0, hR⟩
  · rw [(st_beh (T := (tR tx p).2) (h0.b hp)).2, beh_no hc] at hk
    cases hk
  · exact absurd hz' hz
/-- an atom's character, where nothing more can be met -/
theorem cl_skip (hI : mtI tx len p x f g) (gd : gdTo tx p) (hp : p < len) (hlen : len ≤ 60) (hk : rdOk (tR tx p).1 (tx p) = true) (hc : tx p ≠ 40 ∧ tx p ≠ 41 ∧ tx p ≠ 124 ∧ tx p ≠ 38) (hz : g ((tR tx p).1 2) = 0) : mtI tx len (p + 1) x f g ∧ (tR tx (p + 1)).1 2 = (tR tx p).1 2 := by
  have hi := gd.inv
  have ho : (tR tx p).1 2 < 20 := Nat.lt_of_le_of_lt hi.2.2.1 (by decide)
  have h60 : (tR tx p).1 0 < 60 := by
    have := tR_0 tx p
    omega
  have nb : behOk ((tR tx p).1 2) (tx p) = false := beh_no hc.2
  -- behind the character: a whole atom
  have whole : (tR tx (p + 1)).1 3 = 4 → (tR tx (p + 1)).1 2 = (tR tx p).1 2 → mtR f g ((tR tx p).1 2) (gRn (tR tx (p + 1)) x) → mtI tx len (p + 1) x f g ∧ (tR tx (p + 1)).1 2 = (tR tx p).1 2 := fun a b d => by
    refine ⟨Or.inl ⟨Or.inr (Or.inl a), ?_⟩, b⟩
    rw [b]
    exact d
  rcases hI with ⟨h0 | h0, hR⟩ | ⟨-, ⟨h1, hR⟩ | ⟨h2, hpos, hB, hR⟩⟩
  · rw [rk0 h0] at hk
    unfold atomOk at hk
    rw [if_neg hc.1] at hk
    by_cases e42 : tx p = 42
    · obtain ⟨s3, s2, -, sR⟩ := st_star (T := (tR tx p).2) h0 e42 h60
      have sR := sR x
      rw [← tR_s] at s3 s2 sR
      exact whole s3 s2 (by rw [sR]; exact mt_none ho (by decide) hR hz)
    · by_cases e35 : tx p = 35
      · obtain ⟨s3, s2, -, -, sR⟩ := st_hash (T := (tR tx p).2) h0 e35
        have sR := sR x
        rw [← tR_s] at s3 s2 sR
        refine ⟨Or.inr ⟨by rw [s2]; exact hz, Or.inl ⟨s3, ?_⟩⟩, s2⟩
        rw [s2, sR]
        exact hR
      · rw [decide_eq_false e42, decide_eq_false e35] at hk
        by_cases hl : isLet (tx p) = true
        · obtain ⟨l1, l2⟩ := isLet_spec hl
          obtain ⟨s3, s2, -, sR⟩ := st_let (T := (tR tx p).2) h0 hl h60
          have sR := sR x
          rw [← tR_s] at s3 s2 sR
          have hlt2 : 2 ^ (tx p - 97) < 4096 := Nat.pow_lt_pow_right (m := tx p - 97) (n := 12) (by decide) (by omega)
          exact whole s3 s2 (by rw [sR]; exact mt_none ho (by omega) hR hz)
        · rw [ts_false hl] at hk
          have hd : isDig (tx p) 49 57 = true := by simpa using hk
          obtain ⟨s3, s2, -, -, -, s0, sB⟩ := st_dig (T := (tR tx p).2) h0 hd h60
          have sB := sB x
          rw [← tR_s] at s3 s2 s0 sB
          refine ⟨Or.inr ⟨by rw [s2]; exact hz, Or.inr ⟨Or.inl s3, s0, ?_, fun q => by omega⟩⟩, s2⟩
          rw [s2, sB]
          exact hR
  · rw [(st_beh (T := (tR tx p).2) (h0.b hp)).2, nb] at hk
    cases hk
  · rw [rk1 h1] at hk
    obtain ⟨d1, d2⟩ := isDig_spec hk
    obtain ⟨s3, s2, -, s0, sR⟩ := st_num (c := tx p) (T := (tR tx p).2) h1 h60
    obtain ⟨sR, sB⟩ := sR x
    rw [← tR_s] at s3 s2 s0 sR sB
    have hN : mtR f g ((tR tx p).1 2) (gRn (tR tx (p + 1)) x) := by rw [sR]; exact mt_none ho (by omega) hR hz
    by_cases e49 : tx p = 49
    · rw [if_pos e49] at s3
      refine ⟨Or.inr ⟨by rw [s2]; exact hz, Or.inr ⟨Or.inr (Or.inr (Or.inr s3)), s0, ?_, fun _ => ?_⟩⟩, s2⟩
      · rw [s2, sB]
        exact hR
      · rw [s2]
        exact hN
    · rw [if_neg e49] at s3
      exact whole s3 s2 hN
  · have hi45 := hi.2.2.2.2
    have lets : ((tR tx p).1 3 = 3 ∨ (tR tx p).1 3 = 5) → isLet (tx p) = true → mtI tx len (p + 1) x f g ∧ (tR tx (p + 1)).1 2 = (tR tx p).1 2 := fun h35 hl => by
      obtain ⟨l1, l2⟩ := isLet_spec hl
      obtain ⟨s3, s2, -, s0, -, -, sR⟩ := st_l35 (c := tx p) (T := (tR tx p).2) h35 hl hpos
      obtain ⟨sB, sR⟩ := sR x
      rw [← tR_s] at s3 s2 s0 sR sB
      obtain ⟨i4, i5⟩ := hi45 (Or.inr h35)
      have := or_lt12 i5 (k := tx p - 97) (by omega)
      refine ⟨Or.inr ⟨by rw [s2]; exact hz, Or.inr ⟨Or.inr (Or.inr (Or.inl s3)), by rw [s0]; exact hpos, ?_, fun _ => ?_⟩⟩, s2⟩
      · rw [s2, sB]
        exact hB
      · rw [s2, sR]
        exact mt_none ho (by omega) hB hz
    rcases h2 with h2 | h2 | h2 | h2
    · obtain ⟨s3, s2, -, s0, -, -, sB⟩ := st_col (c := tx p) (T := (tR tx p).2) h2
      have sB := sB x
      rw [← tR_s] at s3 s2 s0 sB
      refine ⟨Or.inr ⟨by rw [s2]; exact hz, Or.inr ⟨Or.inr (Or.inl s3), by rw [s0]; exact hpos, ?_, fun q => by omega⟩⟩, s2⟩
      rw [s2, sB]
      exact hB
    · rw [rk3 h2] at hk
      exact lets (Or.inl h2) hk
    · rw [rk5 h2, nb, Bool.or_false] at hk
      exact lets (Or.inr h2) hk
    · rw [rk6 h2, nb, Bool.or_false] at hk
      obtain ⟨d1, d2⟩ := isDig_spec hk
      obtain ⟨s3, s2, -, sR⟩ := st_sec (c := tx p) (T := (tR tx p).2) h2 hk hpos
      have sR := sR x
      rw [← tR_s] at s3 s2 sR
      exact whole s3 s2 (by rw [sR]; exact mt_none ho (by omega) hB hz)
/-- at the end -/
theorem cl_end (hI : mtI tx len len x f g) (hw : rdWhole (tR tx len).1 = true) : (tR tx len).1 2 = 0 ∧ f 0 = b2i (ib (gRn (tR tx len) x).1 0) ∧ g 0 = b2i (ib (gRn (tR tx len) x).2 0) := by
  unfold rdWhole at hw
  simp only [Bool.and_eq_true, decide_eq_true_eq] at hw
  obtain ⟨w4, w0⟩ := hw
  have hR : mtR f g ((tR tx len).1 2) (gRn (tR tx len) x) := by
    rcases hI with ⟨-, hR⟩ | ⟨-, ⟨h1, -⟩ | ⟨h2, -, -, hR⟩⟩
    · exact hR
    · omega
    · exact hR (by omega)
  have := mt_0 hR
  rw [w0] at this
  exact ⟨w0, this⟩
end TXD
