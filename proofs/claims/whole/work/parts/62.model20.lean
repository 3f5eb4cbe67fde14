/-! THE REFERENCE: an atom of the text, and a set -/
theorem atomMet_n {a g x : Nat} (ha : a < 64) (hg : g < 4096) : atomMet (nI (a * 4096 + g)) x = decide (nI a ≤ nI (pop (x &&& g))) := by
  unfold atomMet
  have e1 : nI (a * 4096 + g) >>> ((12 : Int32) &&& 31) = nI a := by
    rw [pk_shrN (n := a * 4096 + g) (by omega) ((12 : Int32) &&& 31) 12 (by decide)]
    congr 1
    omega
  have e2 : low (nI (a * 4096 + g)) = g := by
    unfold low
    rw [pk_andN (n := a * 4096 + g) (by omega) (m := 4095) 12 (by decide), pk_tn (Nat.lt_trans (Nat.mod_lt _ (by decide)) (by decide))]
    omega
  rw [e1, e2]
theorem pop_0 : pop 0 = 0 := by decide
theorem and_4095 {x : Nat} (hx : x < 4096) : x &&& 4095 = x := by
  rw [show (4095 : Nat) = 2 ^ 12 - 1 by decide, Nat.and_two_pow_sub_one_eq_mod]
  exact Nat.mod_eq_of_lt hx
theorem pop_two {k : Nat} (hk : k < 12) : 0 < pop (2 ^ k) := bit_pos hk (by rw [Nat.testBit_two_pow]; exact decide_eq_true rfl)
/-- what an atom ends with: the place behind it, and what its step says -/
def atP (tx : Nat → Nat) (len p x : Nat) (b : Bool) (p' : Nat) : Prop := p < p' ∧ p' ≤ len ∧ rsE tx len p' ∧ (tR tx p').1 2 = (tR tx p).1 2 ∧ ∃ n, n < 300000 ∧ b = atomMet (nI n) x ∧ gRn (tR tx p') x = gcStep (nI n) x (gRn (tR tx p) x)
def atQ (K : hK) (H : hAH) (m : Nat) (c : Nat → Int32) (B : Nat → Nat → Int32) (tx : Nat → Nat) (len p L x : Nat) : hPost := fun r H' => ∃ b p', r = some (.int (b2i b)) ∧ atP tx len p x b p' ∧ RMo K H' m (pl c p' L) B ∧ hFr m (m + 11) H H'
section TXC
variable {K : hK} {H : hAH} {m len p L x : Nat} {c : Nat → Int32} {B : Nat → Nat → Int32} {tx : Nat → Nat}
theorem ok_st {p : Nat} (g : gdTo tx len) (hw : rdWhole (tR tx len).1 = true) (hp : p ≤ len) (h4 : (tR tx p).1 3 < 4) : p < len ∧ rdOk (tR tx p).1 (tx p) = true := by
  by_cases e : p < len
  · exact ⟨e, g p e⟩
  · obtain rfl : p = len := by omega
    unfold rdWhole at hw
    rw [decide_eq_false (by omega)] at hw
    cases hw
theorem gdTo.le {p q : Nat} (g : gdTo tx p) (h : q ≤ p) : gdTo tx q := fun i hi => g i (by omega)
set_option maxRecDepth 100000 in
set_option maxHeartbeats 4000000 in
/-- the number's end -/
theorem l_atN0 {Q : hPost} {q k : Nat} {w1 : Int32} (t : tXo c B tx len) (hx : x < 4096) (hq : q ≤ len) (hd : digAt tx len q 48 57 = false) (h : RMo K H m (pl c q L) B) (hend : Q (some (.int (b2i (decide (nI k ≤ nI (pop x)))))) H) : hJ K M_Mo_atom (0, 0) Q 16 (0, 0) [some (.ref m), some (.int w1), some (.int (nI x)), some (.int (nI k))] [] H := by
  have hlen := t.2.1
  have tl : ∀ j, j < len → tx j < 65536 := fun j hj => (t.2.2 j hj).2
  refine hGo_sound (okc_Mo_atom K _ _) [16] 40 _ _ _ _ _ ?_
  refine ⟨_, h.1, _, h.1, _, c_Mo_charAt h (t.pl q L) pl_3 (by omega), ?_⟩
  rintro _ H ⟨rfl, rfl⟩
  refine ⟨_, c_Mo_in K H _ _ _, ?_⟩
  rintro _ H ⟨rfl, rfl⟩
  have ed : decide ((48 : Int32) ≤ chI tx len q ∧ chI tx len q ≤ 57) = digAt tx len q 48 57 := chI_in tl (a := 48) (b := 57) (by decide) (by decide)
  rw [b2i_if, ed, hd]
  refine ⟨fun _ => ?_, fun z => absurd rfl z⟩
  refine ⟨_, c_Mo_ones K H hx, ?_⟩
  rintro _ H ⟨rfl, rfl⟩
  refine ⟨fun z => ⟨Or.inl rfl, ?_⟩, fun z => ⟨Or.inr rfl, ?_⟩⟩
  · rw [decide_eq_false (Int32.not_le.mpr z)] at hend
    exact hend
  · rw [decide_eq_true (Int32.not_lt.mp z)] at hend
    exact hend
set_option maxRecDepth 100000 in
set_option maxHeartbeats 4000000 in
/-- one digit of it -/
theorem l_atN1 {Q : hPost} {H0 : hAH} {q k : Nat} {w1 : Int32} (t : tXo c B tx len) (hd : digAt tx len q 48 57 = true) (h : RMo K H m (pl c q L) B) (f : hFr m (m + 11) H0 H) (hend : ∀ H2, RMo K H2 m (pl c (q + 1) L) B → hFr m (m + 11) H0 H2 → hJ K M_Mo_atom (0, 0) Q 16 (0, 0) [some (.ref m), some (.int w1), some (.int (nI x)), some (.int (nI (10 * k + (tx q - 48))))] [] H2) : hJ K M_Mo_atom (0, 0) Q 16 (0, 0) [some (.ref m), some (.int w1), some (.int (nI x)), some (.int (nI k))] [] H := by
  have hlen := t.2.1
  have tl : ∀ j, j < len → tx j < 65536 := fun j hj => (t.2.2 j hj).2
  obtain ⟨hlt, hd2⟩ := digAt_t hd
  obtain ⟨d1, d2⟩ := isDig_spec hd2
  obtain ⟨t4, t5⟩ := t.2.2 q hlt
  refine hGo_sound (okc_Mo_atom K _ _) [16] 60 _ _ _ _ _ ?_
  refine ⟨_, h.1, _, h.1, _, c_Mo_charAt h (t.pl q L) pl_3 (by omega), ?_⟩
  rintro _ H ⟨rfl, rfl⟩
  refine ⟨_, c_Mo_in K H _ _ _, ?_⟩
  rintro _ H ⟨rfl, rfl⟩
  have ed : decide ((48 : Int32) ≤ chI tx len q ∧ chI tx len q ≤ 57) = digAt tx len q 48 57 := chI_in tl (a := 48) (b := 57) (by decide) (by decide)
  rw [b2i_if, ed, hd]
  refine ⟨fun z => absurd z (by decide), fun _ => ?_⟩
  refine ⟨_, h.1, _, h.1, 60, _, q, Or.inl h.tx, pl_3, by omega, by decide, ?_⟩
  refine ⟨_, h.1, _, h.1, trivial, fun H2 u2 => ?_⟩
  have ev : 10 * nI k + B 3 q - 48 = nI (10 * k + (tx q - 48)) := by
    rw [t4]
    show nI 10 * nI k + nI (tx q) - nI 48 = _
    rw [pk_mul, nI_add, isub (by omega)]
    congr 1
    omega
  rw [ev]
  exact hend H2 (h.inc u2) (f.trans (u2.fr' (by omega) (by omega)))
set_option maxRecDepth 100000 in
set_option maxHeartbeats 4000000 in
theorem l_atL {Q : hPost} {H0 : hAH} {n : Nat} (t : tXo c B tx len) (g : gdTo tx len) (hw : rdWhole (tR tx len).1 = true) (hx : x < 4096) (hn : tx p = n + 48) (hn9 : n ≤ 9) (hend : ∀ b p' H2, atP tx len p x b p' → RMo K H2 m (pl c p' L) B → hFr m (m + 11) H0 H2 → Q (some (.int (b2i b))) H2) : ∀ (d q : Nat) (H1 : hAH), q + d = len → p < q → ((tR tx q).1 3 = 3 ∨ ((tR tx q).1 3 = 5 ∧ gRn (tR tx q) x = gcStep (nI (n * 4096 + (tR tx q).1 5)) x (gRn (tR tx p) x))) → (tR tx q).1 4 = n → (tR tx q).1 2 = (tR tx p).1 2 → 0 < (tR tx q).1 0 → gBs (tR tx q) x = gRn (tR tx p) x → RMo K H1 m (pl c q L) B → hFr m (m + 11) H0 H1 → hJ K M_Mo_atom (0, 0) Q 106 (0, 0) [some (.ref m), some (.int (nI (tx p))), some (.int (nI x)), some (.int (nI ((tR tx q).1 5)))] [] H1 := by
  have hlen := t.2.1
  have out : ∀ (q : Nat) (H1 : hAH), q ≤ len → p < q → letAt tx len q = false → ((tR tx q).1 3 = 3 ∨ ((tR tx q).1 3 = 5 ∧ gRn (tR tx q) x = gcStep (nI (n * 4096 + (tR tx q).1 5)) x (gRn (tR tx p) x))) → (tR tx q).1 2 = (tR tx p).1 2 → RMo K H1 m (pl c q L) B → hFr m (m + 11) H0 H1 → hJ K M_Mo_atom (0, 0) Q 143 (0, 0) [some (.ref m), some (.int (nI (tx p))), some (.int (nI x)), some (.int (nI ((tR tx q).1 5)))] [] H1 := by
    intro q H1 hq hpq hl hs h2 h f
    have hI := (g.le hq).inv
    rcases hs with e3 | ⟨e5, er⟩
    · obtain ⟨a1, a2⟩ := ok_st g hw hq (by omega)
      unfold rdOk at a2
      rw [if_neg (by omega), if_neg (by omega), if_neg (by omega), if_pos e3, letAt_f hl a1] at a2
      cases a2
    · have h5 : (tR tx q).1 5 < 4096 := (hI.2.2.2.2 (Or.inr (Or.inr e5))).2
      have hy : x &&& (tR tx q).1 5 < 4096 := Nat.lt_of_le_of_lt Nat.and_le_left hx
      have ea : nI x &&& nI ((tR tx q).1 5) = nI (x &&& (tR tx q).1 5) := nI_and _ _
      have ec : nI (tx p) - 48 = nI n := by
        rw [hn]
        have := isub (c := n + 48) (n := 48) (by omega)
        rw [Nat.add_sub_cancel] at this
        exact this
      have eb := atomMet_n (a := n) (g := (tR tx q).1 5) (x := x) (by omega) h5
      have hat : ∀ b, b = decide (nI n ≤ nI (pop (x &&& (tR tx q).1 5))) → atP tx len p x b q := fun b hb => ⟨hpq, hq, Or.inr (Or.inl ⟨e5, hl⟩), h2, n * 4096 + (tR tx q).1 5, by omega, by rw [eb]; exact hb, er⟩
      refine hGo_sound (okc_Mo_atom K _ _) [106] 40 _ _ _ _ _ ?_
      refine ⟨_, ea ▸ c_Mo_ones K H1 hy, ?_⟩
      rintro _ H1 ⟨rfl, rfl⟩
      refine ⟨fun z => ?_, fun z => ?_⟩
      · rw [ec] at z
        exact ⟨Or.inl rfl, hend false q _ (hat _ (decide_eq_false (Int32.not_le.mpr z)).symm) h f⟩
      · rw [ec] at z
        exact ⟨Or.inr rfl, hend true q _ (hat _ (decide_eq_true (Int32.not_lt.mp z)).symm) h f⟩
  intro d
  induction d with
  | zero =>
    intro q H1 hd hpq hs h4 h2 h0 hb h f
    have hl : letAt tx len q = false := by
      unfold letAt
      rw [decide_eq_false (by omega)]; rfl
    refine hGo_sound (okc_Mo_atom K _ _) [106, 143] 40 _ _ _ _ _ ?_
    refine ⟨_, h.1, _, c_Mo_isLetter h (t.pl q L) pl_3 (by omega), ?_⟩
    rintro _ H1 ⟨rfl, rfl⟩
    refine ⟨fun _ => ?_, fun z => absurd (b2i_n0.mp z) (by rw [hl]; decide)⟩
    exact out q _ (by omega) hpq hl hs h2 h f
  | succ d ih =>
    intro q H1 hd hpq hs h4 h2 h0 hb h f
    refine hGo_sound (okc_Mo_atom K _ _) [106, 143] 40 _ _ _ _ _ ?_
    refine ⟨_, h.1, _, c_Mo_isLetter h (t.pl q L) pl_3 (by omega), ?_⟩
    rintro _ H1 ⟨rfl, rfl⟩
    refine ⟨fun z => ?_, fun z => ?_⟩
    · exact out q _ (by omega) hpq (b2i_0.mp z) hs h2 h f
    · obtain ⟨hlt, hl⟩ := letAt_t (b2i_n0.mp z)
      obtain ⟨t4, t5⟩ := t.2.2 q hlt
      have h35 : (tR tx q).1 3 = 3 ∨ (tR tx q).1 3 = 5 := hs.imp id (fun z => z.1)
      obtain ⟨s3, s2, -, s0, s4, s5, sR⟩ := st_l35 (P := (tR tx q).1) (T := (tR tx q).2) (c := tx q) h35 hl h0
      rw [← tR_s] at s3 s2 s0 s4 s5
      obtain ⟨sB, sR⟩ := sR x
      rw [← tR_s] at sB sR
      have ev : nI ((tR tx q).1 5) ||| ((1 : Int32) <<< ((B 3 q - 97) &&& 31)) = nI ((tR tx (q + 1)).1 5) := by rw [t4, letBit hl, s5]
      refine ⟨_, h.1, _, h.1, 60, _, q, Or.inl h.tx, pl_3, by omega, by decide, ?_⟩
      refine ⟨_, h.1, _, h.1, trivial, fun H2 u2 => ?_⟩
      have hb' : gBs (tR tx q) x = gRn (tR tx p) x := hb
      have er : gRn (tR tx (q + 1)) x = gcStep (nI (n * 4096 + (tR tx (q + 1)).1 5)) x (gRn (tR tx p) x) := by
        rw [sR, s5, h4]
        show gcStep _ x (gBs (tR tx q) x) = _
        rw [hb']
      have key := ih (q + 1) H2 (by omega) (by omega) (Or.inr ⟨s3, er⟩) (s4.trans h4) (s2.trans h2) (by rw [s0]; exact h0) (sB.trans hb) (h.inc u2) (f.trans (u2.fr' (by omega) (by omega)))
      rw [← ev] at key
      exact key
set_option maxRecDepth 100000 in
set_option maxHeartbeats 4000000 in
theorem c_Mo_atom (t : tXo c B tx len) (g : gdTo tx len) (hw : rdWhole (tR tx len).1 = true) (hx : x < 4096) (hlt : p < len) (h3 : (tR tx p).1 3 = 0) (n40 : tx p ≠ 40) (h : RMo K H m (pl c (p + 1) L) B) : hCT K M_Mo_atom [.ref m, .int (nI (tx p)), .int (nI x)] H 0 0 (atQ K H m c B tx len p L x) := by
  have hlen := t.2.1
  have tl : ∀ j, j < len → tx j < 65536 := fun j hj => (t.2.2 j hj).2
  have htp := tl p hlt
  have h60 : (tR tx p).1 0 < 60 := by
    have := tR_0 tx p
    omega
  have rest : ∀ b p' H2, atP tx len p x b p' → RMo K H2 m (pl c p' L) B → hFr m (m + 11) H H2 → atQ K H m c B tx len p L x (some (.int (b2i b))) H2 := fun b p' H2 q1 q2 q3 => ⟨b, p', rfl, q1, q2, q3⟩
  have hk : atomOk ((tR tx p).1 2) (tx p) = true := by
    have := g p hlt
    unfold rdOk at this
    rw [if_pos h3] at this
    exact this
  unfold atomOk at hk
  rw [if_neg n40] at hk
  refine hCT.go (okc_Mo_atom K _ _) [16, 106] 60 (by decide +kernel) rfl rfl ?_
  refine ⟨fun n42 => ⟨fun n35 => ⟨fun q97 => ?_, fun q97 => ?_⟩, fun i35 => ?_⟩, fun i42 => ?_⟩
  · -- n of some
    have q97 : tx p < 97 := by
      have := (nI_ltI (b := 97) (by omega) (by omega)).mp q97
      exact this
    have e42 : ¬ tx p = 42 := fun q => n42 (by rw [q]; rfl)
    have e35 : ¬ tx p = 35 := fun q => n35 (by rw [q]; rfl)
    have el : isLet (tx p) = false := by
      unfold isLet
      rw [decide_eq_false (by omega)]; rfl
    rw [decide_eq_false e42, decide_eq_false e35, el] at hk
    have hd : isDig (tx p) 49 57 = true := by simpa using hk
    obtain ⟨d1, d2⟩ := isDig_spec hd
    obtain ⟨s3, s2, -, s4, s5, s0, sB⟩ := st_dig (T := (tR tx p).2) h3 hd h60
    have sB := sB x
    rw [← tR_s] at s3 s2 s4 s5 s0 sB
    obtain ⟨a1, a2⟩ := ok_st g hw (show p + 1 ≤ len by omega) (by omega)
    have e58 : tx (p + 1) = 58 := by
      unfold rdOk at a2
      rw [if_neg (by omega), if_neg (by omega), if_pos s3] at a2
      exact of_decide_eq_true a2
    obtain ⟨r3, r2, -, r0, r4, r5, rB⟩ := st_col (c := tx (p + 1)) (T := (tR tx (p + 1)).2) s3
    have rB := rB x
    rw [← tR_s] at r3 r2 r0 r4 r5 rB
    refine ⟨_, h.1, _, h.1, trivial, fun H2 u2 => ?_⟩
    have k2 : RMo K H2 m (pl c (p + 1 + 1) L) B := h.inc u2
    have := l_atL (H0 := H) (n := tx p - 48) t g hw hx (by omega) (by omega) rest (len - (p + 1 + 1)) (p + 1 + 1) H2 (by omega) (by omega) (Or.inl r3) (r4.trans s4) (r2.trans s2) (by rw [r0]; exact s0) (rB.trans sB) k2 (u2.fr' (by omega) (by omega))
    rw [r5, s5] at this
    exact this
  · -- a letter
    have q97 : 97 ≤ tx p := Nat.le_of_not_lt fun q => q97 (nI_lt (b := 97) q (by omega))
    have e42 : ¬ tx p = 42 := fun q => by omega
    have e35 : ¬ tx p = 35 := fun q => by omega
    have ed : isDig (tx p) 49 57 = false := by
      unfold isDig
      rw [decide_eq_false (p := tx p ≤ 57) (by omega), Bool.and_false]
    rw [decide_eq_false e42, decide_eq_false e35, ed] at hk
    have hl : isLet (tx p) = true := by simpa using hk
    obtain ⟨l1, l2⟩ := isLet_spec hl
    obtain ⟨s3, s2, -, sR⟩ := st_let (T := (tR tx p).2) h3 hl h60
    have sR := sR x
    rw [← tR_s] at s3 s2 sR
    have es : nI (tx p) - 97 = nI (tx p - 97) := isub (n := 97) l1
    have hlt2 : 2 ^ (tx p - 97) < 4096 := Nat.pow_lt_pow_right (m := tx p - 97) (n := 12) (by decide) (by omega)
    refine ⟨_, es ▸ c_Mo_has K H x (k := tx p - 97) (by omega), ?_⟩
    rintro _ H ⟨rfl, rfl⟩
    refine ⟨b2i_01 _, rest _ (p + 1) H ⟨by omega, by omega, Or.inl s3, s2, 1 * 4096 + 2 ^ (tx p - 97), by omega, ?_, sR⟩ h hFr.rfl⟩
    rw [atomMet_n (by decide) hlt2, and_pow]
    cases hb : x.testBit (tx p - 97)
    · rw [if_neg (by decide), pop_0]
      rfl
    · rw [if_pos rfl]
      have h1 := pop_two (k := tx p - 97) (by omega)
      have h2 := pop_le (2 ^ (tx p - 97))
      exact (decide_eq_true (nI_le (a := 1) h1 (by omega))).symm
  · -- a number of guests
    have i35 : tx p = 35 := (ieq (n := 35) htp (by decide)).mp i35
    obtain ⟨s3, s2, -, s0, sR⟩ := st_hash (T := (tR tx p).2) h3 i35
    have sR := sR x
    rw [← tR_s] at s3 s2 s0 sR
    obtain ⟨a1, a2⟩ := ok_st g hw (show p + 1 ≤ len by omega) (by omega)
    have hd : isDig (tx (p + 1)) 49 57 = true := by
      unfold rdOk at a2
      rw [if_neg (by omega), if_pos s3] at a2
      exact a2
    obtain ⟨d1, d2⟩ := isDig_spec hd
    obtain ⟨r3, r2, -, r0, rR⟩ := st_num (c := tx (p + 1)) (T := (tR tx (p + 1)).2) s3 (by rw [s0]; exact h60)
    obtain ⟨rR, rB⟩ := rR x
    rw [← tR_s] at r3 r2 r0 rR rB
    have hD : digAt tx len (p + 1) 48 57 = true := by
      unfold digAt isDig
      rw [decide_eq_true a1, decide_eq_true (show 48 ≤ tx (p + 1) by omega), decide_eq_true d2]
      rfl
    -- no digit follows
    have nodig : ∀ q, q ≤ len → rsB (tR tx q).1 (tx q) → digAt tx len q 48 57 = false := by
      intro q hq hs
      cases hdd : digAt tx len q 48 57
      · rfl
      · obtain ⟨z1, z2⟩ := digAt_t hdd
        obtain ⟨z3, z4⟩ := isDig_spec z2
        have := g q z1
        rw [(st_beh (T := (tR tx q).2) hs).2] at this
        unfold behOk at this
        rw [if_neg (by omega), decide_eq_false (by omega), decide_eq_false (by omega)] at this
        cases this
    refine l_atN1 (H0 := H) (q := p + 1) (k := 0) (x := x) t hD h hFr.rfl (fun H2 k2 f2 => ?_)
    have ek : 10 * 0 + (tx (p + 1) - 48) = tx (p + 1) - 48 := by omega
    rw [ek]
    have e2 : gRn (tR tx (p + 1 + 1)) x = gcStep (nI ((tx (p + 1) - 48) * 4096 + 4095)) x (gRn (tR tx p) x) := rR.trans (congrArg _ sR)
    -- it ends behind one digit
    have one : rsE tx len (p + 1 + 1) → digAt tx len (p + 1 + 1) 48 57 = false → hJ K M_Mo_atom (0, 0) (atQ K H m c B tx len p L x) 16 (0, 0) [some (.ref m), some (.int (nI (tx p))), some (.int (nI x)), some (.int (nI (tx (p + 1) - 48)))] [] H2 := fun hs hn => by
      refine l_atN0 t hx (by omega) hn k2 (rest _ (p + 1 + 1) H2 ⟨by omega, by omega, hs, r2.trans s2, (tx (p + 1) - 48) * 4096 + 4095, by omega, ?_, e2⟩ k2 f2)
      rw [atomMet_n (by omega) (by decide), and_4095 hx]
    by_cases e49 : tx (p + 1) = 49
    · rw [if_pos e49] at r3
      cases h6 : digAt tx len (p + 1 + 1) 48 50
      · have hs : rsE tx len (p + 1 + 1) := Or.inr (Or.inr ⟨r3, h6⟩)
        refine one hs ?_
        by_cases hz : p + 1 + 1 < len
        · exact nodig _ (by omega) (hs.b hz)
        · unfold digAt
          rw [decide_eq_false hz]; rfl
      · obtain ⟨b1, b2⟩ := digAt_t h6
        obtain ⟨b3, b4⟩ := isDig_spec b2
        obtain ⟨v3, v2, -, vR⟩ := st_sec (c := tx (p + 1 + 1)) (T := (tR tx (p + 1 + 1)).2) r3 b2 r0
        have vR := vR x
        rw [← tR_s] at v3 v2 vR
        have hD2 : digAt tx len (p + 1 + 1) 48 57 = true := by
          unfold digAt isDig
          rw [decide_eq_true b1, decide_eq_true b3, decide_eq_true (show tx (p + 1 + 1) ≤ 57 by omega)]
          rfl
        refine l_atN1 (H0 := H) (q := p + 1 + 1) (k := tx (p + 1) - 48) (x := x) t hD2 k2 f2 (fun H3 k3 f3 => ?_)
        have ek2 : 10 * (tx (p + 1) - 48) + (tx (p + 1 + 1) - 48) = tx (p + 1 + 1) - 38 := by omega
        rw [ek2]
        have hs : rsE tx len (p + 1 + 1 + 1) := Or.inl v3
        have hn : digAt tx len (p + 1 + 1 + 1) 48 57 = false := by
          by_cases hz : p + 1 + 1 + 1 < len
          · exact nodig _ (by omega) (hs.b hz)
          · unfold digAt
            rw [decide_eq_false hz]; rfl
        refine l_atN0 t hx (by omega) hn k3 (rest _ (p + 1 + 1 + 1) H3 ⟨by omega, by omega, hs, (v2.trans r2).trans s2, (tx (p + 1 + 1) - 38) * 4096 + 4095, by omega, ?_, ?_⟩ k3 f3)
        · rw [atomMet_n (by omega) (by decide), and_4095 hx]
        · rw [vR]
          show gcStep _ x (gBs (tR tx (p + 1 + 1)) x) = _
          rw [rB]
          exact congrArg _ sR
    · rw [if_neg e49] at r3
      refine one (Or.inl r3) ?_
      by_cases hz : p + 1 + 1 < len
      · exact nodig _ (by omega) (Or.inl r3)
      · unfold digAt
        rw [decide_eq_false hz]; rfl
  · -- always met
    have i42 : tx p = 42 := (ieq (n := 42) htp (by decide)).mp i42
    obtain ⟨s3, s2, -, sR⟩ := st_star (T := (tR tx p).2) h3 i42 h60
    have sR := sR x
    rw [← tR_s] at s3 s2 sR
    refine ⟨Or.inr rfl, rest true (p + 1) H ⟨by omega, by omega, Or.inl s3, s2, 0, by decide, ?_, sR⟩ h hFr.rfl⟩
    have := atomMet_n (a := 0) (g := 0) (x := x) (by decide) (by decide)
    rw [show 0 * 4096 + 0 = 0 by decide] at this
    rw [this]
    exact (decide_eq_true (nI_le (a := 0) (Nat.zero_le _) (by have := pop_le (x &&& 0); omega))).symm
end TXC
