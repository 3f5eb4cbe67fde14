/-! the reader: its picture, and each of its methods over numbers -/
def reCell (a : Nat) (P : Nat → Nat) : va_E := hObj 2 [.ref (a + 1), .int (nI (P 0)), .int (nI (P 1)), .int (nI (P 2)), .int (nI (P 3)), .int (nI (P 4)), .int (nI (P 5))]
def RRe (K : hK) (H : hAH) (a : Nat) (P : Nat → Nat) (T : Nat → Int32) : Prop := H.2 a = some (reCell a P) ∧ H.2 (a + 1) = some (hInts K 0 60 T)
def up (P : Nat → Nat) (k v : Nat) : Nat → Nat := fun j => if j = k then v else P j
abbrev rdQ : Type := (Nat → Nat) × (Nat → Int32)
def rdInv (P : Nat → Nat) : Prop := P 0 ≤ 60 ∧ P 1 < 4096 ∧ P 2 ≤ 8 ∧ P 3 ≤ 6 ∧ (P 3 = 2 ∨ P 3 = 3 ∨ P 3 = 5 → P 4 ≤ 9 ∧ P 5 < 4096)
def pAdd (q : rdQ) (st : Int32) : rdQ := if q.1 0 < 60 then (up q.1 0 (q.1 0 + 1), upd q.2 (q.1 0) st) else q
def pChg (q : rdQ) (st : Int32) : rdQ := if 0 < q.1 0 then (q.1, upd q.2 (q.1 0 - 1) st) else q
theorem RRe.up1 {K : hK} {H H' : hAH} {a : Nat} {P P' : Nat → Nat} {T : Nat → Int32} {c : va_E} (h : RRe K H a P T) (u : hUpd H a c H') (hc : c = reCell a P') : RRe K H' a P' T := by
  subst hc
  exact ⟨u.2.1, (u.2.2 _ (by omega)).trans h.2⟩
set_option maxRecDepth 100000 in
set_option maxHeartbeats 4000000 in
theorem c_addStep {K : hK} {H : hAH} {a : Nat} {P : Nat → Nat} {T : Nat → Int32} (hR : RRe K H a P T) (h0 : P 0 ≤ 60) (v : Int32) : hCT K M_Re_addStep [.ref a, .int v] H 0 0 (fun r H' => r = none ∧ RRe K H' a (pAdd (P, T) v).1 (pAdd (P, T) v).2 ∧ hFr a (a + 2) H H') := by
  refine hCT.go (okc_Re_addStep K _ _) [] 60 (by decide +kernel) rfl rfl ?_
  refine ⟨_, hR.1, fun h => absurd h (nI_pos (by omega)), fun _ => ⟨_, hR.1, _, hR.1, 60, Or.inl ⟨0, _, by decide, hR.2⟩, fun h => ?_, fun h => ?_⟩⟩
  · have hz : ¬ P 0 < 60 := fun q => nI_ge (b := 60) q (by omega) h
    unfold pAdd
    rw [if_neg hz]
    exact ⟨rfl, hR, hFr.rfl⟩
  · have hz : P 0 < 60 := Nat.lt_of_not_le fun q => h (nI_le (a := 60) q (by omega))
    unfold pAdd
    rw [if_pos hz]
    refine ⟨_, hR.1, _, hR.1, 60, T, P 0, hR.2, rfl, hz, by decide, fun H1 u1 => ?_⟩
    have e1 := (u1.2.2 a (by omega)).trans hR.1
    refine ⟨_, e1, _, e1, trivial, fun H2 u2 => ⟨rfl, ⟨?_, ?_⟩, (u1.fr' (by omega) (by omega)).trans (u2.fr' (by omega) (by omega))⟩⟩
    · rw [u2.2.1]
      show some (hObj 2 [.ref (a + 1), .int (nI (P 0) + 1), .int (nI (P 1)), .int (nI (P 2)), .int (nI (P 3)), .int (nI (P 4)), .int (nI (P 5))]) = _
      rw [nI_1]
      rfl
    · rw [u2.2.2 _ (by omega)]; exact u1.2.1
set_option maxRecDepth 100000 in
set_option maxHeartbeats 4000000 in
theorem c_changeLastStep {K : hK} {H : hAH} {a : Nat} {P : Nat → Nat} {T : Nat → Int32} (hR : RRe K H a P T) (h0 : P 0 ≤ 60) (v : Int32) : hCT K M_Re_changeLastStep [.ref a, .int v] H 0 0 (fun r H' => r = none ∧ RRe K H' a (pChg (P, T) v).1 (pChg (P, T) v).2 ∧ hFr a (a + 2) H H') := by
  refine hCT.go (okc_Re_changeLastStep K _ _) [] 60 (by decide +kernel) rfl rfl ?_
  refine ⟨_, hR.1, fun h => ?_, fun h => ⟨_, hR.1, _, hR.1, 60, Or.inl ⟨0, _, by decide, hR.2⟩, fun h2 => ?_, fun h2 => ?_⟩⟩
  · have hz : ¬ 0 < P 0 := fun q => nI_nle q (by omega) h
    unfold pChg
    rw [if_neg hz]
    exact ⟨rfl, hR, hFr.rfl⟩
  · exact absurd h2 (nI_nlt (a := 60) h0 (by omega))
  · have hz : 0 < P 0 := by
      refine Nat.pos_of_ne_zero fun q => h ?_
      rw [q]; decide
    unfold pChg
    rw [if_pos hz]
    refine ⟨_, hR.1, _, hR.1, 60, T, P 0 - 1, hR.2, ?_, by omega, by decide, fun H1 u1 => ⟨rfl, ⟨(u1.2.2 a (by omega)).trans hR.1, u1.2.1⟩, u1.fr' (by omega) (by omega)⟩⟩
    show nI (P 0) - 1 = _
    rw [← nI_pred (P 0 - 1), Nat.sub_add_cancel hz]
def isLet (c : Nat) : Bool := decide (97 ≤ c) && decide (c < 109)
def isDig (c a b : Nat) : Bool := decide (a ≤ c) && decide (c ≤ b)
set_option maxRecDepth 100000 in
set_option maxHeartbeats 4000000 in
theorem c_isLetter (K : hK) (H : hAH) {c : Nat} (hc : c < 65536) : hCT K M_Re_isLetter [.int (nI c)] H 0 0 (fun r H' => r = some (.int (b2i (isLet c))) ∧ H' = H) := by
  refine hCT.go (okc_Re_isLetter K _ _) [] 60 (by decide +kernel) rfl rfl ?_
  refine ⟨fun h => ⟨Or.inl rfl, ?_, rfl⟩, fun h => ⟨fun h2 => ⟨Or.inl rfl, ?_, rfl⟩, fun h2 => ⟨Or.inr rfl, ?_, rfl⟩⟩⟩
  · rw [isLet, decide_eq_false (fun q => nI_nlt (b := 97) q (by omega) h)]; rfl
  · rw [isLet, decide_eq_false (p := c < 109) (fun q => nI_ge (b := 109) q (by omega) h2), Bool.and_false]; rfl
  · have a1 : 97 ≤ c := Nat.le_of_not_lt fun q => h (nI_lt (b := 97) q (by omega))
    have a2 : c < 109 := Nat.lt_of_not_le fun q => h2 (nI_le (a := 109) q (by omega))
    rw [isLet, decide_eq_true a1, decide_eq_true a2]; rfl
set_option maxRecDepth 100000 in
set_option maxHeartbeats 4000000 in
theorem c_isDigit (K : hK) (H : hAH) {c a b : Nat} (hc : c < 65536) (ha : a < 100) (hb : b < 100) : hCT K M_Re_isDigit [.int (nI c), .int (nI a), .int (nI b)] H 0 0 (fun r H' => r = some (.int (b2i (isDig c a b))) ∧ H' = H) := by
  refine hCT.go (okc_Re_isDigit K _ _) [] 60 (by decide +kernel) rfl rfl ?_
  refine ⟨fun h => ⟨Or.inl rfl, ?_, rfl⟩, fun h => ⟨fun h2 => ⟨Or.inl rfl, ?_, rfl⟩, fun h2 => ⟨Or.inr rfl, ?_, rfl⟩⟩⟩
  · rw [isDig, decide_eq_false (fun q => nI_nlt q (by omega) h)]; rfl
  · rw [isDig, decide_eq_false (p := c ≤ b) (fun q => nI_nlt q (by omega) h2), Bool.and_false]; rfl
  · have a1 : a ≤ c := Nat.le_of_not_lt fun q => h (nI_lt q (by omega))
    have a2 : c ≤ b := Nat.le_of_not_lt fun q => h2 (nI_lt q (by omega))
    rw [isDig, decide_eq_true a1, decide_eq_true a2]; rfl
theorem ieq {c n : Nat} (hc : c < 65536) (hn : n < 65536) : nI c = nI n ↔ c = n := ⟨fun h => nI_inj (by omega) (by omega) h, fun h => by rw [h]⟩
theorem isub {c n : Nat} (h : n ≤ c) : nI c - nI n = nI (c - n) := by
  have e : nI c = nI (c - n) + nI n := by rw [nI_add, Nat.sub_add_cancel h]
  rw [e]
  exact Int32.add_sub_cancel _ _
theorem shl12 : ∀ m, m < 64 → nI m <<< ((12 : Int32) &&& 31) = nI (m * 4096) := by decide +kernel
theorem atom_eq {m g : Nat} (hm : m < 64) (hg : g < 4096) : nI m <<< ((12 : Int32) &&& 31) ||| nI g = nI (m * 4096 + g) := by
  rw [shl12 m hm, nI_or]
  congr 1
  have := Nat.two_pow_add_eq_or_of_lt (i := 12) (b := g) (by simpa using hg) m
  rw [Nat.mul_comm m 4096]
  exact this.symm
theorem c_atomOf (K : hK) (H : hAH) {m g : Nat} (hm : m < 64) (hg : g < 4096) : hCT K M_Pa_atomOf [.int (nI m), .int (nI g)] H 0 0 (fun r H' => r = some (.int (nI (m * 4096 + g))) ∧ H' = H) :=
  (c_Pa_atomOf K H (nI m) (nI g)).mono fun r H' h => ⟨by rw [h.1, atom_eq hm hg], h.2⟩
set_option maxRecDepth 100000 in
set_option maxHeartbeats 4000000 in
theorem c_opensBracket {K : hK} {H : hAH} {a : Nat} {P : Nat → Nat} {T : Nat → Int32} (hR : RRe K H a P T) (hI : rdInv P) : hCT K M_Re_opensBracket [.ref a] H 0 0 (fun r H' => r = some (.int (b2i (decide (P 2 < 8)))) ∧ (P 2 < 8 → RRe K H' a (pAdd (up P 2 (P 2 + 1), T) (-1)).1 (pAdd (up P 2 (P 2 + 1), T) (-1)).2) ∧ (∃ P' T', RRe K H' a P' T') ∧ hFr a (a + 2) H H') := by
  obtain ⟨i0, i1, i2, i3, i45⟩ := hI
  refine hCT.go (okc_Re_opensBracket K _ _) [] 60 (by decide +kernel) rfl rfl ?_
  refine ⟨_, hR.1, fun h => ?_, fun h => ?_⟩
  · have hz : P 2 < 8 := Nat.lt_of_not_le fun q => nI_nlt (b := 8) q (by omega) h
    refine ⟨_, hR.1, _, hR.1, trivial, fun H1 u1 => ?_⟩
    have hR1 : RRe K H1 a (up P 2 (P 2 + 1)) T := hR.up1 u1 (by
      show hObj 2 [.ref (a + 1), .int (nI (P 0)), .int (nI (P 1)), .int (nI (P 2) + 1), .int (nI (P 3)), .int (nI (P 4)), .int (nI (P 5))] = _
      rw [nI_1]; rfl)
    refine ⟨_, hR1.1, _, c_addStep hR1 i0 (-1), ?_⟩
    rintro _ H2 ⟨rfl, hR2, f2⟩
    exact ⟨Or.inr rfl, by rw [decide_eq_true hz]; rfl, fun _ => hR2, ⟨_, _, hR2⟩, (u1.fr' (by omega) (by omega)).trans f2⟩
  · have hz : ¬ P 2 < 8 := fun q => h (nI_lt (b := 8) q (by omega))
    exact ⟨Or.inl rfl, by rw [decide_eq_false hz]; rfl, fun q => absurd q hz, ⟨_, _, hR⟩, hFr.rfl⟩
def clQ (P : Nat → Nat) (T : Nat → Int32) : rdQ := (up (pAdd (up P 2 (P 2 - 1), T) (-2)).1 3 4, (pAdd (up P 2 (P 2 - 1), T) (-2)).2)
set_option maxRecDepth 100000 in
set_option maxHeartbeats 4000000 in
theorem c_closesBracket {K : hK} {H : hAH} {a : Nat} {P : Nat → Nat} {T : Nat → Int32} (hR : RRe K H a P T) (hI : rdInv P) : hCT K M_Re_closesBracket [.ref a] H 0 0 (fun r H' => r = some (.int (b2i (decide (0 < P 2)))) ∧ (0 < P 2 → RRe K H' a (clQ P T).1 (clQ P T).2) ∧ (∃ P' T', RRe K H' a P' T') ∧ hFr a (a + 2) H H') := by
  obtain ⟨i0, i1, i2, i3, i45⟩ := hI
  refine hCT.go (okc_Re_closesBracket K _ _) [] 60 (by decide +kernel) rfl rfl ?_
  refine ⟨_, hR.1, fun h => ?_, fun h => ?_⟩
  · have hz : 0 < P 2 := by
      refine Nat.pos_of_ne_zero fun q => ?_
      rw [q] at h
      exact absurd h (by decide)
    refine ⟨_, hR.1, _, hR.1, trivial, fun H1 u1 => ?_⟩
    have hR1 : RRe K H1 a (up P 2 (P 2 - 1)) T := hR.up1 u1 (by
      show hObj 2 [.ref (a + 1), .int (nI (P 0)), .int (nI (P 1)), .int (nI (P 2) - nI 1), .int (nI (P 3)), .int (nI (P 4)), .int (nI (P 5))] = _
      rw [isub hz]; rfl)
    refine ⟨_, hR1.1, _, c_addStep hR1 i0 (-2), ?_⟩
    rintro _ H2 ⟨rfl, hR2, f2⟩
    refine ⟨_, hR2.1, trivial, fun H3 u3 => ?_⟩
    have hR3 : RRe K H3 a (clQ P T).1 (clQ P T).2 := hR2.up1 u3 rfl
    exact ⟨Or.inr rfl, by rw [decide_eq_true hz]; rfl, fun _ => hR3, ⟨_, _, hR3⟩, ((u1.fr' (by omega) (by omega)).trans f2).trans (u3.fr' (by omega) (by omega))⟩
  · have hz : ¬ 0 < P 2 := fun q => h (by
      have := nI_lt (a := 0) (b := P 2) q (by omega)
      exact this)
    exact ⟨Or.inl rfl, by rw [decide_eq_false hz]; rfl, fun q => absurd q hz, ⟨_, _, hR⟩, hFr.rfl⟩
def behOk (o c : Nat) : Bool := if c = 41 then decide (0 < o) else (decide (c = 124) || decide (c = 38))
def behQ (c : Nat) (P : Nat → Nat) (T : Nat → Int32) : rdQ := if c = 41 then clQ P T else if c = 124 then (up (pAdd (P, T) (-3)).1 3 0, (pAdd (P, T) (-3)).2) else (up P 3 0, T)
set_option maxRecDepth 100000 in
set_option maxHeartbeats 4000000 in
theorem c_acceptsBehindAtom {K : hK} {H : hAH} {a c : Nat} {P : Nat → Nat} {T : Nat → Int32} (hR : RRe K H a P T) (hI : rdInv P) (hc : c < 65536) : hCT K M_Re_acceptsBehindAtom [.ref a, .int (nI c)] H 0 0 (fun r H' => r = some (.int (b2i (behOk (P 2) c))) ∧ (behOk (P 2) c = true → RRe K H' a (behQ c P T).1 (behQ c P T).2) ∧ (∃ P' T', RRe K H' a P' T') ∧ hFr a (a + 2) H H') := by
  refine hCT.go (okc_Re_acceptsBehindAtom K _ _) [] 60 (by decide +kernel) rfl rfl ?_
  refine ⟨fun h1 => ⟨fun h2 => ⟨fun h3 => ?_, fun h3 => ?_⟩, fun h2 => ?_⟩, fun h1 => ?_⟩
  · have e1 : ¬ c = 41 := fun q => h1 ((ieq hc (by decide)).mpr q)
    have e2 : ¬ c = 124 := fun q => h2 ((ieq hc (by decide)).mpr q)
    have e3 : c = 38 := (ieq hc (n := 38) (by decide)).mp h3
    refine ⟨_, hR.1, trivial, fun H1 u1 => ?_⟩
    have hR1 : RRe K H1 a (up P 3 0) T := hR.up1 u1 rfl
    unfold behOk behQ
    rw [if_neg e1, if_neg e1, if_neg e2, decide_eq_true e3, Bool.or_true]
    exact ⟨Or.inr rfl, rfl, fun _ => hR1, ⟨_, _, hR1⟩, u1.fr' (by omega) (by omega)⟩
  · have e1 : ¬ c = 41 := fun q => h1 ((ieq hc (by decide)).mpr q)
    have e2 : ¬ c = 124 := fun q => h2 ((ieq hc (by decide)).mpr q)
    have e3 : ¬ c = 38 := fun q => h3 ((ieq hc (by decide)).mpr q)
    unfold behOk
    rw [if_neg e1, decide_eq_false e2, decide_eq_false e3]
    exact ⟨Or.inl rfl, rfl, fun q => absurd q (by decide), ⟨_, _, hR⟩, hFr.rfl⟩
  · have e1 : ¬ c = 41 := fun q => h1 ((ieq hc (by decide)).mpr q)
    have e2 : c = 124 := (ieq hc (n := 124) (by decide)).mp h2
    refine ⟨_, hR.1, _, c_addStep hR hI.1 (-3), ?_⟩
    rintro _ H1 ⟨rfl, hR1, f1⟩
    refine ⟨_, hR1.1, trivial, fun H2 u2 => ?_⟩
    have hR2 : RRe K H2 a (up (pAdd (P, T) (-3)).1 3 0) (pAdd (P, T) (-3)).2 := hR1.up1 u2 rfl
    unfold behOk behQ
    rw [if_neg e1, if_neg e1, if_pos e2, decide_eq_true e2, Bool.true_or]
    exact ⟨Or.inr rfl, rfl, fun _ => hR2, ⟨_, _, hR2⟩, f1.trans (u2.fr' (by omega) (by omega))⟩
  · have e1 : c = 41 := (ieq hc (n := 41) (by decide)).mp h1
    refine ⟨_, hR.1, _, c_closesBracket hR hI, ?_⟩
    rintro _ H1 ⟨rfl, hR1, hE, f1⟩
    unfold behOk behQ
    rw [if_pos e1, if_pos e1]
    exact ⟨b2i_01 _, rfl, fun q => hR1 (of_decide_eq_true q), hE, f1⟩
