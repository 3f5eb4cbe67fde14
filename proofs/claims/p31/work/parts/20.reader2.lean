/-! the reader: characters, and the whole text -/
theorem RRe.up3 {K : hK} {H H' : hAH} {a v : Nat} {P : Nat → Nat} {T : Nat → Int32} (h : RRe K H a P T) (u : hUpd H a (.inr (2, hSetV [.ref (a + 1), .int (nI (P 0)), .int (nI (P 1)), .int (nI (P 2)), .int (nI (P 3)), .int (nI (P 4)), .int (nI (P 5))] 4 (.int (nI v)))) H') : RRe K H' a (up P 3 v) T := h.up1 u rfl
def colQ (P : Nat → Nat) (T : Nat → Int32) : rdQ := (up P 3 3, T)
set_option maxRecDepth 100000 in
set_option maxHeartbeats 4000000 in
theorem c_acceptsColon {K : hK} {H : hAH} {a c : Nat} {P : Nat → Nat} {T : Nat → Int32} (hR : RRe K H a P T) (hc : c < 65536) : hCT K M_Re_acceptsColon [.ref a, .int (nI c)] H 0 0 (fun r H' => r = some (.int (b2i (decide (c = 58)))) ∧ (c = 58 → RRe K H' a (colQ P T).1 (colQ P T).2) ∧ (∃ P' T', RRe K H' a P' T') ∧ hFr a (a + 2) H H') := by
  refine hCT.go (okc_Re_acceptsColon K _ _) [] 60 (by decide +kernel) rfl rfl ?_
  refine ⟨_, hR.1, trivial, fun H1 u1 => ?_⟩
  have hR1 : RRe K H1 a (colQ P T).1 (colQ P T).2 := hR.up1 u1 rfl
  have f : hFr a (a + 2) H H1 := u1.fr' (by omega) (by omega)
  refine ⟨fun h => ?_, fun h => ?_⟩
  · exact ⟨Or.inl rfl, by rw [decide_eq_false (fun q => h ((ieq hc (by decide)).mpr q))]; rfl, fun _ => hR1, ⟨_, _, hR1⟩, f⟩
  · exact ⟨Or.inr rfl, by rw [decide_eq_true ((ieq hc (n := 58) (by decide)).mp h)]; rfl, fun _ => hR1, ⟨_, _, hR1⟩, f⟩
def letQ (c : Nat) (P : Nat → Nat) (T : Nat → Int32) : rdQ :=
  (up (pChg (up (up P 1 (P 1 ||| 2 ^ (c - 97))) 5 (P 5 ||| 2 ^ (c - 97)), T) (nI (P 4 * 4096 + (P 5 ||| 2 ^ (c - 97))))).1 3 5, (pChg (up (up P 1 (P 1 ||| 2 ^ (c - 97))) 5 (P 5 ||| 2 ^ (c - 97)), T) (nI (P 4 * 4096 + (P 5 ||| 2 ^ (c - 97))))).2)
theorem isLet_spec {c : Nat} (h : isLet c = true) : 97 ≤ c ∧ c < 109 := by
  unfold isLet at h
  simpa using h
theorem isDig_spec {c a b : Nat} (h : isDig c a b = true) : a ≤ c ∧ c ≤ b := by
  unfold isDig at h
  simpa using h
theorem or_lt12 {x k : Nat} (hx : x < 4096) (hk : k < 12) : x ||| 2 ^ k < 4096 := Nat.or_lt_two_pow (n := 12) hx (Nat.pow_lt_pow_right (by decide) hk)
set_option maxRecDepth 100000 in
set_option maxHeartbeats 4000000 in
theorem c_acceptsLetter {K : hK} {H : hAH} {a c : Nat} {P : Nat → Nat} {T : Nat → Int32} (hR : RRe K H a P T) (hI : rdInv P) (h35 : P 3 = 3 ∨ P 3 = 5) (hc : c < 65536) : hCT K M_Re_acceptsLetter [.ref a, .int (nI c)] H 0 0 (fun r H' => r = some (.int (b2i (isLet c))) ∧ (isLet c = true → RRe K H' a (letQ c P T).1 (letQ c P T).2) ∧ (isLet c = false → H' = H) ∧ (∃ P' T', RRe K H' a P' T') ∧ hFr a (a + 2) H H') := by
  obtain ⟨i0, i1, i2, i3, i45⟩ := hI
  obtain ⟨i4, i5⟩ := i45 (Or.inr h35)
  refine hCT.go (okc_Re_acceptsLetter K _ _) [] 60 (by decide +kernel) rfl rfl ?_
  refine ⟨_, c_isLetter K H hc, ?_⟩
  rintro _ _ ⟨rfl, rfl⟩
  refine ⟨fun h => ?_, fun h => ?_⟩
  · have hl := b2i_n0.mp h
    obtain ⟨l1, l2⟩ := isLet_spec hl
    have es : nI c - nI 97 = nI (c - 97) := isub l1
    refine ⟨_, hR.1, _, es ▸ c_bitOf K _ (k := c - 97) (by omega), ?_⟩
    rintro _ _ ⟨rfl, rfl⟩
    refine ⟨_, hR.1, trivial, fun H1 u1 => ?_⟩
    have hR1 : RRe K H1 a (up P 1 (P 1 ||| 2 ^ (c - 97))) T := hR.up1 u1 (by
      show hObj 2 [.ref (a + 1), .int (nI (P 0)), .int (nI (P 1) ||| nI (2 ^ (c - 97))), .int (nI (P 2)), .int (nI (P 3)), .int (nI (P 4)), .int (nI (P 5))] = _
      rw [nI_or]; rfl)
    refine ⟨_, hR1.1, _, es ▸ c_bitOf K _ (k := c - 97) (by omega), ?_⟩
    rintro _ _ ⟨rfl, rfl⟩
    refine ⟨_, hR1.1, trivial, fun H2 u2 => ?_⟩
    have hR2 : RRe K H2 a (up (up P 1 (P 1 ||| 2 ^ (c - 97))) 5 (P 5 ||| 2 ^ (c - 97))) T := hR1.up1 u2 (by
      show hObj 2 [.ref (a + 1), .int (nI (P 0)), .int (nI (P 1 ||| 2 ^ (c - 97))), .int (nI (P 2)), .int (nI (P 3)), .int (nI (P 4)), .int (nI (P 5) ||| nI (2 ^ (c - 97)))] = _
      rw [nI_or]; rfl)
    refine ⟨_, hR2.1, _, hR2.1, _, c_atomOf K _ (m := P 4) (g := P 5 ||| 2 ^ (c - 97)) (by omega) (or_lt12 i5 (by omega)), ?_⟩
    rintro _ _ ⟨rfl, rfl⟩
    refine ⟨_, hR2.1, _, c_changeLastStep hR2 i0 _, ?_⟩
    rintro _ H3 ⟨rfl, hR3, f3⟩
    refine ⟨_, hR3.1, trivial, fun H4 u4 => ?_⟩
    have hR4 : RRe K H4 a (letQ c P T).1 (letQ c P T).2 := hR3.up3 (v := 5) u4
    exact ⟨Or.inr rfl, by rw [hl]; rfl, fun _ => hR4, fun q => (by rw [hl] at q; cases q), ⟨_, _, hR4⟩, (((u1.fr' (by omega) (by omega)).trans (u2.fr' (by omega) (by omega))).trans f3).trans (u4.fr' (by omega) (by omega))⟩
  · have hl := b2i_0.mp h
    exact ⟨Or.inl rfl, by rw [hl]; rfl, fun q => (by rw [hl] at q; cases q), fun _ => rfl, ⟨_, _, hR⟩, hFr.rfl⟩
def numQ (c : Nat) (P : Nat → Nat) (T : Nat → Int32) : rdQ := (up (pAdd (P, T) (nI ((c - 48) * 4096 + 4095))).1 3 (if c = 49 then 6 else 4), (pAdd (P, T) (nI ((c - 48) * 4096 + 4095))).2)
set_option maxRecDepth 100000 in
set_option maxHeartbeats 4000000 in
theorem c_acceptsNumber {K : hK} {H : hAH} {a c : Nat} {P : Nat → Nat} {T : Nat → Int32} (hR : RRe K H a P T) (hI : rdInv P) (hc : c < 65536) : hCT K M_Re_acceptsNumber [.ref a, .int (nI c)] H 0 0 (fun r H' => r = some (.int (b2i (isDig c 49 57))) ∧ (isDig c 49 57 = true → RRe K H' a (numQ c P T).1 (numQ c P T).2) ∧ (∃ P' T', RRe K H' a P' T') ∧ hFr a (a + 2) H H') := by
  obtain ⟨i0, i1, i2, i3, i45⟩ := hI
  refine hCT.go (okc_Re_acceptsNumber K _ _) [] 60 (by decide +kernel) rfl rfl ?_
  refine ⟨_, c_isDigit K H (a := 49) (b := 57) hc (by decide) (by decide), ?_⟩
  rintro _ _ ⟨rfl, rfl⟩
  refine ⟨fun h => ?_, fun h => ?_⟩
  · have hl := b2i_n0.mp h
    obtain ⟨l1, l2⟩ := isDig_spec hl
    have es : nI c - nI 48 = nI (c - 48) := isub (by omega)
    refine ⟨_, es ▸ c_atomOf K _ (m := c - 48) (g := 4095) (by omega) (by decide), ?_⟩
    rintro _ _ ⟨rfl, rfl⟩
    refine ⟨_, hR.1, _, c_addStep hR i0 _, ?_⟩
    rintro _ H1 ⟨rfl, hR1, f1⟩
    refine ⟨fun h2 => ?_, fun h2 => ?_⟩
    · refine ⟨_, hR1.1, trivial, fun H2 u2 => ?_⟩
      have e : ¬ c = 49 := fun q => h2 ((ieq hc (by decide)).mpr q)
      have hR2 : RRe K H2 a (numQ c P T).1 (numQ c P T).2 := (by have := hR1.up3 (v := 4) u2; unfold numQ; rw [if_neg e]; exact this)
      exact ⟨Or.inr rfl, by rw [hl]; rfl, fun _ => hR2, ⟨_, _, hR2⟩, f1.trans (u2.fr' (by omega) (by omega))⟩
    · refine ⟨_, hR1.1, trivial, fun H2 u2 => ?_⟩
      have e : c = 49 := (ieq hc (n := 49) (by decide)).mp h2
      have hR2 : RRe K H2 a (numQ c P T).1 (numQ c P T).2 := (by have := hR1.up3 (v := 6) u2; unfold numQ; rw [if_pos e]; exact this)
      exact ⟨Or.inr rfl, by rw [hl]; rfl, fun _ => hR2, ⟨_, _, hR2⟩, f1.trans (u2.fr' (by omega) (by omega))⟩
  · have hl := b2i_0.mp h
    exact ⟨Or.inl rfl, by rw [hl]; rfl, fun q => (by rw [hl] at q; cases q), ⟨_, _, hR⟩, hFr.rfl⟩
def secQ (c : Nat) (P : Nat → Nat) (T : Nat → Int32) : rdQ := (up (pChg (P, T) (nI ((c - 38) * 4096 + 4095))).1 3 4, (pChg (P, T) (nI ((c - 38) * 4096 + 4095))).2)
set_option maxRecDepth 100000 in
set_option maxHeartbeats 4000000 in
theorem c_acceptsSecondDigit {K : hK} {H : hAH} {a c : Nat} {P : Nat → Nat} {T : Nat → Int32} (hR : RRe K H a P T) (hI : rdInv P) (hc : c < 65536) : hCT K M_Re_acceptsSecondDigit [.ref a, .int (nI c)] H 0 0 (fun r H' => r = some (.int (b2i (isDig c 48 50))) ∧ (isDig c 48 50 = true → RRe K H' a (secQ c P T).1 (secQ c P T).2) ∧ (isDig c 48 50 = false → H' = H) ∧ (∃ P' T', RRe K H' a P' T') ∧ hFr a (a + 2) H H') := by
  obtain ⟨i0, i1, i2, i3, i45⟩ := hI
  refine hCT.go (okc_Re_acceptsSecondDigit K _ _) [] 60 (by decide +kernel) rfl rfl ?_
  refine ⟨_, c_isDigit K H (a := 48) (b := 50) hc (by decide) (by decide), ?_⟩
  rintro _ _ ⟨rfl, rfl⟩
  refine ⟨fun h => ?_, fun h => ?_⟩
  · have hl := b2i_n0.mp h
    obtain ⟨l1, l2⟩ := isDig_spec hl
    have es : nI 10 + nI c - nI 48 = nI (c - 38) := by
      rw [nI_add, isub (by omega)]
      congr 1
      omega
    refine ⟨_, es ▸ c_atomOf K _ (m := c - 38) (g := 4095) (by omega) (by decide), ?_⟩
    rintro _ _ ⟨rfl, rfl⟩
    refine ⟨_, hR.1, _, c_changeLastStep hR i0 _, ?_⟩
    rintro _ H1 ⟨rfl, hR1, f1⟩
    refine ⟨_, hR1.1, trivial, fun H2 u2 => ?_⟩
    have hR2 : RRe K H2 a (secQ c P T).1 (secQ c P T).2 := hR1.up3 (v := 4) u2
    exact ⟨Or.inr rfl, by rw [hl]; rfl, fun _ => hR2, fun q => (by rw [hl] at q; cases q), ⟨_, _, hR2⟩, f1.trans (u2.fr' (by omega) (by omega))⟩
  · have hl := b2i_0.mp h
    exact ⟨Or.inl rfl, by rw [hl]; rfl, fun q => (by rw [hl] at q; cases q), fun _ => rfl, ⟨_, _, hR⟩, hFr.rfl⟩
