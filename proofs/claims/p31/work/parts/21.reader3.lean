/-! the reader: an atom begins -/
def atomOk (o c : Nat) : Bool := if c = 40 then decide (o < 8) else (decide (c = 42) || (decide (c = 35) || (isLet c || isDig c 49 57)))
def atomQ (c : Nat) (P : Nat → Nat) (T : Nat → Int32) : rdQ :=
  if c = 40 then pAdd (up P 2 (P 2 + 1), T) (-1)
  else if c = 42 then (up (pAdd (P, T) (nI (0 * 4096 + 0))).1 3 4, (pAdd (P, T) (nI (0 * 4096 + 0))).2)
  else if c = 35 then (up P 3 1, T)
  else if isLet c then (up (pAdd (up P 1 (P 1 ||| 2 ^ (c - 97)), T) (nI (1 * 4096 + 2 ^ (c - 97)))).1 3 4, (pAdd (up P 1 (P 1 ||| 2 ^ (c - 97)), T) (nI (1 * 4096 + 2 ^ (c - 97)))).2)
  else (up (pAdd (up (up P 4 (c - 48)) 5 0, T) (nI ((c - 48) * 4096 + 0))).1 3 2, (pAdd (up (up P 4 (c - 48)) 5 0, T) (nI ((c - 48) * 4096 + 0))).2)
set_option maxRecDepth 100000 in
set_option maxHeartbeats 4000000 in
theorem c_acceptsAtom {K : hK} {H : hAH} {a c : Nat} {P : Nat → Nat} {T : Nat → Int32} (hR : RRe K H a P T) (hI : rdInv P) (hc : c < 65536) : hCT K M_Re_acceptsAtom [.ref a, .int (nI c)] H 0 0 (fun r H' => r = some (.int (b2i (atomOk (P 2) c))) ∧ (atomOk (P 2) c = true → RRe K H' a (atomQ c P T).1 (atomQ c P T).2) ∧ (∃ P' T', RRe K H' a P' T') ∧ hFr a (a + 2) H H') := by
  have i0 := hI.1
  have i1 := hI.2.1
  refine hCT.go (okc_Re_acceptsAtom K _ _) [] 90 (by decide +kernel) rfl rfl ?_
  refine ⟨fun h1 => ⟨fun h2 => ⟨fun h3 => ?_, fun h3 => ?_⟩, fun h2 => ?_⟩, fun h1 => ?_⟩
  · have e1 : ¬ c = 40 := fun q => h1 ((ieq hc (by decide)).mpr q)
    have e2 : ¬ c = 42 := fun q => h2 ((ieq hc (by decide)).mpr q)
    have e3 : ¬ c = 35 := fun q => h3 ((ieq hc (by decide)).mpr q)
    have eo : atomOk (P 2) c = (isLet c || isDig c 49 57) := by
      unfold atomOk
      rw [if_neg e1, decide_eq_false e2, decide_eq_false e3]
      rfl
    have eq : atomQ c P T = if isLet c then (up (pAdd (up P 1 (P 1 ||| 2 ^ (c - 97)), T) (nI (1 * 4096 + 2 ^ (c - 97)))).1 3 4, (pAdd (up P 1 (P 1 ||| 2 ^ (c - 97)), T) (nI (1 * 4096 + 2 ^ (c - 97)))).2)
      else (up (pAdd (up (up P 4 (c - 48)) 5 0, T) (nI ((c - 48) * 4096 + 0))).1 3 2, (pAdd (up (up P 4 (c - 48)) 5 0, T) (nI ((c - 48) * 4096 + 0))).2) := by
      unfold atomQ
      rw [if_neg e1, if_neg e2, if_neg e3]
    rw [eo, eq]
    refine ⟨_, c_isLetter K H hc, ?_⟩
    rintro _ _ ⟨rfl, rfl⟩
    refine ⟨fun h => ?_, fun h => ?_⟩
    · have hl := b2i_0.mp h
      rw [hl]
      refine ⟨_, c_isDigit K _ (a := 49) (b := 57) hc (by decide) (by decide), ?_⟩
      rintro _ _ ⟨rfl, rfl⟩
      refine ⟨fun h => ?_, fun h => ?_⟩
      · have hg := b2i_0.mp h
        rw [hg]
        exact ⟨Or.inl rfl, rfl, fun q => absurd q (by decide), ⟨_, _, hR⟩, hFr.rfl⟩
      · have hg := b2i_n0.mp h
        obtain ⟨l1, l2⟩ := isDig_spec hg
        have es : nI c - nI 48 = nI (c - 48) := isub (by omega)
        rw [hg]
        refine ⟨_, hR.1, trivial, fun H1 u1 => ?_⟩
        have hR1 : RRe K H1 a (up P 4 (c - 48)) T := hR.up1 u1 (by
          show hObj 2 [.ref (a + 1), .int (nI (P 0)), .int (nI (P 1)), .int (nI (P 2)), .int (nI (P 3)), .int (nI c - nI 48), .int (nI (P 5))] = _
          rw [es]; rfl)
        refine ⟨_, hR1.1, trivial, fun H2 u2 => ?_⟩
        have hR2 : RRe K H2 a (up (up P 4 (c - 48)) 5 0) T := hR1.up1 u2 rfl
        refine ⟨_, hR2.1, _, hR2.1, _, c_atomOf K _ (m := c - 48) (g := 0) (by omega) (by decide), ?_⟩
        rintro _ _ ⟨rfl, rfl⟩
        refine ⟨_, hR2.1, _, c_addStep hR2 i0 _, ?_⟩
        rintro _ H3 ⟨rfl, hR3, f3⟩
        refine ⟨_, hR3.1, trivial, fun H4 u4 => ?_⟩
        have hR4 := hR3.up3 (v := 2) u4
        exact ⟨Or.inr rfl, rfl, fun _ => hR4, ⟨_, _, hR4⟩, (((u1.fr' (by omega) (by omega)).trans (u2.fr' (by omega) (by omega))).trans f3).trans (u4.fr' (by omega) (by omega))⟩
    · have hl := b2i_n0.mp h
      obtain ⟨l1, l2⟩ := isLet_spec hl
      have es : nI c - nI 97 = nI (c - 97) := isub l1
      rw [hl]
      refine ⟨_, hR.1, _, es ▸ c_bitOf K _ (k := c - 97) (by omega), ?_⟩
      rintro _ _ ⟨rfl, rfl⟩
      refine ⟨_, hR.1, trivial, fun H1 u1 => ?_⟩
      have hR1 : RRe K H1 a (up P 1 (P 1 ||| 2 ^ (c - 97))) T := hR.up1 u1 (by
        show hObj 2 [.ref (a + 1), .int (nI (P 0)), .int (nI (P 1) ||| nI (2 ^ (c - 97))), .int (nI (P 2)), .int (nI (P 3)), .int (nI (P 4)), .int (nI (P 5))] = _
        rw [nI_or]; rfl)
      refine ⟨_, es ▸ c_bitOf K _ (k := c - 97) (by omega), ?_⟩
      rintro _ _ ⟨rfl, rfl⟩
      have hp : 2 ^ (c - 97) < 4096 := by
        have := Nat.pow_lt_pow_right (a := 2) (m := c - 97) (n := 12) (by decide) (by omega)
        simpa using this
      refine ⟨_, c_atomOf K _ (m := 1) (g := 2 ^ (c - 97)) (by decide) hp, ?_⟩
      rintro _ _ ⟨rfl, rfl⟩
      refine ⟨_, hR1.1, _, c_addStep hR1 i0 _, ?_⟩
      rintro _ H3 ⟨rfl, hR3, f3⟩
      refine ⟨_, hR3.1, trivial, fun H4 u4 => ?_⟩
      have hR4 := hR3.up3 (v := 4) u4
      exact ⟨Or.inr rfl, rfl, fun _ => hR4, ⟨_, _, hR4⟩, ((u1.fr' (by omega) (by omega)).trans f3).trans (u4.fr' (by omega) (by omega))⟩
  · have e1 : ¬ c = 40 := fun q => h1 ((ieq hc (by decide)).mpr q)
    have e2 : ¬ c = 42 := fun q => h2 ((ieq hc (by decide)).mpr q)
    have e3 : c = 35 := (ieq hc (n := 35) (by decide)).mp h3
    refine ⟨_, hR.1, trivial, fun H1 u1 => ?_⟩
    have hR1 : RRe K H1 a (up P 3 1) T := hR.up1 u1 rfl
    unfold atomOk atomQ
    rw [if_neg e1, if_neg e1, if_neg e2, if_pos e3, decide_eq_false e2, decide_eq_true e3]
    exact ⟨Or.inr rfl, rfl, fun _ => hR1, ⟨_, _, hR1⟩, u1.fr' (by omega) (by omega)⟩
  · have e1 : ¬ c = 40 := fun q => h1 ((ieq hc (by decide)).mpr q)
    have e2 : c = 42 := (ieq hc (n := 42) (by decide)).mp h2
    refine ⟨_, c_atomOf K _ (m := 0) (g := 0) (by decide) (by decide), ?_⟩
    rintro _ _ ⟨rfl, rfl⟩
    refine ⟨_, hR.1, _, c_addStep hR i0 _, ?_⟩
    rintro _ H1 ⟨rfl, hR1, f1⟩
    refine ⟨_, hR1.1, trivial, fun H2 u2 => ?_⟩
    have hR2 : RRe K H2 a (up (pAdd (P, T) (nI (0 * 4096 + 0))).1 3 4) (pAdd (P, T) (nI (0 * 4096 + 0))).2 := hR1.up3 (v := 4) u2
    unfold atomOk atomQ
    rw [if_neg e1, if_neg e1, if_pos e2, decide_eq_true e2]
    exact ⟨Or.inr rfl, rfl, fun _ => hR2, ⟨_, _, hR2⟩, f1.trans (u2.fr' (by omega) (by omega))⟩
  · have e1 : c = 40 := (ieq hc (n := 40) (by decide)).mp h1
    refine ⟨_, hR.1, _, c_opensBracket hR hI, ?_⟩
    rintro _ H1 ⟨rfl, hR1, hE, f1⟩
    unfold atomOk atomQ
    rw [if_pos e1, if_pos e1]
    exact ⟨b2i_01 _, rfl, fun q => hR1 (of_decide_eq_true q), hE, f1⟩
