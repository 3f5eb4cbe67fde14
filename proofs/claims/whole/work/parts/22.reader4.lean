/-! one character, in any state -/
def rdOk (P : Nat → Nat) (c : Nat) : Bool := if P 3 = 0 then atomOk (P 2) c else if P 3 = 1 then isDig c 49 57 else if P 3 = 2 then decide (c = 58) else if P 3 = 3 then isLet c else if P 3 = 5 then isLet c || behOk (P 2) c else if P 3 = 6 then isDig c 48 50 || behOk (P 2) c else behOk (P 2) c
def rdStep (c : Nat) (P : Nat → Nat) (T : Nat → Int32) : rdQ := if P 3 = 0 then atomQ c P T else if P 3 = 1 then numQ c P T else if P 3 = 2 then colQ P T else if P 3 = 3 then letQ c P T else if P 3 = 5 then (if isLet c then letQ c P T else behQ c P T) else if P 3 = 6 then (if isDig c 48 50 then secQ c P T else behQ c P T) else behQ c P T
set_option maxRecDepth 100000 in
set_option maxHeartbeats 4000000 in
theorem c_accepts {K : hK} {H : hAH} {a c : Nat} {P : Nat → Nat} {T : Nat → Int32} (hR : RRe K H a P T) (hI : rdInv P) (hc : c < 65536) : hCT K M_Re_accepts [.ref a, .int (nI c)] H 0 0 (fun r H' => r = some (.int (b2i (rdOk P c))) ∧ (rdOk P c = true → RRe K H' a (rdStep c P T).1 (rdStep c P T).2) ∧ (∃ P' T', RRe K H' a P' T') ∧ hFr a (a + 2) H H') := by
  have i3 := hI.2.2.2.1
  have eqn : ∀ k, k < 10 → (nI (P 3) = nI k ↔ P 3 = k) := fun k hk => ieq (by omega) (by omega)
  refine hCT.go (okc_Re_accepts K _ _) [] 90 (by decide +kernel) rfl rfl ?_
  refine ⟨_, hR.1, fun h0 => ?_, fun h0 => ⟨fun h1 => ?_, fun h1 => ⟨fun h2 => ?_, fun h2 => ⟨fun h3 => ?_, fun h3 => ⟨fun h4 => ?_, fun h4 => ⟨fun h5 => ?_, fun h5 => ⟨fun h6 => ?_, fun h6 => ?_⟩⟩⟩⟩⟩⟩⟩
  · have e0 := (eqn 0 (by decide)).mp h0
    refine ⟨_, hR.1, _, c_acceptsAtom hR hI hc, ?_⟩
    rintro _ H1 ⟨rfl, hh⟩
    unfold rdOk rdStep
    rw [if_pos e0, if_pos e0]
    exact ⟨b2i_01 _, rfl, hh⟩
  · have e0 : ¬ P 3 = 0 := fun q => h0 ((eqn 0 (by decide)).mpr q)
    have e1 := (eqn 1 (by decide)).mp h1
    refine ⟨_, hR.1, _, c_acceptsNumber hR hI hc, ?_⟩
    rintro _ H1 ⟨rfl, hh⟩
    unfold rdOk rdStep
    rw [if_neg e0, if_pos e1, if_neg e0, if_pos e1]
    exact ⟨b2i_01 _, rfl, hh⟩
  · have e0 : ¬ P 3 = 0 := fun q => h0 ((eqn 0 (by decide)).mpr q)
    have e1 : ¬ P 3 = 1 := fun q => h1 ((eqn 1 (by decide)).mpr q)
    have e2 := (eqn 2 (by decide)).mp h2
    refine ⟨_, hR.1, _, c_acceptsColon hR hc, ?_⟩
    rintro _ H1 ⟨rfl, hh, hE⟩
    unfold rdOk rdStep
    rw [if_neg e0, if_neg e1, if_pos e2, if_neg e0, if_neg e1, if_pos e2]
    exact ⟨b2i_01 _, rfl, fun q => hh (of_decide_eq_true q), hE⟩
  · have e0 : ¬ P 3 = 0 := fun q => h0 ((eqn 0 (by decide)).mpr q)
    have e1 : ¬ P 3 = 1 := fun q => h1 ((eqn 1 (by decide)).mpr q)
    have e2 : ¬ P 3 = 2 := fun q => h2 ((eqn 2 (by decide)).mpr q)
    have e3 := (eqn 3 (by decide)).mp h3
    refine ⟨_, hR.1, _, c_acceptsLetter hR hI hc, ?_⟩
    rintro _ H1 ⟨rfl, hh, -, hE⟩
    unfold rdOk rdStep
    rw [if_neg e0, if_neg e1, if_neg e2, if_pos e3, if_neg e0, if_neg e1, if_neg e2, if_pos e3]
    exact ⟨b2i_01 _, rfl, hh, hE⟩
  · have e4 := (eqn 4 (by decide)).mp h4
    refine ⟨_, hR.1, _, c_acceptsBehindAtom hR hI hc, ?_⟩
    rintro _ H1 ⟨rfl, hh⟩
    unfold rdOk rdStep
    rw [if_neg (by omega), if_neg (by omega), if_neg (by omega), if_neg (by omega), if_neg (by omega), if_neg (by omega), if_neg (by omega), if_neg (by omega), if_neg (by omega), if_neg (by omega), if_neg (by omega), if_neg (by omega)]
    exact ⟨b2i_01 _, rfl, hh⟩
  · have e5 := (eqn 5 (by decide)).mp h5
    unfold rdOk rdStep
    rw [if_neg (by omega), if_neg (by omega), if_neg (by omega), if_neg (by omega), if_pos e5, if_neg (by omega), if_neg (by omega), if_neg (by omega), if_neg (by omega), if_pos e5]
    refine ⟨_, hR.1, _, c_acceptsLetter hR hI hc, ?_⟩
    rintro _ H1 ⟨rfl, hh, hN, hE, f1⟩
    refine ⟨fun h => ?_, fun h => ?_⟩
    · have hl := b2i_n0.mp h
      rw [hl] at hh
      rw [hl]
      exact ⟨Or.inr rfl, rfl, hh, hE, f1⟩
    · have hl := b2i_0.mp h
      have := hN hl
      subst this
      rw [hl]
      refine ⟨_, hR.1, _, c_acceptsBehindAtom hR hI hc, ?_⟩
      rintro _ H2 ⟨rfl, hh2, hE2⟩
      refine ⟨fun h7 => ?_, fun h7 => ?_⟩
      · exact ⟨Or.inl rfl, by rw [b2i_0.mp h7]; rfl, hh2, hE2⟩
      · exact ⟨Or.inr rfl, by rw [b2i_n0.mp h7]; rfl, hh2, hE2⟩
  · have e6 := (eqn 6 (by decide)).mp h6
    unfold rdOk rdStep
    rw [if_neg (by omega), if_neg (by omega), if_neg (by omega), if_neg (by omega), if_neg (by omega), if_pos e6, if_neg (by omega), if_neg (by omega), if_neg (by omega), if_neg (by omega), if_neg (by omega), if_pos e6]
    refine ⟨_, hR.1, _, c_acceptsSecondDigit hR hI hc, ?_⟩
    rintro _ H1 ⟨rfl, hh, hN, hE, f1⟩
    refine ⟨fun h => ?_, fun h => ?_⟩
    · have hl := b2i_n0.mp h
      rw [hl] at hh
      rw [hl]
      exact ⟨Or.inr rfl, rfl, hh, hE, f1⟩
    · have hl := b2i_0.mp h
      have := hN hl
      subst this
      rw [hl]
      refine ⟨_, hR.1, _, c_acceptsBehindAtom hR hI hc, ?_⟩
      rintro _ H2 ⟨rfl, hh2, hE2⟩
      refine ⟨fun h7 => ?_, fun h7 => ?_⟩
      · exact ⟨Or.inl rfl, by rw [b2i_0.mp h7]; rfl, hh2, hE2⟩
      · exact ⟨Or.inr rfl, by rw [b2i_n0.mp h7]; rfl, hh2, hE2⟩
  · have e0 : ¬ P 3 = 0 := fun q => h0 ((eqn 0 (by decide)).mpr q)
    have e1 : ¬ P 3 = 1 := fun q => h1 ((eqn 1 (by decide)).mpr q)
    have e2 : ¬ P 3 = 2 := fun q => h2 ((eqn 2 (by decide)).mpr q)
    have e3 : ¬ P 3 = 3 := fun q => h3 ((eqn 3 (by decide)).mpr q)
    have e4 : ¬ P 3 = 4 := fun q => h4 ((eqn 4 (by decide)).mpr q)
    have e5 : ¬ P 3 = 5 := fun q => h5 ((eqn 5 (by decide)).mpr q)
    have e6 : ¬ P 3 = 6 := fun q => h6 ((eqn 6 (by decide)).mpr q)
    omega
