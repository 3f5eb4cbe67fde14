/-! one character, in any state -/
def rdOk (P : Nat → Nat) (c : Nat) : Bool := if P 3 = 0 then atomOk (P 2) c else if P 3 = 1 then isDig c 49 57 else if P 3 = 2 then decide (c = 58) else if P 3 = 3 then isLet c else if P 3 = 5 then isLet c || behOk (P 2) c else if P 3 = 6 then isDig c 48 50 || behOk (P 2) c else behOk (P 2) c
def rdStep (c : Nat) (P : Nat → Nat) (T : Nat → Int32) : rdQ := if P 3 = 0 then atomQ c P T else if P 3 = 1 then numQ c P T else if P 3 = 2 then colQ P T else if P 3 = 3 then letQ c P T else if P 3 = 5 then (if isLet c then letQ c P T else behQ c P T) else if P 3 = 6 then (if isDig c 48 50 then secQ c P T else behQ c P T) else behQ c P T
set_option maxRecDepth 100000 in
set_option maxHeartbeats 4000000 in
theorem c_accepts {K : hK} {H : hAH} {a c : Nat} {P : Nat → Nat} {T : Nat → Int32} (hR : RRe K H a P T) (hI : rdInv P) (hc : c < 65536) : hCT K M_Re_accepts [.ref a, .int (nI c)] H 0 0 (fun r H' => r = some (.int (b2i (rdOk P c))) ∧ (rdOk P c = true → RRe K H' a (rdStep c P T).1 (rdStep c P T).2) ∧ (∃ P' T', RRe K H' a P' T') ∧ hFr a (a + 2) H H') := by
  have i3 := hI.2.2.2.1
  have eqn : ∀ k, k < 10 → (nI (P 3) = nI k ↔ P 3 = k) := fun k hk => ieq (by omega) (by omega)
  refine hCT.go (okc_Re_accepts K _ _) [] 90 (by decide +kernel) rfl rfl ?_
  refine ⟨_, hR.1, fun h0 => ?_, fun h0 => ⟨fun h1 => ?_, fun h1 => ⟨fun h2 => ?_, fun h2 => ⟨fun h3 => ?_, fun h3 => ⟨fun h4 => ?_, fun h4 => ⟨fun h5 => ?_, fun h5 => ⟨fun h6 => ?_, fun h6 => ?_⟩⟩⟩⟩⟩⟩⟩
  · have e0 := (eqn 0 (by decide)).mp h0
    refine ⟨_, hR.1, _, c_acceptsAtom hR hI hc, ?_⟩
    rintro _ H1 ⟨rfl, hh⟩
    unfold rdOk rdStep
    rw [if_pos e0, if_pos e0]
    exact ⟨b2i_01 _, rfl, hh⟩
  · have e0 : ¬ P 3 = 0 := fun q => h0 ((eqn 0 (by decide)).mpr q)
    have e1 := (eqn 1 (by decide)).mp h1
    refine ⟨_, hR.1, _, c_acceptsNumber hR hI hc, ?_⟩
    rintro _ H1 ⟨rfl, hh⟩
    unfold rdOk rdStep
    rw [if_neg e0, if_pos e1, if_neg e0, if_pos e1]
    exact ⟨b2i_01 _, rfl, hh⟩
  · have e0 : ¬ P 3 = 0 := fun q => h0 ((eqn 0 (by decide)).mpr q)
    have e1 : ¬ P 3 = 1 := fun q => h1 ((eqn 1 (by decide)).mpr q)
    have e2 := (eqn 2 (by decide)).mp h2
    refine ⟨_, hR.1, _, c_acceptsColon hR hc, ?_⟩
    rintro _ H1 ⟨rfl, hh, hE⟩
    unfold rdOk rdStep
    rw [if_neg e0, if_neg e1, if_pos e2, if_neg e0, if_neg e1, if_pos e2]
    exact ⟨b2i_01 _, rfl, fun q => hh (of_decide_eq_true q), hE⟩
  · have e0 : ¬ P 3 = 0 := fun q => h0 ((eqn 0 (by decide)).mpr q)
    have e1 : ¬ P 3 = 1 := fun q => h1 ((eqn 1 (by decide)).mpr q)
    have e2 : ¬ P 3 = 2 := fun q => h2 ((eqn 2 (by decide)).mpr q)
    have e3 := (eqn 3 (by decide)).mp h3
    refine ⟨_, hR.1, _, c_acceptsLetter hR hI (Or.inl e3) hc, ?_⟩
    rintro _ H1 ⟨rfl, hh, -, hE⟩
    unfold rdOk rdStep
    rw [if_neg e0, if_neg e1, if_neg e2, if_pos e3, if_neg e0, if_neg e1, if_neg e2, if_pos e3]
    exact ⟨b2i_01 _, rfl, hh, hE⟩
  · have e4 := (eqn 4 (by decide)).mp h4
    refine ⟨_, hR.1, _, c_acceptsBehindAtom hR hI hc, ?_⟩
    rintro _ H1 ⟨rfl, hh⟩
    unfold rdOk rdStep
    rw [if_neg (by omega), if_neg (by omega), if_neg (by omega), if_neg (by omega), if_neg (by omega), if_neg (by omega), if_neg (by omega), if_neg (by omega), if_neg (by omega), if_neg (by omega), if_neg (by omega), if_neg (by omega)]
    exact ⟨b2i_01 _, rfl, hh⟩
  · have e5 := (eqn 5 (by decide)).mp h5
    unfold rdOk rdStep
    rw [if_neg (by omega), if_neg (by omega), if_neg (by omega), if_neg (by omega), if_pos e5, if_neg (by omega), if_neg (by omega), if_neg (by omega), if_neg (by omega), if_pos e5]
    refine ⟨_, hR.1, _, c_acceptsLetter hR hI (Or.inr e5) hc, ?_⟩
    rintro _ H1 ⟨rfl, hh, hN, hE, f1⟩
    refine ⟨fun h => ?_, fun h => ?_⟩
    · have hl := b2i_n0.mp h
      rw [hl] at hh
      rw [hl]
      exact ⟨Or.inr rfl, rfl, hh, hE, f1⟩
    · have hl := b2i_0.mp h
      have := hN hl
      subst this
      rw [hl]
      refine ⟨_, hR.1, _, c_acceptsBehindAtom hR hI hc, ?_⟩
      rintro _ H2 ⟨rfl, hh2, hE2⟩
      refine ⟨fun h7 => ?_, fun h7 => ?_⟩
      · exact ⟨Or.inl rfl, by rw [b2i_0.mp h7]; rfl, hh2, hE2⟩
      · exact ⟨Or.inr rfl, by rw [b2i_n0.mp h7]; rfl, hh2, hE2⟩
  · have e6 := (eqn 6 (by decide)).mp h6
    unfold rdOk rdStep
    rw [if_neg (by omega), if_neg (by omega), if_neg (by omega), if_neg (by omega), if_neg (by omega), if_pos e6, if_neg (by omega), if_neg (by omega), if_neg (by omega), if_neg (by omega), if_neg (by omega), if_pos e6]
    refine ⟨_, hR.1, _, c_acceptsSecondDigit hR hI hc, ?_⟩
    rintro _ H1 ⟨rfl, hh, hN, hE, f1⟩
    refine ⟨fun h => ?_, fun h => ?_⟩
    · have hl := b2i_n0.mp h
      rw [hl] at hh
      rw [hl]
      exact ⟨Or.inr rfl, rfl, hh, hE, f1⟩
    · have hl := b2i_0.mp h
      have := hN hl
      subst this
      rw [hl]
      refine ⟨_, hR.1, _, c_acceptsBehindAtom hR hI hc, ?_⟩
      rintro _ H2 ⟨rfl, hh2, hE2⟩
      refine ⟨fun h7 => ?_, fun h7 => ?_⟩
      · exact ⟨Or.inl rfl, by rw [b2i_0.mp h7]; rfl, hh2, hE2⟩
      · exact ⟨Or.inr rfl, by rw [b2i_n0.mp h7]; rfl, hh2, hE2⟩
  · have e0 : ¬ P 3 = 0 := fun q => h0 ((eqn 0 (by decide)).mpr q)
    have e1 : ¬ P 3 = 1 := fun q => h1 ((eqn 1 (by decide)).mpr q)
    have e2 : ¬ P 3 = 2 := fun q => h2 ((eqn 2 (by decide)).mpr q)
    have e3 : ¬ P 3 = 3 := fun q => h3 ((eqn 3 (by decide)).mpr q)
    have e4 : ¬ P 3 = 4 := fun q => h4 ((eqn 4 (by decide)).mpr q)
    have e5 : ¬ P 3 = 5 := fun q => h5 ((eqn 5 (by decide)).mpr q)
    have e6 : ¬ P 3 = 6 := fun q => h6 ((eqn 6 (by decide)).mpr q)
    omega

/-! what a step keeps -/
theorem pAdd_0 {q : rdQ} {st : Int32} (h : q.1 0 ≤ 60) : (pAdd q st).1 0 ≤ 60 := by
  unfold pAdd
  split
  · rename_i hl
    show up q.1 0 (q.1 0 + 1) 0 ≤ 60
    unfold up
    rw [if_pos rfl]
    omega
  · exact h
theorem pAdd_j {q : rdQ} {st : Int32} {j : Nat} (h : j ≠ 0) : (pAdd q st).1 j = q.1 j := by
  unfold pAdd
  split
  · show up q.1 0 (q.1 0 + 1) j = _
    unfold up
    rw [if_neg h]
  · rfl
theorem pChg_1 {q : rdQ} {st : Int32} : (pChg q st).1 = q.1 := by
  unfold pChg
  split <;> rfl
theorem pAdd1 {q : rdQ} {st : Int32} : (pAdd q st).1 1 = q.1 1 := pAdd_j (by decide)
theorem pAdd2 {q : rdQ} {st : Int32} : (pAdd q st).1 2 = q.1 2 := pAdd_j (by decide)
theorem pAdd3 {q : rdQ} {st : Int32} : (pAdd q st).1 3 = q.1 3 := pAdd_j (by decide)
theorem pAdd4 {q : rdQ} {st : Int32} : (pAdd q st).1 4 = q.1 4 := pAdd_j (by decide)
theorem pAdd5 {q : rdQ} {st : Int32} : (pAdd q st).1 5 = q.1 5 := pAdd_j (by decide)
/-- how the invariant is shown of a new row of numbers -/
theorem rdInv_of {P P' : Nat → Nat} (h0 : P' 0 ≤ 60) (h1 : P' 1 < 4096) (h2 : P' 2 ≤ 8) (h3 : P' 3 ≤ 6) (h4 : P' 3 = 2 ∨ P' 3 = 3 ∨ P' 3 = 5 → P' 4 ≤ 9 ∧ P' 5 < 4096) : rdInv P' := ⟨h0, h1, h2, h3, h4⟩
theorem up3_0 {P : Nat → Nat} {v : Nat} : up P 3 v 0 = P 0 := rfl
theorem up3_1 {P : Nat → Nat} {v : Nat} : up P 3 v 1 = P 1 := rfl
theorem up3_2 {P : Nat → Nat} {v : Nat} : up P 3 v 2 = P 2 := rfl
theorem up3_3 {P : Nat → Nat} {v : Nat} : up P 3 v 3 = v := rfl
theorem up3_4 {P : Nat → Nat} {v : Nat} : up P 3 v 4 = P 4 := rfl
theorem up3_5 {P : Nat → Nat} {v : Nat} : up P 3 v 5 = P 5 := rfl
/-- the state's number anew, one that is about no pending letters -/
theorem rdInv_up3 {P : Nat → Nat} {v : Nat} (h0 : P 0 ≤ 60) (h1 : P 1 < 4096) (h2 : P 2 ≤ 8) (h3 : v ≤ 6) (h : v ≠ 2 ∧ v ≠ 3 ∧ v ≠ 5) : rdInv (up P 3 v) := ⟨h0, h1, h2, h3, fun q => by
  have : up P 3 v 3 = v := rfl
  omega⟩
theorem rdInv_up3' {P : Nat → Nat} {v : Nat} (h0 : P 0 ≤ 60) (h1 : P 1 < 4096) (h2 : P 2 ≤ 8) (h3 : v ≤ 6) (h4 : P 4 ≤ 9) (h5 : P 5 < 4096) : rdInv (up P 3 v) := ⟨h0, h1, h2, h3, fun _ => ⟨h4, h5⟩⟩
theorem rdInv_clQ {P : Nat → Nat} {T : Nat → Int32} (h : rdInv P) : rdInv (clQ P T).1 := by
  obtain ⟨i0, i1, i2, i3, i4⟩ := h
  refine rdInv_up3 (pAdd_0 i0) (by rw [pAdd1]; exact i1) (by rw [pAdd2]; exact Nat.le_trans (Nat.sub_le _ _) i2) (by decide) (by decide)
theorem rdInv_behQ {c : Nat} {P : Nat → Nat} {T : Nat → Int32} (h : rdInv P) : rdInv (behQ c P T).1 := by
  unfold behQ
  split
  · exact rdInv_clQ h
  · obtain ⟨i0, i1, i2, i3, i4⟩ := h
    split
    · exact rdInv_up3 (pAdd_0 i0) (by rw [pAdd1]; exact i1) (by rw [pAdd2]; exact i2) (by decide) (by decide)
    · exact rdInv_up3 i0 i1 i2 (by decide) (by decide)
theorem rdInv_numQ {c : Nat} {P : Nat → Nat} {T : Nat → Int32} (h : rdInv P) : rdInv (numQ c P T).1 := by
  obtain ⟨i0, i1, i2, i3, i4⟩ := h
  refine rdInv_up3 (pAdd_0 i0) (by rw [pAdd1]; exact i1) (by rw [pAdd2]; exact i2) ?_ ?_
  · split <;> decide
  · split <;> decide
theorem rdInv_secQ {c : Nat} {P : Nat → Nat} {T : Nat → Int32} (h : rdInv P) : rdInv (secQ c P T).1 := by
  obtain ⟨i0, i1, i2, i3, i4⟩ := h
  refine rdInv_up3 (by rw [pChg_1]; exact i0) (by rw [pChg_1]; exact i1) (by rw [pChg_1]; exact i2) (by decide) (by decide)
theorem rdInv_letQ {c : Nat} {P : Nat → Nat} {T : Nat → Int32} (h : rdInv P) (h35 : P 3 = 3 ∨ P 3 = 5) (hl : isLet c = true) : rdInv (letQ c P T).1 := by
  obtain ⟨i0, i1, i2, i3, i45⟩ := h
  obtain ⟨i4, i5⟩ := i45 (Or.inr h35)
  obtain ⟨l1, l2⟩ := isLet_spec hl
  refine rdInv_up3' (by rw [pChg_1]; exact i0) (by rw [pChg_1]; exact or_lt12 i1 (by omega)) (by rw [pChg_1]; exact i2) (by decide) (by rw [pChg_1]; exact i4) (by rw [pChg_1]; exact or_lt12 i5 (by omega))
theorem rdInv_atomQ {c : Nat} {P : Nat → Nat} {T : Nat → Int32} (h : rdInv P) (h30 : P 3 = 0) (hk : atomOk (P 2) c = true) : rdInv (atomQ c P T).1 := by
  obtain ⟨i0, i1, i2, i3, i4⟩ := h
  unfold atomOk at hk
  unfold atomQ
  by_cases e1 : c = 40
  · rw [if_pos e1] at hk ⊢
    have := of_decide_eq_true hk
    refine ⟨pAdd_0 i0, by rw [pAdd1]; exact i1, by rw [pAdd2]; show P 2 + 1 ≤ 8; omega, by rw [pAdd3]; exact i3, fun q => ?_⟩
    rw [pAdd3] at q
    have e : up P 2 (P 2 + 1) 3 = P 3 := rfl
    simp only [e] at q
    omega
  · rw [if_neg e1] at hk ⊢
    by_cases e2 : c = 42
    · rw [if_pos e2]
      exact rdInv_up3 (pAdd_0 i0) (by rw [pAdd1]; exact i1) (by rw [pAdd2]; exact i2) (by decide) (by decide)
    · rw [if_neg e2]
      by_cases e3 : c = 35
      · rw [if_pos e3]
        exact rdInv_up3 i0 i1 i2 (by decide) (by decide)
      · rw [if_neg e3]
        by_cases hl : isLet c = true
        · rw [if_pos hl]
          obtain ⟨l1, l2⟩ := isLet_spec hl
          exact rdInv_up3 (pAdd_0 i0) (by rw [pAdd1]; exact or_lt12 i1 (by omega)) (by rw [pAdd2]; exact i2) (by decide) (by decide)
        · rw [if_neg hl]
          rw [decide_eq_false e2, decide_eq_false e3, ts_false hl] at hk
          obtain ⟨l1, l2⟩ := isDig_spec (by simpa using hk)
          exact rdInv_up3' (pAdd_0 i0) (by rw [pAdd1]; exact i1) (by rw [pAdd2]; exact i2) (by decide) (by rw [pAdd4]; show c - 48 ≤ 9; omega) (by rw [pAdd5]; show 0 < 4096; decide)
theorem rdInv_step {c : Nat} {P : Nat → Nat} {T : Nat → Int32} (h : rdInv P) (hk : rdOk P c = true) : rdInv (rdStep c P T).1 := by
  unfold rdOk at hk
  unfold rdStep
  by_cases e0 : P 3 = 0
  · rw [if_pos e0] at hk ⊢; exact rdInv_atomQ h e0 hk
  · rw [if_neg e0] at hk ⊢
    by_cases e1 : P 3 = 1
    · rw [if_pos e1] at hk ⊢; exact rdInv_numQ h
    · rw [if_neg e1] at hk ⊢
      by_cases e2 : P 3 = 2
      · rw [if_pos e2] at hk ⊢
        obtain ⟨i0, i1, i2, i3, i45⟩ := h
        obtain ⟨i4, i5⟩ := i45 (Or.inl e2)
        exact rdInv_up3' i0 i1 i2 (by decide) i4 i5
      · rw [if_neg e2] at hk ⊢
        by_cases e3 : P 3 = 3
        · rw [if_pos e3] at hk ⊢; exact rdInv_letQ h (Or.inl e3) hk
        · rw [if_neg e3] at hk ⊢
          by_cases e5 : P 3 = 5
          · rw [if_pos e5] at hk ⊢
            by_cases hl : isLet c = true
            · rw [if_pos hl]; exact rdInv_letQ h (Or.inr e5) hl
            · rw [if_neg hl]; exact rdInv_behQ h
          · rw [if_neg e5] at hk ⊢
            by_cases e6 : P 3 = 6
            · rw [if_pos e6] at hk ⊢
              split
              · exact rdInv_secQ h
              · exact rdInv_behQ h
            · rw [if_neg e6] at hk ⊢; exact rdInv_behQ h
/-! the whole text -/
def rdInit (P : Nat → Nat) : Nat → Nat := up (up (up (up P 0 0) 1 0) 2 0) 3 0
def rdRun (tx : Nat → Nat) (P : Nat → Nat) (T : Nat → Int32) : Nat → rdQ
  | 0 => (rdInit P, T)
  | p + 1 => rdStep (tx p) (rdRun tx P T p).1 (rdRun tx P T p).2
def rdWhole (P : Nat → Nat) : Bool := decide (4 ≤ P 3) && decide (P 2 = 0)
def rdFault (tx : Nat → Nat) (P : Nat → Nat) (T : Nat → Int32) (len : Nat) : Nat → Nat → Int32
  | 0, _ => if rdWhole (rdRun tx P T len).1 then -1 else nI len
  | m + 1, p => if rdOk (rdRun tx P T p).1 (tx p) then rdFault tx P T len m (p + 1) else nI p
theorem rdInv_init {P : Nat → Nat} : rdInv (rdInit P) := ⟨by show (0 : Nat) ≤ 60; decide, by show (0 : Nat) < 4096; decide, by show (0 : Nat) ≤ 8; decide, by show (0 : Nat) ≤ 6; decide, fun q => by
  have : rdInit P 3 = 0 := rfl
  omega⟩
set_option maxRecDepth 100000 in
set_option maxHeartbeats 4000000 in
theorem l_read {K : hK} {H : hAH} {a b len : Nat} {C : Nat → Int32} {tx : Nat → Nat} {P : Nat → Nat} {T : Nat → Int32} (hb : H.2 b = some (hInts K 1 60 C)) (hd : b < a ∨ a + 2 ≤ b) (hlen : len ≤ 60) (hC : ∀ j, j < len → C j = nI (tx j) ∧ tx j < 65536) : ∀ (m p : Nat) (w : Int32) (Hc : hAH), p + m = len → w = nI p → RRe K Hc a (rdRun tx P T p).1 (rdRun tx P T p).2 → rdInv (rdRun tx P T p).1 → hFr a (a + 2) H Hc →
    hJ K M_Re_read (0, 0) (fun r H' => r = some (.int (rdFault tx P T len m p)) ∧ (rdFault tx P T len m p = -1 → RRe K H' a (rdRun tx P T len).1 (rdRun tx P T len).2 ∧ rdInv (rdRun tx P T len).1) ∧ (∃ P' T', RRe K H' a P' T') ∧ hFr a (a + 2) H H') 22 (0, 0) [some (.ref a), some (.ref b), some (.int (nI len)), some (.int w)] [] Hc := by
  intro m
  induction m with
  | zero =>
    intro p w Hc hp hw hR hI hf
    have e : p = len := by omega
    subst e
    refine hGo_sound (okc_Re_read K _ _) [22] 60 _ _ _ _ _ ?_
    refine ⟨fun _ => ?_, fun h => absurd (by rw [hw]; exact nI_le (Nat.le_refl _) (by omega)) h⟩
    have i3 := hI.2.2.2.1
    have i2 := hI.2.2.1
    refine ⟨_, hR.1, fun h4 => ⟨fun _ => ?_, fun q => absurd rfl q⟩, fun h4 => ⟨_, hR.1, fun h2 => ⟨fun _ => ?_, fun q => absurd rfl q⟩, fun h2 => ⟨fun q => absurd q (by decide), fun _ => ?_⟩⟩⟩
    · have : ¬ 4 ≤ (rdRun tx P T p).1 3 := fun q => nI_nlt (b := 4) q (by omega) h4
      rw [rdFault, rdWhole, decide_eq_false this]
      exact ⟨trivial, rfl, fun q => ⟨hR, hI⟩, ⟨_, _, hR⟩, hf⟩
    · have : ¬ (rdRun tx P T p).1 2 = 0 := fun q => h2 (by rw [q]; rfl)
      rw [rdFault, rdWhole, decide_eq_false this, Bool.and_false]
      exact ⟨trivial, rfl, fun q => ⟨hR, hI⟩, ⟨_, _, hR⟩, hf⟩
    · have a1 : 4 ≤ (rdRun tx P T p).1 3 := Nat.le_of_not_lt fun q => h4 (nI_lt (b := 4) q (by omega))
      have a2 : (rdRun tx P T p).1 2 = 0 := (ieq (n := 0) (by omega) (by decide)).mp h2
      rw [rdFault, rdWhole, decide_eq_true a1, decide_eq_true a2]
      exact ⟨trivial, rfl, fun q => ⟨hR, hI⟩, ⟨_, _, hR⟩, hf⟩
  | succ m ih =>
    intro p w Hc hp hw hR hI hf
    have hb' := (hf.2 b (by omega)).trans hb
    obtain ⟨c1, c2⟩ := hC p (by omega)
    refine hGo_sound (okc_Re_read K _ _) [22] 60 _ _ _ _ _ ?_
    refine ⟨fun h => absurd (by rw [hw] at h; exact h) (nI_ge (by omega) (by omega)), fun _ => ⟨60, Or.inl ⟨1, _, by decide, hb'⟩, fun h => absurd (by rw [hw] at h; exact h) (nI_ge (b := 60) (by omega) (by omega)), fun _ => ?_⟩⟩
    refine ⟨60, C, p, hb', hw, by omega, by decide, _, hR.1, _, c1 ▸ c_accepts hR hI c2, ?_⟩
    rintro _ H1 ⟨rfl, hh, hE, f1⟩
    refine ⟨fun h => ?_, fun h => ?_⟩
    · have hk := b2i_n0.mp h
      rw [rdFault, hk]
      exact ih (p + 1) _ _ (by omega) (by rw [hw, nI_1]) (hh hk) (rdInv_step hI hk) (hf.trans f1)
    · have hk := b2i_0.mp h
      rw [rdFault, hk]
      refine ⟨trivial, by rw [hw]; rfl, fun q => ?_, hE, hf.trans f1⟩
      exfalso
      have : nI p = -1 := q
      have h0 := nI_pos (n := p) (by omega)
      rw [this] at h0
      exact h0 (by decide)
set_option maxRecDepth 100000 in
set_option maxHeartbeats 4000000 in
theorem c_read {K : hK} {H : hAH} {a b len : Nat} {C : Nat → Int32} {tx : Nat → Nat} {P : Nat → Nat} {T : Nat → Int32} (hR : RRe K H a P T) (hb : H.2 b = some (hInts K 1 60 C)) (hd : b < a ∨ a + 2 ≤ b) (hlen : len ≤ 60) (hC : ∀ j, j < len → C j = nI (tx j) ∧ tx j < 65536) :
    hCT K M_Re_read [.ref a, .ref b, .int (nI len)] H 0 0 (fun r H' => r = some (.int (rdFault tx P T len len 0)) ∧ (rdFault tx P T len len 0 = -1 → RRe K H' a (rdRun tx P T len).1 (rdRun tx P T len).2 ∧ rdInv (rdRun tx P T len).1) ∧ (∃ P' T', RRe K H' a P' T') ∧ hFr a (a + 2) H H') := by
  refine hCT.go (okc_Re_read K _ _) [22] 60 (by decide +kernel) rfl rfl ?_
  refine ⟨_, hR.1, trivial, fun H1 u1 => ⟨_, u1.2.1, trivial, fun H2 u2 => ⟨_, u2.2.1, trivial, fun H3 u3 => ⟨_, u3.2.1, trivial, fun H4 u4 => ?_⟩⟩⟩⟩
  have f : hFr a (a + 1) H H4 := ((u1.fr.trans u2.fr).trans u3.fr).trans u4.fr
  have f' : hFr a (a + 2) H H4 := f.wide (by omega) (by omega)
  have hR4 : RRe K H4 a (rdInit P) T := ⟨u4.2.1, (f.2 _ (by omega)).trans hR.2⟩
  exact l_read hb hd hlen hC len 0 _ _ (by omega) rfl hR4 rdInv_init f'
