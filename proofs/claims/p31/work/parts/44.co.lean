/-! THE COMPANIES: the stable ones, the greatest, the chosen, the smallest -/
section CO
variable {V : Nat → Int32} {n x k : Nat}
theorem gen_no {k : Nat} (hk : k < 12) : ¬ nI k = (-1 : Int32) := fun q => by
  have := nI_pos (n := k) (by omega)
  rw [q] at this
  exact this (by decide)
theorem stay_ok {E : gE} {X k : Nat} (h : eaw E X = 0) (hk : k < 12) (hn : k < E.1) (hb : X.testBit k = true) : E.2.1 k X = true ∧ E.2.2.2.1 X ≤ E.2.2.1 k := by
  have h1 : (eaw E X).testBit k = false := by rw [h]; simp
  rw [eaw_bit, decide_eq_true hk, Bool.true_and] at h1
  unfold eP at h1
  rw [decide_eq_true hn, hb, Bool.true_and, Bool.true_and, Bool.or_eq_false_iff] at h1
  obtain ⟨a, b⟩ := h1
  exact ⟨by simpa using a, Int32.not_lt.mp (of_decide_eq_false b)⟩
/-- a company that holds, for the guests I, with limits as the search has them -/
def gS (E : gE) (x : Nat) : Prop := ∀ k, k < 12 → x.testBit k = true → E.2.2.2.2.1.testBit k = true ∧ k < E.1 ∧ E.2.1 k x = true ∧ E.2.2.2.1 x ≤ E.2.2.1 k
theorem gS_egr {E : gE} (hI : ∀ k, E.2.2.2.2.1.testBit k = true → k < E.1) : gS E (egr E) := fun k hk hb => by
  have h0 : E.2.2.2.2.1.testBit k = true := ess_mono (E := E) (Nat.zero_le _) hb
  obtain ⟨a, b⟩ := stay_ok (E := E) (eL_spec _).2.1 hk (hI k h0) hb
  exact ⟨h0, hI k h0, a, b⟩
theorem gS_sub (w : WF V) {I : Nat} {gen : Int32} (hI : I < 4096) (hx : x < 4096) (h : gS (vE V I gen) x) : subB x (egr (vE V I gen)) = true := by
  have key : ∀ i, subB x (ess (vE V I gen) i) = true := by
    intro i
    induction i with
    | zero =>
      refine subB_iff.mpr fun k hk => ?_
      have hk12 : k < 12 := Nat.lt_of_not_le fun q => by rw [big_bit hx q] at hk; cases hk
      exact (h k hk12 hk).1
    | succ i ih =>
      refine subB_iff.mpr fun k hk => ?_
      have hk12 : k < 12 := Nat.lt_of_not_le fun q => by rw [big_bit hx q] at hk; cases hk
      obtain ⟨-, a, d, c⟩ := h k hk12 hk
      have hin := subB_iff.mp ih k hk
      show (dif (ess (vE V I gen) i) (eaw (vE V I gen) (ess (vE V I gen) i))).testBit k = true
      rw [dif_bit, hin]
      cases hb : (eaw (vE V I gen) (ess (vE V I gen) i)).testBit k
      · simp [hk12]
      · exfalso
        obtain ⟨-, -, -, hor⟩ := eaw_in hb
        have hX : ess (vE V I gen) i < 4096 := ess_lt (E := vE V I gen) hI i
        rcases hor with h1 | h1
        · have h2 := (w.2.2.2.2.1 k a).2.2.2.2.2.2 x _ hx hX ih d
          have h3 : vMet V k (ess (vE V I gen) i) = false := h1
          rw [h2] at h3; cases h3
        · have h3 : (if nI k = gen then (99999 : Int32) else vG V k 0) < vFee V (nI (pop (ess (vE V I gen) i))) := h1
          have h4 := fee_anti w (bit_pos hk12 hk) (pop_mono ih) (pop_le _)
          have c' : vFee V (nI (pop x)) ≤ (if nI k = gen then (99999 : Int32) else vG V k 0) := c
          exact absurd (Int32.le_trans h4 c') (Int32.not_le.mpr h3)
  exact key _
theorem inv_bit {k : Nat} (hk : k < 12) : (vInv V).testBit k = true ↔ k < vN V ∧ ¬ vG V k 2 = 0 := by
  unfold vInv
  rw [setOf_bit]
  simp [hk]
theorem stb_gS {gen : Int32} (hg : gen = -1) : vStb V x = true ↔ gS (vE V (vInv V) gen) x := by
  subst hg
  rw [vStb_spec]
  refine forall_congr' fun k => ?_
  constructor
  · intro h hk hb
    obtain ⟨a, b, c, d⟩ := h hk hb
    refine ⟨(inv_bit hk).mpr ⟨a, b⟩, a, d, ?_⟩
    show vFee V (nI (pop x)) ≤ (if nI k = (-1 : Int32) then (99999 : Int32) else vG V k 0)
    rw [if_neg (gen_no hk)]; exact c
  · intro h hk hb
    obtain ⟨a, b, c, d⟩ := h hk hb
    have d' : vFee V (nI (pop x)) ≤ (if nI k = (-1 : Int32) then (99999 : Int32) else vG V k 0) := d
    rw [if_neg (gen_no hk)] at d'
    exact ⟨b, ((inv_bit hk).mp a).2, d', c⟩
theorem inv_n {k : Nat} (h : (vInv V).testBit k = true) : k < vN V := by
  unfold vInv at h
  rw [setOf_bit] at h
  simp only [Bool.and_eq_true, decide_eq_true_eq] at h
  exact h.2.1
theorem gr_stb : vStb V (vGr V) = true := (stb_gS rfl).mpr (gS_egr (E := vE V (vInv V) (-1)) fun _ => inv_n)
theorem stb_0 : vStb V 0 = true := vStb_spec.mpr fun k _ hb => by simp at hb
theorem pop_0 : pop 0 = 0 := by decide
theorem pop_z {x : Nat} (hx : x < 4096) (h : pop x = 0) : x = 0 := by
  refine Nat.eq_of_testBit_eq fun k => ?_
  rw [Nat.zero_testBit]
  by_cases hk : k < 12
  · cases hb : x.testBit k
    · rfl
    · have := bit_pos hk hb; omega
  · exact big_bit hx (by omega)
theorem pop_lt {x y : Nat} (h : subB x y = true) {k : Nat} (hk : k < 12) (h1 : x.testBit k = false) (h2 : y.testBit k = true) : pop x < pop y := cnt_lt (fun j _ hj => subB_iff.mp h j hj) ⟨k, hk, h1, h2⟩
theorem sub_eq {x y : Nat} (hx : x < 4096) (hy : y < 4096) (h : subB x y = true) (hp : pop y ≤ pop x) : x = y := by
  refine Nat.eq_of_testBit_eq fun k => ?_
  by_cases hk : k < 12
  · cases h1 : x.testBit k
    · cases h2 : y.testBit k
      · rfl
      · have := pop_lt h hk h1 h2; omega
    · exact (subB_iff.mp h k h1).symm
  · rw [big_bit hx (by omega), big_bit hy (by omega)]
def fits (V : Nat → Int32) (x : Nat) : Prop := vStb V x = true ∧ nI (pop x) ≤ V 4
/-- x is no better than b -/
def noB (V : Nat → Int32) (x b : Nat) : Prop := pop x < pop b ∨ pop x = pop b ∧ (vWs V x < vWs V b ∨ vWs V x = vWs V b ∧ b ≤ x)
theorem four (w : WF V) : ∃ d, 1 ≤ d ∧ d ≤ 12 ∧ V 4 = nI d := w.2.2.1.2.2.1
theorem fits_0 (w : WF V) : fits V 0 := ⟨stb_0, by
  obtain ⟨d, h1, h2, e⟩ := four w
  rw [e, pop_0]
  exact nI_le (by omega) (by omega)⟩
theorem bet_iff {x z : Nat} : vBet V x z = true ↔ pop z < pop x ∨ (pop z = pop x ∧ vWs V z < vWs V x) := by
  unfold vBet
  simp
theorem bp_spec (w : WF V) : ∀ j, fits V (bpRun (vBp V) j) ∧ ∀ x, x ≤ j → fits V x → noB V x (bpRun (vBp V) j)
  | 0 => ⟨fits_0 w, fun x hx _ => by
    obtain rfl : x = 0 := by omega
    exact Or.inr ⟨rfl, Or.inr ⟨rfl, Nat.le_refl _⟩⟩⟩
  | j + 1 => by
    obtain ⟨i1, i2⟩ := bp_spec w j
    have hle := bpRun_le (vBp V) j
    have e : bpRun (vBp V) (j + 1) = if vBp V (j + 1) (bpRun (vBp V) j) then j + 1 else bpRun (vBp V) j := rfl
    rw [e]
    clear e
    generalize bpRun (vBp V) j = z at *
    cases hp : vBp V (j + 1) z
    · rw [if_neg (by decide)]
      refine ⟨i1, fun x hx hf => ?_⟩
      by_cases ex : x = j + 1
      · subst ex
        unfold vBp at hp
        rw [decide_eq_true hf.2, hf.1, Bool.true_and, Bool.and_true] at hp
        have hb : ¬ (pop z < pop (j + 1) ∨ (pop z = pop (j + 1) ∧ vWs V z < vWs V (j + 1))) := fun q => by
          rw [bet_iff.mpr q] at hp; cases hp
        obtain ⟨b1, b2⟩ := not_or.mp hb
        by_cases ep : pop (j + 1) = pop z
        · refine Or.inr ⟨ep, ?_⟩
          have hw : ¬ vWs V z < vWs V (j + 1) := fun q => b2 ⟨ep.symm, q⟩
          by_cases hl : vWs V (j + 1) < vWs V z
          · exact Or.inl hl
          · exact Or.inr ⟨Int32.le_antisymm (Int32.not_lt.mp hw) (Int32.not_lt.mp hl), by omega⟩
        · exact Or.inl (by omega)
      · exact i2 x (by omega) hf
    · rw [if_pos rfl]
      unfold vBp at hp
      simp only [Bool.and_eq_true, decide_eq_true_eq] at hp
      obtain ⟨⟨h1, h2⟩, h3⟩ := hp
      refine ⟨⟨h3, h1⟩, fun x hx hf => ?_⟩
      by_cases ex : x = j + 1
      · subst ex
        exact Or.inr ⟨rfl, Or.inr ⟨rfl, Nat.le_refl _⟩⟩
      · have h4 := i2 x (by omega) hf
        rcases bet_iff.mp h2 with q | ⟨q1, q2⟩
        · rcases h4 with r | ⟨r, -⟩
          · exact Or.inl (by omega)
          · exact Or.inl (by omega)
        · rcases h4 with r | ⟨r, s | ⟨s, -⟩⟩
          · exact Or.inl (by omega)
          · exact Or.inr ⟨by omega, Or.inl (Int32.lt_trans s q2)⟩
          · exact Or.inr ⟨by omega, Or.inl (by rw [s]; exact q2)⟩
theorem ch_fits (w : WF V) : fits V (vCh V) := by
  unfold vCh
  split
  · rename_i h
    exact ⟨gr_stb, h⟩
  · exact (bp_spec w _).1
theorem ch_best (w : WF V) (hx : x < 2 ^ vN V) (hf : fits V x) : noB V x (vCh V) := by
  have h12 := two12 w.1.2
  unfold vCh
  split
  · have hs := stb_gr w (by omega) hf.1
    have hg := gr_lt2 w
    by_cases ep : pop (vGr V) ≤ pop x
    · have := sub_eq (by omega) (by omega) hs ep
      subst this
      exact Or.inr ⟨rfl, Or.inr ⟨rfl, Nat.le_refl _⟩⟩
    · exact Or.inl (by omega)
  · exact (bp_spec w _).2 x (by omega) hf
theorem sm_spec (p : Nat → Bool) : ∀ j, (smO p j = none → ∀ x, 1 ≤ x → x ≤ j → p x = false) ∧ ∀ b, smO p j = some b → 1 ≤ b ∧ b ≤ j ∧ p b = true ∧ ∀ x, 1 ≤ x → x ≤ j → p x = true → pop b < pop x ∨ (pop x = pop b ∧ b ≤ x)
  | 0 => ⟨fun _ x h1 h2 => by omega, fun b h => by cases h⟩
  | j + 1 => by
    obtain ⟨i1, i2⟩ := sm_spec p j
    rcases hm : smO p j with _ | b
    · have e : smO p (j + 1) = if p (j + 1) && true then some (j + 1) else none := by rw [smO, hm]
      rw [e]
      cases hp : p (j + 1)
      · refine ⟨fun _ x h1 h2 => ?_, fun b h => by cases h⟩
        by_cases ex : x = j + 1
        · subst ex; exact hp
        · exact i1 hm x h1 (by omega)
      · refine ⟨(fun h => by cases h), fun b h => ?_⟩
        cases h
        refine ⟨by omega, Nat.le_refl _, hp, fun x h1 h2 h3 => ?_⟩
        by_cases ex : x = j + 1
        · subst ex; exact Or.inr ⟨rfl, Nat.le_refl _⟩
        · rw [i1 hm x h1 (by omega)] at h3; cases h3
    · obtain ⟨a1, a2, a3, a4⟩ := i2 b hm
      have e : smO p (j + 1) = if p (j + 1) && decide (pop (j + 1) < pop b) then some (j + 1) else some b := by rw [smO, hm]
      rw [e]
      cases hp : p (j + 1) && decide (pop (j + 1) < pop b)
      · rw [if_neg (by decide)]
        refine ⟨(fun h => by cases h), fun c h => ?_⟩
        cases h
        refine ⟨a1, by omega, a3, fun x h1 h2 h3 => ?_⟩
        by_cases ex : x = j + 1
        · subst ex
          rw [h3, Bool.true_and] at hp
          have := of_decide_eq_false hp
          by_cases ep : pop (j + 1) = pop b
          · exact Or.inr ⟨ep, by omega⟩
          · exact Or.inl (by omega)
        · exact a4 x h1 (by omega) h3
      · rw [if_pos rfl]
        simp only [Bool.and_eq_true, decide_eq_true_eq] at hp
        refine ⟨(fun h => by cases h), fun c h => ?_⟩
        cases h
        refine ⟨by omega, Nat.le_refl _, hp.1, fun x h1 h2 h3 => ?_⟩
        by_cases ex : x = j + 1
        · subst ex; exact Or.inr ⟨rfl, Nat.le_refl _⟩
        · rcases a4 x h1 (by omega) h3 with q | ⟨q, -⟩
          · exact Or.inl (by omega)
          · exact Or.inl (by omega)
theorem sm_none (w : WF V) (h : smO (vStb V) (2 ^ vN V - 1) = none) : ∀ x, x < 2 ^ vN V → vStb V x = true → x = 0 := fun x hx hs => by
  refine Classical.byContradiction fun q => ?_
  rw [(sm_spec _ _).1 h x (by omega) (by omega)] at hs
  cases hs
/-- the guests one by one -/
theorem stb_n (w : WF V) (hx : x < 2 ^ vN V) : vStb V x = allB (vOkG V x (vFee V (nI (pop x)))) (vN V) := by
  unfold vStb
  have hn := w.1.2
  have key : ∀ m, allB (vOkG V x (vFee V (nI (pop x)))) (vN V + m) = allB (vOkG V x (vFee V (nI (pop x)))) (vN V) := by
    intro m
    induction m with
    | zero => rfl
    | succ m ih =>
      rw [show vN V + (m + 1) = vN V + m + 1 by omega, allB, ih]
      have hb : x.testBit (vN V + m) = false := Nat.testBit_lt_two_pow (Nat.lt_of_lt_of_le hx (Nat.pow_le_pow_right (by decide) (by omega)))
      unfold vOkG
      rw [hb]
      simp
  have := key (12 - vN V)
  rw [show vN V + (12 - vN V) = 12 by omega] at this
  exact this
end CO
