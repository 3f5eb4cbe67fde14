/-! THE GUESTS: reasons that lead back, needs, weights, sums, seats -/
section GF
variable {V : Nat → Int32} {k m : Nat} {Y : hY}
abbrev vS (V : Nat → Int32) : gE := vE V (vInv V) (-1)
theorem vS_lt : (vS V).2.2.2.2.1 < 4096 := setOf_12 _
theorem ett_gr (hk : k < vN V) (hn : vN V ≤ 12) : 14 ≤ ett (vS V) k ↔ (vGr V).testBit k = true := by
  constructor
  · intro h
    cases hb : (vGr V).testBit k
    · obtain ⟨j, h1, h2⟩ := ess_or (E := vS V) vS_lt (k := k) (by omega) hk (eL (vS V)) hb
      have h3 := (eL_spec (vS V)).1
      have := ett_of (E := vS V) (i := j) (by omega) h2
      omega
    · rfl
  · intro h
    have h1 := (epa_late (E := vS V) vS_lt (i := 13) (by have := (eL_spec (vS V)).1; omega)).1
    have h2 : (ess (vS V) 13).testBit k = true := by rw [h1]; exact h
    have := ess_tt h2 (by decide)
    omega
theorem err_0 (hk : k < vN V) (hn : vN V ≤ 12) : err (vS V) k = 0 ↔ (vGr V).testBit k = true := by
  rw [← ett_gr hk hn]
  unfold err
  by_cases h : 14 ≤ ett (vS V) k
  · rw [if_pos h]; exact ⟨fun _ => h, fun _ => rfl⟩
  · rw [if_neg h]
    refine ⟨fun q => ?_, fun q => absurd q h⟩
    exfalso
    revert q
    split
    · decide
    · split <;> decide
theorem err_1 (hk : k < vN V) (hn : vN V ≤ 12) : err (vS V) k = 1 ↔ vG V k 2 = 0 := by
  have key : err (vS V) k = 1 ↔ ett (vS V) k = 0 := by
    unfold err
    by_cases h : 14 ≤ ett (vS V) k
    · rw [if_pos h]; exact ⟨fun q => absurd q (by decide), fun q => by omega⟩
    · rw [if_neg h]
      by_cases h0 : ett (vS V) k = 0
      · rw [if_pos h0]; exact ⟨fun _ => h0, fun _ => rfl⟩
      · rw [if_neg h0]
        refine ⟨fun q => ?_, fun q => absurd q h0⟩
        exfalso
        revert q
        split <;> decide
  rw [key]
  constructor
  · intro h
    have h1 := ett_in (E := vS V) (k := k) (by omega)
    rw [h, epa_bit0] at h1
    simp only [Bool.and_eq_true, Bool.not_eq_true'] at h1
    have h2 : (vInv V).testBit k = false := h1.2.2
    refine Classical.byContradiction fun q => ?_
    rw [(inv_bit (by omega)).mpr ⟨hk, q⟩] at h2
    cases h2
  · intro h
    refine ett_of (i := 0) (by decide) ?_
    rw [epa_bit0]
    have h2 : (vInv V).testBit k = false := by
      cases hb : (vInv V).testBit k
      · rfl
      · exact absurd h ((inv_bit (by omega)).mp hb).2
    have h3 : (vS V).2.2.2.2.1.testBit k = false := h2
    have h4 : k < (vS V).1 := hk
    rw [h3, decide_eq_true h4, decide_eq_true (show k < 12 by omega)]
    rfl
theorem err_val (E : gE) (k : Nat) : err E k = 0 ∨ (ett E k < 14 ∧ (err E k = 1 ∨ err E k = 2 ∨ err E k = 3)) := by
  unfold err
  by_cases h : 14 ≤ ett E k
  · rw [if_pos h]; exact Or.inl rfl
  · rw [if_neg h]
    refine Or.inr ⟨by omega, ?_⟩
    split
    · exact Or.inl rfl
    · split
      · exact Or.inr (Or.inr rfl)
      · exact Or.inr (Or.inl rfl)
theorem err_pos (E : gE) (k : Nat) : err E k ≤ 0 ↔ err E k = 0 := by
  rcases err_val E k with h | ⟨-, h | h | h⟩ <;> rw [h] <;> decide
theorem err_lt {E : gE} {k : Nat} (h : err E k ≠ 0) : ett E k < 14 := by
  rcases err_val E k with q | ⟨q, -⟩
  · exact absurd q h
  · exact q
theorem err_ne {E : gE} {k : Nat} (h : ett E k < 14) : err E k ≠ 0 := by
  unfold err
  rw [if_neg (by omega)]
  split
  · decide
  · split <;> decide
theorem tt_le (h : ett (vS V) k < 14) : ett (vS V) k ≤ eL (vS V) := by
  refine Nat.le_of_not_lt fun q => ?_
  obtain ⟨t, ht⟩ : ∃ t, ett (vS V) k = t + 1 := ⟨ett (vS V) k - 1, by omega⟩
  have h1 := ett_in h
  rw [ht, (epa_late (E := vS V) vS_lt (i := t) (by omega)).2] at h1
  simp at h1
theorem way_no {E : gE} {f k : Nat} (h : ebb E k < 0) : ewl E f k = (1, k) := by
  cases f with
  | zero => rfl
  | succ f => rw [ewl, if_pos h]
theorem way_to {E : gE} {k : Nat} (h : ¬ ebb E k < 0) : ∃ j, j < 12 ∧ j < E.1 ∧ ebb E k = nI j ∧ ett E k = ett E j + 1 ∧ ett E j < 14 ∧ ewl E (ett E k) k = ((ewl E (ett E j) j).1 + 1, (ewl E (ett E j) j).2) := by
  rcases ebb_spec E k with e | ⟨j, e, hj, hb, he⟩
  · rw [e] at h; exact absurd (by decide) h
  · have hne : err E k ≠ 0 := by rcases he with q | q <;> rw [q] <;> decide
    have hlt := err_lt hne
    have h1 : ett E k ≠ 0 := fun q => by
      have : err E k = 1 := by
        unfold err
        rw [if_neg (by omega), if_pos q]
      rw [this] at he
      exact absurd he (by decide)
    have ej : ett E j = ett E k - 1 := ett_of (by omega) hb
    refine ⟨j, hj, epa_n hb, e, by omega, by omega, ?_⟩
    have ecl : (ebb E k).toNatClampNeg = j := by rw [e]; exact nI_clamp (by omega)
    obtain ⟨t, ht⟩ : ∃ t, ett E k = t + 1 := ⟨ett E k - 1, by omega⟩
    have et : ett E j = t := by omega
    rw [ht, et, ewl, if_neg h, ecl]
theorem gOk_nI (w : WF V) (hk : k < vN V) : gOk V (nI k) := (gOk_iff w).mpr ⟨k, hk, rfl⟩
theorem sOk_nI (w : WF V) {x : Nat} (hx : x < 2 ^ vN V) : sOk V (nI x) := (sOk_iff w).mpr ⟨x, hx, rfl⟩
theorem clp_k (w : WF V) (hk : k < vN V) : clp (nI k) = k := clp_nI (by have := w.1.2; omega)
theorem a_why0 (w : WF Y.1) (hk : k < vN Y.1) : sp_why Y (nI k) 0 = err (vS Y.1) k := by
  unfold sp_why
  rw [if_neg (not_not_intro (gOk_nI w hk)), if_neg (by decide), if_pos rfl, clp_k w hk]
theorem a_whyN (w : WF Y.1) (hk : k < vN Y.1) (h : err (vS Y.1) k = 0) {x : Int32} (hx : x = 1 ∨ x = 2) : sp_why Y (nI k) x = -5 := by
  unfold sp_why
  rw [if_neg (not_not_intro (gOk_nI w hk)), clp_k w hk]
  rcases hx with rfl | rfl
  · rw [if_neg (by decide), if_neg (by decide), if_pos h]
  · rw [if_neg (by decide), if_neg (by decide), if_pos h]
theorem a_why1 (w : WF Y.1) (hk : k < vN Y.1) (h : ¬ err (vS Y.1) k = 0) : sp_why Y (nI k) 1 = nI (ett (vS Y.1) k) := by
  unfold sp_why
  rw [if_neg (not_not_intro (gOk_nI w hk)), clp_k w hk, if_neg (by decide), if_neg (by decide), if_neg h, if_pos rfl]
theorem a_why2 (w : WF Y.1) (hk : k < vN Y.1) (h : ¬ err (vS Y.1) k = 0) : sp_why Y (nI k) 2 = ebb (vS Y.1) k := by
  unfold sp_why
  rw [if_neg (not_not_intro (gOk_nI w hk)), clp_k w hk, if_neg (by decide), if_neg (by decide), if_neg h, if_neg (by decide), if_pos rfl]
theorem a_why3 (w : WF Y.1) (hk : k < vN Y.1) (h : ¬ err (vS Y.1) k = 0) : sp_why Y (nI k) 3 = nI (ewl (vS Y.1) (ett (vS Y.1) k) k).1 := by
  unfold sp_why
  rw [if_neg (not_not_intro (gOk_nI w hk)), clp_k w hk, if_neg (by decide), if_neg (by decide), if_neg h, if_neg (by decide), if_neg (by decide), if_pos rfl]
theorem a_why4 (w : WF Y.1) (hk : k < vN Y.1) (h : ¬ err (vS Y.1) k = 0) : sp_why Y (nI k) 4 = nI (ewl (vS Y.1) (ett (vS Y.1) k) k).2 := by
  unfold sp_why
  rw [if_neg (not_not_intro (gOk_nI w hk)), clp_k w hk, if_neg (by decide), if_neg (by decide), if_neg h, if_neg (by decide), if_neg (by decide), if_neg (by decide)]
theorem a_guest (w : WF Y.1) (hk : k < vN Y.1) {f : Nat} (hf : f < 8) : sp_guest Y (nI k) (nI f) = vG Y.1 k f := by
  unfold sp_guest
  rw [if_neg (not_not_intro (gOk_nI w hk)), if_pos ⟨nI_le (a := 0) (by omega) (by omega), nI_le (b := 7) (by omega) (by decide)⟩, clp_k w hk, clp_nI (by omega)]
theorem a_met (w : WF Y.1) (hk : k < vN Y.1) {x : Nat} (hx : x < 2 ^ vN Y.1) : sp_met Y (nI k) (nI x) = b2i (vMet Y.1 k x) := by
  have h12 := two12 w.1.2
  unfold sp_met
  rw [if_neg (not_not_intro (gOk_nI w hk)), if_neg (not_not_intro (sOk_nI w hx)), clp_k w hk, clp_nI (by omega)]
theorem a_stable (w : WF Y.1) {x : Nat} (hx : x < 2 ^ vN Y.1) : sp_stable Y (nI x) = b2i (vStb Y.1 x) := by
  have h12 := two12 w.1.2
  unfold sp_stable
  rw [if_neg (not_not_intro (sOk_nI w hx)), clp_nI (by omega)]
theorem a_fee {j : Nat} (h1 : 1 ≤ j) (h2 : j ≤ 12) : sp_fee Y (nI j) = vFee Y.1 (nI j) := by
  unfold sp_fee
  rw [if_pos ⟨nI_le (a := 1) h1 (by omega), nI_le (b := 12) h2 (by decide)⟩]
theorem sub_all {n x : Nat} (hx : x < 2 ^ n) : subB x (2 ^ n - 1) = true := subB_iff.mpr fun k hk => by
  rw [Nat.testBit_two_pow_sub_one]
  refine decide_eq_true (Nat.lt_of_not_le fun q => ?_)
  rw [Nat.testBit_lt_two_pow (Nat.lt_of_lt_of_le hx (Nat.pow_le_pow_right (by decide) q))] at hk
  cases hk
theorem met_mono (w : WF V) (hk : k < vN V) {x y : Nat} (hx : x < 4096) (hy : y < 4096) (h : subB x y = true) (hm : vMet V k x = true) : vMet V k y = true := (w.2.2.2.2.1 k hk).2.2.2.2.2.2 x y hx hy h hm
theorem or_lt {n x j : Nat} (hx : x < 2 ^ n) (hj : j < n) : x ||| 2 ^ j < 2 ^ n := Nat.or_lt_two_pow hx (Nat.pow_lt_pow_right (by decide) hj)
theorem sub_or (x y : Nat) : subB x (x ||| y) = true := subB_iff.mpr fun k hk => by rw [Nat.testBit_or, hk]; rfl
theorem nd_spec (p : Nat → Bool) : ∀ j, ndO p j = none ↔ ∀ x, x < j → p x = false
  | 0 => ⟨fun _ x h => absurd h (Nat.not_lt_zero x), fun _ => rfl⟩
  | j + 1 => by
    cases hp : p j
    · rw [nd_f hp, nd_spec p j]
      refine ⟨fun h x hx => ?_, fun h x hx => h x (by omega)⟩
      by_cases e : x = j
      · subst e; exact hp
      · exact h x (by omega)
    · refine ⟨fun h => ?_, fun h => ?_⟩
      · exfalso
        rcases hm : ndO p j with _ | a
        · rw [nd_none hp hm] at h; cases h
        · by_cases hl : pop j < a
          · rw [nd_lt hp hm hl] at h; cases h
          · rw [nd_ge hm hl] at h; cases h
      · rw [h j (by omega)] at hp; cases hp
theorem a_needs (w : WF Y.1) (hk : k < vN Y.1) : sp_needs Y (nI k) < 0 ↔ vMet Y.1 k (2 ^ vN Y.1 - 1) = false := by
  have h12 := two12 w.1.2
  have h0 := Nat.two_pow_pos (vN Y.1)
  unfold sp_needs
  rw [if_neg (not_not_intro (gOk_nI w hk)), clp_k w hk]
  rcases hm : ndO (vMet Y.1 k) (2 ^ vN Y.1) with _ | a
  · exact ⟨fun _ => (nd_spec _ _).mp hm _ (by omega), fun _ => by decide⟩
  · have ha := ndO_le _ _ hm
    refine ⟨fun q => absurd q (nI_pos (n := a) (by omega)), fun q => ?_⟩
    have : ndO (vMet Y.1 k) (2 ^ vN Y.1) = none := (nd_spec _ _).mpr fun x hx => by
      cases hb : vMet Y.1 k x
      · rfl
      · rw [met_mono w hk (by omega) (by omega) (sub_all hx) hb] at q; cases q
    rw [this] at hm; cases hm
theorem gS_dif {x : Nat} (hk : k < 12) : gS (vE V (dif (vInv V) (2 ^ k)) (-1)) x ↔ gS (vS V) x ∧ x.testBit k = false := by
  have eb : ∀ j, j < 12 → (dif (vInv V) (2 ^ k)).testBit j = ((vInv V).testBit j && !decide (k = j)) := fun j hj => by
    rw [dif_bit, decide_eq_true hj, Bool.true_and, Nat.testBit_two_pow]
  constructor
  · intro h
    refine ⟨fun j hj hb => ?_, ?_⟩
    · obtain ⟨a, b⟩ := h j hj hb
      have a' : (dif (vInv V) (2 ^ k)).testBit j = true := a
      rw [eb j hj] at a'
      exact ⟨((Bool.and_eq_true _ _).mp a').1, b⟩
    · cases hb : x.testBit k
      · rfl
      · have a' : (dif (vInv V) (2 ^ k)).testBit k = true := (h k hk hb).1
        rw [eb k hk] at a'
        simp at a'
  · rintro ⟨h, h2⟩ j hj hb
    obtain ⟨a, b⟩ := h j hj hb
    refine ⟨?_, b⟩
    show (dif (vInv V) (2 ^ k)).testBit j = true
    have a' : (vInv V).testBit j = true := a
    rw [eb j hj, a', Bool.true_and]
    by_cases e : k = j
    · subst e; rw [hb] at h2; cases h2
    · rw [decide_eq_false e]; rfl
theorem dif_n {j : Nat} (h : (dif (vInv V) (2 ^ k)).testBit j = true) : j < vN V := by
  rw [dif_bit] at h
  simp only [Bool.and_eq_true] at h
  exact inv_n h.2.1
theorem eg_lt {I : Nat} {gen : Int32} (hI : I < 4096) : egr (vE V I gen) < 4096 := ess_lt (E := vE V I gen) hI _
theorem wo_spec (w : WF V) (hk : k < 12) : gS (vS V) (egr (vE V (dif (vInv V) (2 ^ k)) (-1))) ∧ (egr (vE V (dif (vInv V) (2 ^ k)) (-1))).testBit k = false := (gS_dif hk).mp (gS_egr (E := vE V (dif (vInv V) (2 ^ k)) (-1)) fun j hj => dif_n (k := k) hj)
theorem wo_in (w : WF V) (hk : k < 12) (h : (vGr V).testBit k = true) : pop (egr (vE V (dif (vInv V) (2 ^ k)) (-1))) < pop (vGr V) := by
  obtain ⟨h1, h2⟩ := wo_spec w hk
  exact pop_lt (gS_sub w vS_lt (eg_lt (dif_lt _ _)) h1) hk h2 h
theorem wo_out (w : WF V) (hk : k < 12) (h : (vGr V).testBit k = false) : pop (egr (vE V (dif (vInv V) (2 ^ k)) (-1))) = pop (vGr V) := by
  obtain ⟨h1, h2⟩ := wo_spec w hk
  have a := pop_mono (gS_sub w vS_lt (eg_lt (dif_lt _ _)) h1)
  have b := pop_mono (gS_sub w (dif_lt _ _) (gr_lt V) ((gS_dif hk).mpr ⟨(stb_gS rfl).mp gr_stb, h⟩))
  exact Nat.le_antisymm a b
theorem a_wo (w : WF Y.1) (hk : k < vN Y.1) (h2 : ¬ vG Y.1 k 2 = 0) : sp_weightOf Y (nI k) = nI (pop (vGr Y.1) - pop (egr (vE Y.1 (dif (vInv Y.1) (2 ^ k)) (-1)))) ∧ (0 < pop (vGr Y.1) - pop (egr (vE Y.1 (dif (vInv Y.1) (2 ^ k)) (-1))) ↔ (vGr Y.1).testBit k = true) := by
  have hn := w.1.2
  have hle : pop (egr (vE Y.1 (dif (vInv Y.1) (2 ^ k)) (-1))) ≤ pop (vGr Y.1) := by
    cases hb : (vGr Y.1).testBit k
    · exact Nat.le_of_eq (wo_out w (by omega) hb)
    · exact Nat.le_of_lt (wo_in w (by omega) hb)
  refine ⟨?_, ?_⟩
  · unfold sp_weightOf
    rw [if_neg (not_not_intro (gOk_nI w hk)), clp_k w hk, if_neg h2]
    exact pk_sub hle
  · constructor
    · intro q
      cases hb : (vGr Y.1).testBit k
      · rw [wo_out w (by omega) hb] at q; omega
      · rfl
    · intro q
      have := wo_in w (by omega) q
      omega
theorem a_wo0 (w : WF Y.1) (hk : k < vN Y.1) (h2 : vG Y.1 k 2 = 0) : sp_weightOf Y (nI k) = -5 := by
  unfold sp_weightOf
  rw [if_neg (not_not_intro (gOk_nI w hk)), clp_k w hk, if_pos h2]
/-! sums -/
theorem sumI_if {p : Nat → Int32} {n : Nat} : ∀ m, sumI (fun k => if k < n then p k else 0) (n + m) = sumI p n
  | 0 => sumI_cong fun k hk => if_pos hk
  | m + 1 => by
    rw [show n + (m + 1) = n + m + 1 by omega, sumI, sumI_if m, if_neg (by omega), Int32.add_zero]
theorem sum_to (w : WF V) (p : Nat → Int32) : sumI (fun k => if k < vN V then p k else 0) 12 = sumI p (vN V) := by
  have h := w.1.2
  have := sumI_if (p := p) (n := vN V) (12 - vN V)
  rw [show vN V + (12 - vN V) = 12 by omega] at this
  exact this
theorem a_paid (w : WF Y.1) : sp_count Y 9 = sumI (fun k => vG Y.1 k 5) (vN Y.1) := by
  show Y.1 10 = _
  rw [w.2.2.2.2.2.1.1, ← sum_all w (Or.inl rfl), sum_to w]
theorem a_back (w : WF Y.1) : sp_count Y 10 = sumI (fun k => vG Y.1 k 6) (vN Y.1) := by
  show Y.1 11 = _
  rw [w.2.2.2.2.2.1.2, ← sum_all w (Or.inr rfl), sum_to w]
theorem a_charges (w : WF Y.1) : sp_count Y 14 = sumI (fun k => vG Y.1 k 3) (vN Y.1) := sum_to w _
theorem sum_bd (i : LI m V) : ∀ j, j ≤ vN V → ∃ P G, P ≤ 1000000 * m * j ∧ G ≤ P ∧ sumI (fun k => vG V k 5) j = nI P ∧ sumI (fun k => vG V k 6) j = nI G
  | 0, _ => ⟨0, 0, Nat.zero_le _, Nat.le_refl _, rfl, rfl⟩
  | j + 1, h => by
    obtain ⟨P, G, h1, h2, h3, h4⟩ := sum_bd i j (by omega)
    obtain ⟨d, f, -, -, -, -, a5⟩ := i
    obtain ⟨-, -, p, g, c, p1, -, p3, p4, p5, -⟩ := a5 j (by omega)
    refine ⟨P + p, G + g, ?_, by omega, ?_, ?_⟩
    · rw [Nat.mul_succ]; omega
    · rw [sumI, h3, p4, nI_add]
    · rw [sumI, h4, p5, nI_add]
theorem back_le (w : WF V) (i : LI m V) (hm : m ≤ 80) : sumI (fun k => vG V k 6) (vN V) ≤ sumI (fun k => vG V k 5) (vN V) := by
  have hn := w.1.2
  obtain ⟨P, G, h1, h2, h3, h4⟩ := sum_bd i (vN V) (Nat.le_refl _)
  rw [h3, h4]
  have h5 : 1000000 * m * vN V ≤ 80000000 * 12 := Nat.mul_le_mul (by omega) hn
  exact nI_le h2 (by omega)
/-! seats -/
theorem seat_val (w : WF V) (i : LI m V) (hk : k < vN V) : (vG V k 7 = -5 ∧ (V 7 = 1 → (vL8 V).testBit k = false)) ∨ (V 7 = 1 ∧ (vL8 V).testBit k = true ∧ ∃ s, s < 12 ∧ vG V k 7 = nI s) := by
  obtain ⟨d, f, -, -, -, -, a5⟩ := i
  obtain ⟨-, i7, -⟩ := a5 k hk
  rcases (w.2.2.2.2.1 k hk).2.2.2.2.1 with h | ⟨h7, y, ey, hy, hb⟩
  · refine Or.inl ⟨h, fun q => ?_⟩
    cases hb : (vL8 V).testBit k
    · rfl
    · obtain ⟨s, hs, e⟩ := i7 q hb
      rw [h] at e
      exact absurd (show nI s < 0 by rw [← e]; decide) (nI_pos (by omega))
  · have e8 : vL8 V = y := by unfold vL8; rw [ey]; exact clp_nI (by omega)
    refine Or.inr ⟨h7, by rw [e8]; exact hb, i7 h7 (by rw [e8]; exact hb)⟩
theorem a_seat (w : WF Y.1) (hk : k < vN Y.1) {s : Nat} (hs : s < 12) (h : vG Y.1 k 7 = nI s) : sp_seat Y (nI s) = nI k := by
  have hn := w.1.2
  unfold sp_seat
  rw [if_neg (not_not_intro ⟨nI_le (a := 0) (by omega) (by omega), nI_le (b := 11) (by omega) (by decide)⟩)]
  rcases lowest_spec (fun k => decide (k < vN Y.1) && decide (vG Y.1 k 7 = nI s)) 12 0 (by decide) with ⟨-, h2⟩ | ⟨j, e, -, -, h2, -⟩
  · have := h2 k (by omega) (by omega)
    rw [decide_eq_true hk, decide_eq_true h] at this
    cases this
  · rw [e]
    simp only [Bool.and_eq_true, decide_eq_true_eq] at h2
    by_cases ej : j = k
    · rw [ej]
    · have := (w.2.2.2.2.1 k hk).2.2.2.2.2.1 j h2.1 ej (h2.2.trans h.symm)
      rw [h] at this
      exact absurd (show nI s < 0 by rw [this]; decide) (nI_pos (by omega))
theorem left_eq (w : WF V) (i : LI m V) (h7 : V 7 = 1) : V 8 = nI (setOf (fun k => decide (0 ≤ vG V k 7)) (vN V)) := by
  have hn := w.1.2
  obtain ⟨y, hy, ey, -⟩ := w.2.2.2.1.2
  have h12 := two12 hn
  have e8 : vL8 V = y := by unfold vL8; rw [ey]; exact clp_nI (by omega)
  rw [ey]
  congr 1
  refine Nat.eq_of_testBit_eq fun k => ?_
  rw [setOf_bit]
  by_cases hk : k < vN V
  · rw [decide_eq_true hk, Bool.true_and]
    rcases seat_val w i hk with ⟨a, b⟩ | ⟨-, a, s, hs, b⟩
    · rw [a, ← e8, b h7]; decide
    · rw [b, ← e8, a, decide_eq_true (nI_pos' (by omega))]
  · rw [decide_eq_false hk, Bool.false_and]
    exact Nat.testBit_lt_two_pow (Nat.lt_of_lt_of_le hy (Nat.pow_le_pow_right (by decide) (by omega)))
end GF
