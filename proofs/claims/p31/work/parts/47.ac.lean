/-! THE ACTS: what is answered, and told afterwards -/
section AC
variable {V V' V2 : Nat → Int32} {g k m : Nat} {Y : hY}
/-- two parties that differ in charges, and in the limit of g -/
def simL (g : Nat) (V V' : Nat → Int32) : Prop := vN V' = vN V ∧ V' 2 = V 2 ∧ V' 3 = V 3 ∧ V' 7 = V 7 ∧ (∀ k, vG V' k 2 = vG V k 2) ∧ (∀ k, k ≠ g → vG V' k 0 = vG V k 0) ∧ ∀ k x, vMet V' k x = vMet V k x
theorem simL.rf : simL g V V := ⟨rfl, rfl, rfl, rfl, fun _ => rfl, fun _ _ => rfl, fun _ _ => rfl⟩
theorem simL.tr (a : simL g V V') (b : simL g V' V2) : simL g V V2 := by
  obtain ⟨a1, a2, a3, a4, a5, a6, a7⟩ := a
  obtain ⟨b1, b2, b3, b4, b5, b6, b7⟩ := b
  exact ⟨b1.trans a1, b2.trans a2, b3.trans a3, b4.trans a4, fun k => (b5 k).trans (a5 k), fun k h => (b6 k h).trans (a6 k h), fun k x => (b7 k x).trans (a7 k x)⟩
theorem chg_gj {k j f : Nat} (hf : f < 8) (h : j ≠ k ∨ f ≠ 3) : vG (chgV V k) j f = vG V j f := by
  unfold chgV
  split
  · rw [show 18 + 8 * k = 15 + 8 * k + 3 by omega, vG_upd (by decide) hf, if_neg (fun q => by omega)]
  · rfl
theorem chg_m {k j x : Nat} (hk : k < 12) : vMet (chgV V k) j x = vMet V j x := by
  refine vMet_hi fun i hi => ?_
  unfold chgV
  split
  · exact upd_n (by omega)
  · rfl
theorem lim_g {l : Int32} {j f : Nat} (hf : f < 8) : vG (chgV (upd V (15 + 8 * k) l) k) j f = if f = 3 ∧ j = k then vG (chgV (upd V (15 + 8 * k) l) k) j f else if j = k ∧ f = 0 then l else vG V j f := by
  by_cases h : f = 3 ∧ j = k
  · rw [if_pos h]
  · rw [if_neg h, chg_gj hf (by omega)]
    exact vG_upd (c := 0) (by decide) hf
theorem sl_sim (w : WF Y.1) (hk : k < vN Y.1) (l : Int32) : simL k Y.1 (sp_setLimit Y (nI k) l).2.1 := by
  have hn := w.1.2
  unfold sp_setLimit
  rw [if_neg (not_not_intro (gOk_nI w hk)), clp_k w hk]
  by_cases c2 : ¬ (0 ≤ l ∧ l ≤ 99999)
  · rw [if_pos c2]; exact simL.rf
  · rw [if_neg c2]
    by_cases c3 : Y.1 7 = 1
    · rw [if_pos c3]; exact simL.rf
    · rw [if_neg c3]
      by_cases c4 : vG Y.1 k 0 = l
      · rw [if_pos c4]; exact simL.rf
      · rw [if_neg c4]
        have o : ∀ i, i < 15 → chgV (upd Y.1 (15 + 8 * k) l) k i = Y.1 i := fun i hi => by rw [chg_o hi, upd_n (by omega)]
        refine ⟨?_, o 2 (by decide), o 3 (by decide), o 7 (by decide), fun j => ?_, fun j hj => ?_, fun j x => ?_⟩
        · show vN (chgV (upd Y.1 (15 + 8 * k) l) k) = _
          unfold vN
          rw [o 0 (by decide)]
        · show vG (chgV (upd Y.1 (15 + 8 * k) l) k) j 2 = _
          rw [lim_g (by decide), if_neg (by omega), if_neg (by omega)]
        · show vG (chgV (upd Y.1 (15 + 8 * k) l) k) j 0 = _
          rw [lim_g (by decide), if_neg (by omega), if_neg (by omega)]
        · show vMet (chgV (upd Y.1 (15 + 8 * k) l) k) j x = _
          rw [chg_m (by omega)]
          exact vMet_n (by omega)
theorem sl_lim (w : WF Y.1) (hk : k < vN Y.1) (h7 : ¬ Y.1 7 = 1) {d : Nat} (hd : d ≤ 99999) : vG (sp_setLimit Y (nI k) (nI d)).2.1 k 0 = nI d ∧ (sp_setLimit Y (nI k) (nI d)).1 = if vG Y.1 k 0 = nI d then -5 else vG Y.1 k 0 := by
  have hn := w.1.2
  unfold sp_setLimit
  rw [if_neg (not_not_intro (gOk_nI w hk)), clp_k w hk, if_neg (not_not_intro ⟨nI_le (a := 0) (by omega) (by omega), nI_le (b := 99999) hd (by decide)⟩), if_neg h7]
  by_cases c4 : vG Y.1 k 0 = nI d
  · rw [if_pos c4, if_pos c4]; exact ⟨c4, rfl⟩
  · rw [if_neg c4, if_neg c4]
    refine ⟨?_, rfl⟩
    show vG (chgV (upd Y.1 (15 + 8 * k) (nI d)) k) k 0 = _
    rw [lim_g (by decide), if_neg (by omega), if_pos ⟨rfl, rfl⟩]
theorem nI_ge5 {d : Nat} (hd : d < 2147483648) : (-5 : Int32) ≤ nI d := Int32.le_trans (by decide) (nI_pos' hd)
theorem sl_ge (w : WF Y.1) (g l : Int32) : (-5 : Int32) ≤ (sp_setLimit Y g l).1 := by
  unfold sp_setLimit
  by_cases c1 : ¬ gOk Y.1 g
  · rw [if_pos c1]; show (-5 : Int32) ≤ -1; decide
  · rw [if_neg c1]
    obtain ⟨k, hk, rfl⟩ := (gOk_iff w).mp (Classical.not_not.mp c1)
    by_cases c2 : ¬ (0 ≤ l ∧ l ≤ 99999)
    · rw [if_pos c2]; show (-5 : Int32) ≤ -2; decide
    · rw [if_neg c2]
      by_cases c3 : Y.1 7 = 1
      · rw [if_pos c3]; show (-5 : Int32) ≤ -4; decide
      · rw [if_neg c3, clp_k w hk]
        obtain ⟨d, hd, e⟩ := (w.2.2.2.2.1 k hk).1
        by_cases c4 : vG Y.1 k 0 = l
        · rw [if_pos c4]; show (-5 : Int32) ≤ -5; decide
        · rw [if_neg c4]
          show _ ≤ vG Y.1 k 0
          rw [e]
          exact nI_ge5 (by omega)
theorem set_ge (w : WF Y.1) (x v : Int32) : (-5 : Int32) ≤ (sp_set Y x v).1 := by
  unfold sp_set
  by_cases c1 : ¬ (0 ≤ x ∧ x ≤ 4)
  · rw [if_pos c1]; show (-5 : Int32) ≤ -2; decide
  · rw [if_neg c1]
    obtain ⟨j, hj, rfl⟩ := rng (M := 4) (by decide) (Classical.not_not.mp c1).1 (Classical.not_not.mp c1).2
    rw [clp_nI (by omega)]
    by_cases c2 : ¬ (setLo j ≤ v ∧ v ≤ setHi j)
    · rw [if_pos c2]; show (-5 : Int32) ≤ -2; decide
    · rw [if_neg c2]
      by_cases c3 : Y.1 7 = 1
      · rw [if_pos c3]; show (-5 : Int32) ≤ -4; decide
      · rw [if_neg c3]
        by_cases c4 : Y.1 (2 + j) = v
        · rw [if_pos c4]; show (-5 : Int32) ≤ -5; decide
        · rw [if_neg c4]
          show _ ≤ Y.1 (2 + j)
          obtain ⟨⟨d0, h0, e0⟩, ⟨d1, h1, e1⟩, ⟨d2, h2, h2', e2⟩, ⟨d3, h3, e3⟩, ⟨d4, h4, e4⟩⟩ := w.2.2.1
          match j, hj with
          | 0, _ => rw [e0]; exact nI_ge5 (by omega)
          | 1, _ => rw [e1]; exact nI_ge5 (by omega)
          | 2, _ => rw [e2]; exact nI_ge5 (by omega)
          | 3, _ => rw [e3]; exact nI_ge5 (by omega)
          | 4, _ => rw [e4]; exact nI_ge5 (by omega)
/-- the least limit -/
theorem fee_cong (h2 : V' 2 = V 2) (h3 : V' 3 = V 3) (j : Int32) : vFee V' j = vFee V j := by
  unfold vFee feeC
  show (if 0 < j then (V' 2 + j - 1) / j + V' 3 else 0) = (if 0 < j then (V 2 + j - 1) / j + V 3 else 0)
  rw [h2, h3]
theorem simL.inv (h : simL g V V') : vInv V' = vInv V := by
  obtain ⟨h1, -, -, -, h5, -, -⟩ := h
  unfold vInv
  refine setOf_cong fun k _ => ?_
  rw [h1, h5]
theorem ll_val (w : WF Y.1) (hk : k < vN Y.1) : (sp_leastLimit Y (nI k) = -5 ∧ (egr (vE Y.1 (vInv Y.1) (nI k))).testBit k = false) ∨ ∃ d, d ≤ 99999 ∧ sp_leastLimit Y (nI k) = nI d ∧ (egr (vE Y.1 (vInv Y.1) (nI k))).testBit k = true ∧ vFee Y.1 (nI (pop (egr (vE Y.1 (vInv Y.1) (nI k))))) = nI d := by
  have hn := w.1.2
  unfold sp_leastLimit
  rw [if_neg (not_not_intro (gOk_nI w hk)), clp_k w hk]
  by_cases hb : (egr (vE Y.1 (vInv Y.1) (nI k))).testBit k = true
  · rw [if_pos hb]
    obtain ⟨d, hd, e⟩ := fee_bd w (x := egr (vE Y.1 (vInv Y.1) (nI k)))
    have h1 : vFee Y.1 (nI (pop (egr (vE Y.1 (vInv Y.1) (nI k))))) ≤ (if nI k = nI k then (99999 : Int32) else vG Y.1 k 0) := (gS_egr (E := vE Y.1 (vInv Y.1) (nI k)) (fun _ => inv_n) k (by omega) hb).2.2.2
    rw [if_pos rfl, e] at h1
    exact Or.inr ⟨d, (nI_leI (b := 99999) (by omega) (by decide)).mp h1, e, hb, e⟩
  · rw [if_neg hb]
    refine Or.inl ⟨rfl, ?_⟩
    cases h : (egr (vE Y.1 (vInv Y.1) (nI k))).testBit k
    · rfl
    · exact absurd h hb
theorem nI_ne {j k : Nat} (hj : j < 12) (hk : k < 12) (h : j ≠ k) : ¬ nI j = nI k := fun q => h (nI_inj (by omega) (by omega) q)
theorem ll_in (w : WF V) (w' : WF V') (h : simL k V V') (hk : k < vN V) {d : Nat} (e : vFee V (nI (pop (egr (vE V (vInv V) (nI k))))) = nI d) (hb : (egr (vE V (vInv V) (nI k))).testBit k = true) (e' : vG V' k 0 = nI d) : (vGr V').testBit k = true := by
  have hn := w.1.2
  have hi := h.inv
  obtain ⟨h1, h2, h3, h4, h5, h6, h7⟩ := h
  have hs : gS (vS V') (egr (vE V (vInv V) (nI k))) := fun j hj hbj => by
    obtain ⟨a1, a2, a3, a4⟩ := gS_egr (E := vE V (vInv V) (nI k)) (fun _ => inv_n) j hj hbj
    have a1 : (vInv V).testBit j = true := a1
    have a2 : j < vN V := a2
    have a3 : vMet V j (egr (vE V (vInv V) (nI k))) = true := a3
    have a4 : vFee V (nI (pop (egr (vE V (vInv V) (nI k))))) ≤ (if nI j = nI k then (99999 : Int32) else vG V j 0) := a4
    refine ⟨?_, ?_, ?_, ?_⟩
    · show (vInv V').testBit j = true
      rw [hi]; exact a1
    · show j < vN V'
      rw [h1]; exact a2
    · show vMet V' j _ = true
      rw [h7]; exact a3
    · show vFee V' (nI (pop _)) ≤ (if nI j = (-1 : Int32) then (99999 : Int32) else vG V' j 0)
      rw [if_neg (gen_no hj), fee_cong h2 h3]
      by_cases ej : j = k
      · subst ej
        rw [e, e']
        exact Int32.le_refl _
      · rw [if_neg (nI_ne hj (by omega) ej)] at a4
        rw [h6 j ej]
        exact a4
  exact subB_iff.mp (gS_sub w' vS_lt (eg_lt vS_lt) hs) k hb
theorem ll_out (w : WF V) (w' : WF V') (h : simL k V V') (hk : k < vN V) {d : Nat} (hd : d + 1 ≤ 99999) (e : vFee V (nI (pop (egr (vE V (vInv V) (nI k))))) = nI (d + 1)) (e' : vG V' k 0 = nI d) : (vGr V').testBit k = false := by
  have hn := w.1.2
  have hi := h.inv
  obtain ⟨h1, h2, h3, h4, h5, h6, h7⟩ := h
  cases hb : (vGr V').testBit k
  · rfl
  · exfalso
    have hG := (stb_gS (V := V') rfl).mp gr_stb
    have hs : gS (vE V (vInv V) (nI k)) (vGr V') := fun j hj hbj => by
      obtain ⟨a1, a2, a3, a4⟩ := hG j hj hbj
      have a1 : (vInv V').testBit j = true := a1
      have a2 : j < vN V' := a2
      have a3 : vMet V' j (vGr V') = true := a3
      have a4 : vFee V' (nI (pop (vGr V'))) ≤ (if nI j = (-1 : Int32) then (99999 : Int32) else vG V' j 0) := a4
      rw [if_neg (gen_no hj), fee_cong h2 h3] at a4
      refine ⟨?_, ?_, ?_, ?_⟩
      · show (vInv V).testBit j = true
        rw [← hi]; exact a1
      · show j < vN V
        rw [← h1]; exact a2
      · show vMet V j _ = true
        rw [← h7]; exact a3
      · show vFee V (nI (pop _)) ≤ (if nI j = nI k then (99999 : Int32) else vG V j 0)
        by_cases ej : j = k
        · subst ej
          rw [if_pos rfl]
          rw [e'] at a4
          exact Int32.le_trans a4 (nI_le (b := 99999) (by omega) (by decide))
        · rw [if_neg (nI_ne hj (by omega) ej), ← h6 j ej]
          exact a4
    have hsub : subB (vGr V') (egr (vE V (vInv V) (nI k))) = true := gS_sub w vS_lt (gr_lt V') hs
    have a4 := (hG k (by omega) hb).2.2.2
    have a4 : vFee V' (nI (pop (vGr V'))) ≤ (if nI k = (-1 : Int32) then (99999 : Int32) else vG V' k 0) := a4
    rw [if_neg (gen_no (by omega)), fee_cong h2 h3, e'] at a4
    have h8 := fee_anti w (bit_pos (by omega) hb) (pop_mono hsub) (pop_le _)
    rw [e] at h8
    have h9 := Int32.le_trans h8 a4
    have := (nI_leI (a := d + 1) (b := d) (by omega) (by omega)).mp h9
    omega
/-- inviting -/
theorem inv_fix (w : WF Y.1) (hk : k < vN Y.1) (h7 : Y.1 7 = 1) (x : Int32) : sp_invite Y (nI k) x = (-4, Y) := by
  unfold sp_invite
  rw [if_neg (not_not_intro (gOk_nI w hk)), if_pos h7]
theorem inv_do (w : WF Y.1) (hk : k < vN Y.1) (h7 : ¬ Y.1 7 = 1) {x : Int32} (hx : ¬ vG Y.1 k 2 = x) : (sp_invite Y (nI k) x).1 = sp_count (sp_invite Y (nI k) x).2 2 ∧ vG (sp_invite Y (nI k) x).2.1 k 2 = x ∧ vN (sp_invite Y (nI k) x).2.1 = vN Y.1 ∧ (sp_invite Y (nI k) x).2.1 7 = Y.1 7 := by
  unfold sp_invite
  rw [if_neg (not_not_intro (gOk_nI w hk)), if_neg h7, clp_k w hk, if_neg hx]
  refine ⟨rfl, ?_, ?_, ?_⟩
  · show vG (chgV (upd Y.1 (17 + 8 * k) x) k) k 2 = x
    rw [chg_gj (by decide) (by omega)]
    unfold vG
    rw [show 15 + 8 * k + 2 = 17 + 8 * k by omega, upd_s]
  · show vN (chgV (upd Y.1 (17 + 8 * k) x) k) = _
    rw [chg_n]
    exact vN_n (by omega)
  · show chgV (upd Y.1 (17 + 8 * k) x) k 7 = _
    rw [chg_o (by decide), upd_n (by omega)]
theorem inv_no (w : WF Y.1) (hk : k < vN Y.1) (h7 : ¬ Y.1 7 = 1) {x : Int32} (hx : vG Y.1 k 2 = x) : sp_invite Y (nI k) x = (-5, Y) := by
  unfold sp_invite
  rw [if_neg (not_not_intro (gOk_nI w hk)), if_neg h7, clp_k w hk, if_pos hx]
/-- days -/
theorem ps_val (w : WF Y.1) (i : LI m Y.1) (hm : m ≤ 80) {e : Nat} (h1 : 1 ≤ e) (h5 : e ≤ 5) : sp_pass Y (nI e) = (Y.1 1 + nI e, yAct Y (upd Y.1 1 (Y.1 1 + nI e))) ∧ ¬ Y.1 1 + nI e ≤ 0 := by
  obtain ⟨d, hd, ed⟩ := i.day
  unfold sp_pass
  rw [if_neg (not_not_intro ⟨nI_le (a := 1) h1 (by omega), nI_le (b := 60) (by omega) (by decide)⟩), ed, nI_add, if_neg (fun q => by
    have := (nI_ltI (a := 999) (by decide) (by omega)).mp q
    omega)]
  exact ⟨rfl, nI_nle (by omega) (by omega)⟩
/-- fixing -/
theorem fx_due (w : WF V) {x : Nat} (hx : x < 2 ^ vN V) : sumI (fxvP V x) 12 = (if pop x = 0 then 0 else nI (pop x) * vFee V (nI (pop x))) + sumI (fun k => (if x.testBit k then 1 else 0) * vG V k 3) (vN V) := by
  have hn := w.1.2
  have hin : ∀ k, k < 12 → inX (vN V) x k = x.testBit k := fun k _ => by
    unfold inX
    cases hb : x.testBit k
    · simp
    · rw [decide_eq_true (Nat.lt_of_not_le fun q => by
        rw [Nat.testBit_lt_two_pow (Nat.lt_of_lt_of_le hx (Nat.pow_le_pow_right (by decide) q))] at hb
        cases hb)]
      rfl
  have e1 : sumI (fxvP V x) 12 = sumI (fun k => (if x.testBit k = true then vFee V (nI (pop x)) else 0) + (if k < vN V then (if x.testBit k then 1 else 0) * vG V k 3 else 0)) 12 := sumI_cong fun k hk => by
    unfold fxvP
    rw [hin k hk]
    by_cases hb : x.testBit k = true
    · have hk' : k < vN V := by
        have := hin k hk
        rw [hb] at this
        exact (inX_iff.mp this).1
      rw [if_pos hb, if_pos hb, if_pos hk', if_pos hb, Int32.one_mul]
    · rw [if_neg hb, if_neg hb, if_neg hb, Int32.zero_mul, ite_self, Int32.zero_add]
  rw [e1, ← sumI_add, sumI_cnt, sum_to w]
  congr 1
  show vFee V (nI (pop x)) * nI (pop x) = _
  by_cases z : pop x = 0
  · rw [if_pos z, z]
    show _ * (0 : Int32) = 0
    exact Int32.mul_zero
  · rw [if_neg z, Int32.mul_comm]
theorem fx_val (h7 : ¬ Y.1 7 = 1) (hc : ¬ vCh Y.1 = 0) : sp_fix Y = (sumI (fxvP Y.1 (vCh Y.1)) 12, yAct Y (fxV Y.1 (vCh Y.1))) := by
  unfold sp_fix
  rw [if_neg h7, if_neg hc]
theorem cnt_0 (p : Nat → Bool) : ∀ n, (∀ j, j < n → p j = false) → cnt p n = 0
  | 0, _ => rfl
  | n + 1, h => by rw [cnt, cnt_0 p n (fun j hj => h j (by omega)), h n (by omega)]; rfl
theorem fx_seat (w : WF Y.1) {x : Nat} (hx : x < 2 ^ vN Y.1) (h0 : ¬ x = 0) : ¬ sp_seat (yAct Y (fxV Y.1 x)) 0 < 0 := by
  have hn := w.1.2
  obtain ⟨j, hj⟩ := Nat.exists_testBit_of_ne_zero h0
  have hjn : ∀ j, x.testBit j = true → j < vN Y.1 := fun j hb => Nat.lt_of_not_le fun q => by
    rw [Nat.testBit_lt_two_pow (Nat.lt_of_lt_of_le hx (Nat.pow_le_pow_right (by decide) q))] at hb
    cases hb
  rcases lowest_spec x.testBit 12 0 (by decide) with ⟨-, h2⟩ | ⟨k, -, -, hk, hb, hlo⟩
  · have := hjn j hj
    rw [h2 j (by omega) (by omega)] at hj; cases hj
  · have hkn := hjn k hb
    have e7 : vG (fxV Y.1 x) k 7 = nI 0 := by
      rw [fxV_g (by omega) (by decide), if_pos (inX_iff.mpr ⟨hkn, hb⟩)]
      show nI (cnt (inX (vN Y.1) x) k) = nI 0
      rw [cnt_0 _ _ fun q hq => ?_]
      unfold inX
      rw [hlo q (Nat.zero_le _) hq, Bool.and_false]
    unfold sp_seat
    rw [if_neg (by decide)]
    rcases lowest_spec (fun k => decide (k < vN (yAct Y (fxV Y.1 x)).1) && decide (vG (yAct Y (fxV Y.1 x)).1 k 7 = 0)) 12 0 (by decide) with ⟨-, h2⟩ | ⟨j, e, -, hj, -, -⟩
    · have h3 := h2 k (by omega) (by omega)
      have a1 : k < vN (yAct Y (fxV Y.1 x)).1 := by
        show k < vN (fxV Y.1 x)
        rw [fxV_n]; exact hkn
      have a2 : vG (yAct Y (fxV Y.1 x)).1 k 7 = 0 := e7
      simp only [a1, a2, decide_true, Bool.and_true] at h3
      cases h3
    · rw [e]; exact nI_pos (by omega)
/-- cancelling -/
theorem lq_sub (q : lvQ) (hq : q.2 < 4096) : ∀ j, subB (lvR q j).2 q.2 = true
  | 0 => subB_iff.mpr fun _ h => h
  | j + 1 => by
    have ih := lq_sub q hq j
    have ev : lvR q (j + 1) = if lvDis (lvR q j) = 0 then lvR q j else lvN (lvR q j) := rfl
    rw [ev]
    by_cases hz : lvDis (lvR q j) = 0
    · rw [if_pos hz]; exact ih
    · rw [if_neg hz]
      refine subB_iff.mpr fun k hk => subB_iff.mp ih k ?_
      have hk' : (dif (lvR q j).2 (lvDis (lvR q j))).testBit k = true := hk
      rw [dif_bit] at hk'
      simp only [Bool.and_eq_true] at hk'
      exact hk'.2.1
theorem cn_val (w : WF Y.1) (hk : k < vN Y.1) (h7 : Y.1 7 = 1) {y : Nat} (ey : Y.1 8 = nI y) (hy : y < 4096) (hb : y.testBit k = true) : ∃ z, z < 4096 ∧ pop z < pop y ∧ z.testBit k = false ∧ (sp_cancel Y (nI k)).1 = nI (pop y - pop z) ∧ (sp_cancel Y (nI k)).2.1 8 = nI z ∧ (sp_cancel Y (nI k)).2.1 7 = 1 := by
  have hn := w.1.2
  have ecl : clp (Y.1 8) = y := by rw [ey]; exact clp_nI (by omega)
  obtain ⟨i1, i2, i3, i4⟩ := w.lv h7 ey hy hk 12
  have hs := lq_sub (lv0 Y.1 y k) (dif_lt _ _) 12
  have hs : subB (lvR (lv0 Y.1 y k) 12).2 (dif y (2 ^ k)) = true := hs
  have hno : (lvR (lv0 Y.1 y k) 12).2.testBit k = false := by
    cases h : (lvR (lv0 Y.1 y k) 12).2.testBit k
    · rfl
    · have := subB_iff.mp hs k h
      rw [dif_bit] at this
      simp at this
  have hsy : subB (lvR (lv0 Y.1 y k) 12).2 y = true := subB_iff.mpr fun j hj => by
    have := subB_iff.mp hs j hj
    rw [dif_bit] at this
    simp only [Bool.and_eq_true] at this
    exact this.2.1
  have hlt := pop_lt hsy (show k < 12 by omega) hno hb
  refine ⟨(lvR (lv0 Y.1 y k) 12).2, i4, hlt, hno, ?_, ?_, ?_⟩
  · unfold sp_cancel
    rw [if_neg (not_not_intro (gOk_nI w hk)), clp_k w hk, ecl, if_neg (not_or.mpr ⟨not_not_intro h7, by rw [hb]; decide⟩)]
    exact pk_sub (by omega)
  · unfold sp_cancel
    rw [if_neg (not_not_intro (gOk_nI w hk)), clp_k w hk, ecl, if_neg (not_or.mpr ⟨not_not_intro h7, by rw [hb]; decide⟩)]
    exact i3
  · unfold sp_cancel
    rw [if_neg (not_not_intro (gOk_nI w hk)), clp_k w hk, ecl, if_neg (not_or.mpr ⟨not_not_intro h7, by rw [hb]; decide⟩)]
    exact i2
theorem cn_no (w : WF Y.1) (hk : k < vN Y.1) (h : ¬ (Y.1 7 = 1 ∧ (vL8 Y.1).testBit k = true)) : sp_cancel Y (nI k) = (-4, Y) := by
  unfold sp_cancel
  rw [if_neg (not_not_intro (gOk_nI w hk)), clp_k w hk, if_pos]
  by_cases h7 : Y.1 7 = 1
  · refine Or.inr ?_
    cases hb : (clp (Y.1 8)).testBit k
    · rfl
    · exact absurd ⟨h7, hb⟩ h
  · exact Or.inl h7
end AC
/-! the number of guests stays as it is -/
section NN
variable {Y : hY} {k m : Nat}
theorem nn_setCondition {len : Nat} {tx : Nat → Nat} (w : WF Y.1) (hk : k < vN Y.1) (h : TB (vN Y.1) tx len) : vN (sp_setCondition (ytx Y len tx) (nI k)).2.1 = vN Y.1 := by
  rw [a_setc w hk h]
  split
  · rfl
  · show vN (chgV (cndV Y.1 k (tL tx len) (tM tx len)) k) = _
    rw [chg_n, cnd_n]
theorem nn_pass (d : Int32) : vN (sp_pass Y d).2.1 = vN Y.1 := by
  unfold sp_pass
  split
  · rfl
  · split
    · rfl
    · exact vN_n (by decide)
theorem nn_set (x v : Int32) : vN (sp_set Y x v).2.1 = vN Y.1 := by
  unfold sp_set
  split
  · rfl
  · split
    · rfl
    · split
      · rfl
      · split
        · rfl
        · exact vN_n (by omega)
theorem nn_setWeight (g l : Int32) : vN (sp_setWeight Y g l).2.1 = vN Y.1 := by
  unfold sp_setWeight
  split
  · rfl
  · split
    · rfl
    · split
      · rfl
      · split
        · rfl
        · exact vN_n (by omega)
theorem nn_fix : vN (sp_fix Y).2.1 = vN Y.1 := by
  unfold sp_fix
  split
  · rfl
  · split
    · rfl
    · exact fxV_n
theorem nn_dissolve : vN (sp_dissolve Y).2.1 = vN Y.1 := by
  unfold sp_dissolve
  split
  · rfl
  · rfl
theorem lv_n (q : lvQ) : ∀ j, vN (lvR q j).1 = vN q.1
  | 0 => rfl
  | j + 1 => by
    have ih := lv_n q j
    have ev : lvR q (j + 1) = if lvDis (lvR q j) = 0 then lvR q j else lvN (lvR q j) := rfl
    rw [ev]
    by_cases hz : lvDis (lvR q j) = 0
    · rw [if_pos hz]; exact ih
    · rw [if_neg hz]
      show vN (upd (lgV _ _ _ _) 14 _) = _
      rw [vN_n (by decide), lgV_n]
      exact ih
theorem nn_cancel (g : Int32) : vN (sp_cancel Y g).2.1 = vN Y.1 := by
  unfold sp_cancel
  split
  · rfl
  · split
    · rfl
    · show vN (lvR _ 12).1 = _
      rw [lv_n]
      show vN (upd (lgV _ _ _ _) 13 _) = _
      rw [vN_n (by decide), lgV_n]
theorem nn_invite (g l : Int32) : vN (sp_invite Y g l).2.1 = vN Y.1 := by
  unfold sp_invite
  split
  · rfl
  · split
    · rfl
    · split
      · rfl
      · show vN (chgV (upd _ _ _) _) = _
        rw [chg_n, vN_n (by omega)]
end NN
