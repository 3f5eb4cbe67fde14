/-! THE REFERENCE: the greatest company, in rounds -/
def MIN (E : gE) (R Ro : Nat → Int32) (i g : Nat) : Prop := ∀ k, k < 12 → ((ess E i).testBit k = true → (k < g ∧ (eaw E (ess E i)).testBit k = true → R k = err E k ∧ Ro k = nI (ett E k)) ∧ (¬ (k < g ∧ (eaw E (ess E i)).testBit k = true) → R k = 0 ∧ Ro k = 0)) ∧ (k < E.1 → (ess E i).testBit k = false → R k = err E k ∧ Ro k = nI (ett E k))
def MDN (E : gE) (R Ro : Nat → Int32) : Prop := ∀ k, k < 12 → k < E.1 → R k = err E k ∧ (err E k ≠ 0 → Ro k = nI (ett E k)) ∧ (err E k = 0 → Ro k = 0)
theorem MIN.no {E : gE} {R Ro : Nat → Int32} {i g : Nat} (h : MIN E R Ro i g) (hb : (eaw E (ess E i)).testBit g = false) : MIN E R Ro i (g + 1) := by
  intro k hk
  obtain ⟨a, b⟩ := h k hk
  refine ⟨fun he => ⟨fun q => (a he).1 ⟨?_, q.2⟩, fun q => (a he).2 fun z => q ⟨by omega, z.2⟩⟩, b⟩
  have : k ≠ g := fun e => by rw [e, hb] at q; exact absurd q.2 (by decide)
  omega
theorem MIN.yes {E : gE} {R Ro : Nat → Int32} {i g : Nat} {r : Int32} (hi : i < 13) (h : MIN E R Ro i g) (hb : (eaw E (ess E i)).testBit g = true) (hr : r = if E.2.1 g (ess E i) then 3 else 2) : MIN E (upd R g r) (upd Ro g (nI (i + 1))) i (g + 1) := by
  obtain ⟨t1, t2⟩ := err_of hi hb
  intro k hk
  obtain ⟨a, b⟩ := h k hk
  by_cases e : k = g
  · subst e
    rw [upd_s, upd_s]
    exact ⟨fun he => ⟨fun _ => ⟨hr.trans t2.symm, by rw [t1]⟩, fun q => absurd ⟨Nat.lt_succ_self k, hb⟩ q⟩, fun _ he => ⟨hr.trans t2.symm, by rw [t1]⟩⟩
  · rw [upd_n e, upd_n e]
    exact ⟨fun he => ⟨fun q => (a he).1 ⟨by omega, q.2⟩, fun q => (a he).2 fun z => q ⟨by omega, z.2⟩⟩, b⟩
theorem MIN.next {E : gE} {R Ro : Nat → Int32} {i g : Nat} (hg : E.1 ≤ g) (h : MIN E R Ro i g) : MIN E R Ro (i + 1) 0 := by
  intro k hk
  obtain ⟨a, b⟩ := h k hk
  refine ⟨fun he => ⟨fun q => absurd q.1 (Nat.not_lt_zero _), fun _ => ?_⟩, fun hn he => ?_⟩
  · have h1 := ess_sub he
    refine (a h1).2 fun z => ?_
    rw [ess_out z.2] at he
    cases he
  · cases hb : (ess E i).testBit k
    · exact b hn hb
    · refine (a hb).1 ⟨by omega, ?_⟩
      rw [ess, dif_bit, hb] at he
      simpa [hk] using he
theorem MIN.done {E : gE} {R Ro : Nat → Int32} {i g : Nat} (hI : E.2.2.2.2.1 < 4096) (h : MIN E R Ro i g) (hi : i ≤ 13) (hge : eL E ≤ i) : MDN E R Ro := by
  intro k hk hn
  cases hb : (ess E i).testBit k
  · obtain ⟨a, b⟩ := (h k hk).2 hn hb
    refine ⟨a, fun _ => b, fun e => ?_⟩
    exfalso
    obtain ⟨j, hj, hp⟩ := ess_or hI hk hn i hb
    have ht := ett_of (E := E) (k := k) (i := j) (by omega) hp
    rw [err, if_neg (by omega)] at e
    split at e
    · exact absurd e (by decide)
    · split at e <;> exact absurd e (by decide)
  · have hz : eaw E (ess E i) = 0 := (epa_late hI hge).2
    have h1 := ((h k hk).1 hb).2 (fun q => by rw [hz, Nat.zero_testBit] at q; exact absurd q.2 (by decide))
    have h13 : (ess E 13).testBit k = true := by
      rw [(epa_late hI (show eL E ≤ 13 by omega)).1, ← (epa_late hI hge).1]
      exact hb
    have ht := ess_tt h13 (by decide)
    have herr : err E k = 0 := by rw [err, if_pos (by omega)]
    exact ⟨by rw [herr]; exact h1.1, fun q => absurd herr q, fun _ => h1.2⟩
section MO3
variable {K : hK} {H : hAH} {m : Nat} {c : Nat → Int32} {B : Nat → Nat → Int32}
abbrev vEm (V : Nat → Int32) : gE := vE V (vInv V) (-1)
/-- what the search leaves of the reference -/
def grQ (K : hK) (H : hAH) (m : Nat) (c : Nat → Int32) (B : Nat → Nat → Int32) : hPost := fun r H' => r = some (.int (nI (vGr (B 0)))) ∧ (∃ R Ro, RMo K H' m (upd c 5 (nI (eL (vEm (B 0)) + 1))) (upB (upB B 8 R) 9 Ro) ∧ MDN (vEm (B 0)) R Ro) ∧ hFr m (m + 11) H H'
theorem eP_vE {V : Nat → Int32} {X k : Nat} (hk : k < vN V) (hn : vN V ≤ 12) : eP (vEm V) X k = (X.testBit k && (!vMet V k X || decide (vG V k 0 < vFee V (nI (pop X))))) := by
  show (decide (k < vN V) && (X.testBit k && (!vMet V k X || decide ((if nI k = (-1 : Int32) then (99999 : Int32) else vG V k 0) < vFee V (nI (pop X)))))) = _
  rw [decide_eq_true hk, if_neg (fun q => by
    have := nI_pos (n := k) (by omega)
    rw [q] at this
    exact this (by decide))]
  rfl
set_option maxRecDepth 100000 in
set_option maxHeartbeats 4000000 in
theorem l_grIn {Q : hPost} {V : Nat → Int32} (w : WF V) {i : Nat} (hi : i < 13) {go : Int32} {H0 : hAH} {Bo : Nat → Nat → Int32} (hV : Bo 0 = V) {ci : Nat → Int32} (hci : ci 5 = nI (i + 1))
    (hend : ∀ (R Ro : Nat → Int32) (l4 : Option Value) (H1 : hAH), RMo K H1 m ci (upB (upB Bo 8 R) 9 Ro) → MIN (vEm V) R Ro i (vN V) → hFr m (m + 11) H0 H1 → hJ K M_Mo_greatest (0, 0) Q 52 (0, 0) [some (.ref m), some (.int (nI (ess (vEm V) (i + 1)))), some (.int (b2i (!decide (eaw (vEm V) (ess (vEm V) i) = 0)))), some (.int (nI (eaw (vEm V) (ess (vEm V) i)))), l4] [] H1) :
    ∀ (d k : Nat) (a g : Int32) (R Ro : Nat → Int32) (H1 : hAH), k + d = vN V → a = nI (setOf (eP (vEm V) (ess (vEm V) i)) k) → g = nI k → RMo K H1 m ci (upB (upB Bo 8 R) 9 Ro) → MIN (vEm V) R Ro i k → hFr m (m + 11) H0 H1 → hJ K M_Mo_greatest (0, 0) Q 71 (0, 0) [some (.ref m), some (.int (nI (ess (vEm V) i))), some (.int go), some (.int a), some (.int g)] [] H1 := by
  have hn := w.1.2
  have hI : (vEm V).2.2.2.2.1 < 4096 := setOf_12 _
  have hX := ess_lt hI i
  intro d
  induction d with
  | zero =>
    intro k a g R Ro H1 hk ha hg h hM f
    obtain rfl : k = vN V := by omega
    have b0 : upB (upB Bo 8 R) 9 Ro 0 = V := hV
    have hv := h.v
    rw [b0] at hv
    have ea : a = nI (eaw (vEm V) (ess (vEm V) i)) := by
      rw [ha]
      congr 1
      have e := setOf_ext (p := eP (vEm V) (ess (vEm V) i)) (n := vN V) (12 - vN V) (fun k h1 _ => by
        show (decide (k < vN V) && _) = false
        rw [decide_eq_false (by omega)]; rfl)
      rw [show vN V + (12 - vN V) = 12 by omega] at e
      exact e.symm
    refine hGo_sound (okc_Mo_greatest K _ _) [52, 71] 90 _ _ _ _ _ ?_
    refine ⟨_, h.1, 1647, _, 0, Or.inl hv, rfl, by decide, by decide, fun _ => ⟨fun hz => ?_, fun hz => ?_⟩, fun q => absurd (by rw [hg, w.1.1]; exact nI_le (Nat.le_refl _) (by omega)) q⟩
    · rw [ea] at hz
      have hz0 : eaw (vEm V) (ess (vEm V) i) = 0 := nI_inj (Nat.lt_trans (eaw_lt _ _) (by decide)) (by decide) hz
      have := hend R Ro (some (.int g)) H1 h hM f
      rw [decide_eq_true hz0] at this
      rw [ea, minus_eq hX]
      exact this
    · rw [ea] at hz
      have hz0 : ¬ eaw (vEm V) (ess (vEm V) i) = 0 := fun q => hz (by rw [q]; rfl)
      have := hend R Ro (some (.int g)) H1 h hM f
      rw [decide_eq_false hz0] at this
      rw [ea, minus_eq hX]
      exact this
  | succ d ih =>
    intro k a g R Ro H1 hk ha hg h hM f
    have hkn : k < vN V := by omega
    have b0 : upB (upB Bo 8 R) 9 Ro 0 = V := hV
    have hv := h.v
    rw [b0] at hv
    have eP' := eP_vE (X := ess (vEm V) i) hkn hn
    have eb : (eaw (vEm V) (ess (vEm V) i)).testBit k = eP (vEm V) (ess (vEm V) i) k := by
      rw [eaw_bit, decide_eq_true (show k < 12 by omega)]; rfl
    have eg : g + 1 = nI (k + 1) := by rw [hg, nI_1]
    have no : eP (vEm V) (ess (vEm V) i) k = false → hJ K M_Mo_greatest (0, 0) Q 71 (0, 0) [some (.ref m), some (.int (nI (ess (vEm V) i))), some (.int go), some (.int a), some (.int (g + 1))] [] H1 := fun hp => by
      refine ih (k + 1) _ _ R Ro H1 (by omega) ?_ eg h (hM.no (by rw [eb]; exact hp)) f
      rw [ha, setOf, hp]
      simp
    have J119 : eP (vEm V) (ess (vEm V) i) k = true → hJ K M_Mo_greatest (0, 0) Q 119 (0, 0) [some (.ref m), some (.int (nI (ess (vEm V) i))), some (.int go), some (.int a), some (.int g)] [] H1 := fun hp => by
      refine hGo_sound (okc_Mo_greatest K _ _) [52, 71] 90 _ _ _ _ _ ?_
      refine ⟨_, h.1, _, h.1, _, hg ▸ c_Mo_isMet h (k := k) (x := ess (vEm V) i) (by omega) hX, ?_⟩
      rintro _ H1 ⟨rfl, rfl⟩
      rw [b0]
      have ea : a ||| ((1 : Int32) <<< (g &&& 31)) = nI (setOf (eP (vEm V) (ess (vEm V) i)) (k + 1)) := by
        rw [hg, shl_1 k (by omega), ha, nI_or, setOf, hp]
        rfl
      have cont : ∀ (r : Int32) (H2 : hAH), r = (if vMet V k (ess (vEm V) i) then 3 else 2) → hUpd H1 (m + 9) (hInts K 0 12 (upd R k r)) H2 → ∀ H3, hUpd H2 (m + 10) (hInts K 0 12 (upd Ro k (ci 5))) H3 → hJ K M_Mo_greatest (0, 0) Q 71 (0, 0) [some (.ref m), some (.int (nI (ess (vEm V) i))), some (.int go), some (.int (a ||| ((1 : Int32) <<< (g &&& 31)))), some (.int (g + 1))] [] H3 := by
        intro r H2 hr u2 H3 u3
        have h2 := h.bk (j := 8) (by decide) u2
        have h3 := h2.bk (j := 9) (by decide) u3
        rw [hci] at h3
        have eB : upB (upB (upB (upB Bo 8 R) 9 Ro) 8 (upd R k r)) 9 (upd Ro k (nI (i + 1))) = upB (upB Bo 8 (upd R k r)) 9 (upd Ro k (nI (i + 1))) := by
          funext j
          unfold upB
          by_cases e9 : j = 9
          · rw [if_pos e9, if_pos e9]
          · rw [if_neg e9, if_neg e9]
            by_cases e8 : j = 8
            · rw [if_pos e8, if_pos e8, if_neg e9]
            · rw [if_neg e8, if_neg e8, if_neg e9, if_neg e8]
        rw [eB] at h3
        exact ih (k + 1) _ _ _ _ H3 (by omega) ea eg h3 (hM.yes hi (by rw [eb]; exact hp) hr) ((f.trans (u2.fr' (by omega) (by omega))).trans (u3.fr' (by omega) (by omega)))
      refine ⟨fun hz => ?_, fun hz => ?_⟩
      · have hz := b2i_0.mp hz
        refine ⟨12, _, k, h.rs, hg, by omega, by decide, fun H2 u2 => ?_⟩
        have h2 := h.bk (j := 8) (by decide) u2
        refine ⟨_, h2.1, _, h2.1, 12, _, k, h2.ro, hg, by omega, by decide, fun H3 u3 => ?_⟩
        exact cont 2 H2 (by rw [hz]; rfl) u2 H3 u3
      · have hz := b2i_n0.mp hz
        refine ⟨12, _, k, h.rs, hg, by omega, by decide, fun H2 u2 => ?_⟩
        have h2 := h.bk (j := 8) (by decide) u2
        refine ⟨_, h2.1, _, h2.1, 12, _, k, h2.ro, hg, by omega, by decide, fun H3 u3 => ?_⟩
        exact cont 3 H2 (by rw [hz]; rfl) u2 H3 u3
    refine hGo_sound (okc_Mo_greatest K _ _) [52, 71, 119] 90 _ _ _ _ _ ?_
    refine ⟨_, h.1, 1647, _, 0, Or.inl hv, rfl, by decide, by decide, fun q => absurd (by rw [hg, w.1.1] at q; exact q) (nI_ge hkn (by omega)), fun _ => ⟨_, hg ▸ c_Mo_has K H1 (ess (vEm V) i) (k := k) (by omega), ?_⟩⟩
    rintro _ H1 ⟨rfl, rfl⟩
    refine ⟨fun hb => ?_, fun hb => ?_⟩
    · have hb := b2i_0.mp hb
      exact no (by rw [eP', hb]; rfl)
    · have hb := b2i_n0.mp hb
      refine ⟨_, h.1, _, hg ▸ c_Mo_isMet h (k := k) (x := ess (vEm V) i) (by omega) hX, ?_⟩
      rintro _ H1 ⟨rfl, rfl⟩
      rw [b0]
      refine ⟨fun hz => ?_, fun hz => ?_⟩
      · have hz := b2i_0.mp hz
        exact J119 (by rw [eP', hb, hz]; rfl)
      · have hz := b2i_n0.mp hz
        refine ⟨_, c_Mo_ones K H1 hX, ?_⟩
        rintro _ H1 ⟨rfl, rfl⟩
        refine ⟨_, h.1, _, c_Mo_feeOf h (pop_pos (k := k) (by omega) hb), ?_⟩
        rintro _ H1 ⟨rfl, rfl⟩
        refine ⟨_, h.1, _, hg ▸ c_Mo_of h (k := k) (f := 0) (by omega), ?_⟩
        rintro _ H1 ⟨rfl, rfl⟩
        rw [b0]
        refine ⟨fun hz2 => ?_, fun hz2 => ?_⟩
        · have h5 : ¬ vG V k 0 < vFee V (nI (pop (ess (vEm V) i))) := Int32.not_lt.mpr hz2
          exact no (by rw [eP', hb, hz, decide_eq_false h5]; rfl)
        · have h5 : vG V k 0 < vFee V (nI (pop (ess (vEm V) i))) := Int32.not_le.mp hz2
          exact J119 (by rw [eP', hb, hz, decide_eq_true h5]; rfl)
set_option maxRecDepth 100000 in
set_option maxHeartbeats 4000000 in
theorem l_greatest (w : WF (B 0)) {H0 : hAH} : ∀ (d i : Nat) (ci R Ro : Nat → Int32) (l3 l4 : Option Value) (H1 : hAH), i + d = eL (vEm (B 0)) → ci 5 = nI i → upd ci 5 0 = upd c 5 0 → RMo K H1 m ci (upB (upB B 8 R) 9 Ro) → MIN (vEm (B 0)) R Ro i 0 → hFr m (m + 11) H0 H1 → hJ K M_Mo_greatest (0, 0) (grQ K H0 m c B) 52 (0, 0) [some (.ref m), some (.int (nI (ess (vEm (B 0)) i))), some (.int 1), l3, l4] [] H1 := by
  have hI : (vEm (B 0)).2.2.2.2.1 < 4096 := setOf_12 _
  obtain ⟨sp1, sp2, sp3⟩ := eL_spec (vEm (B 0))
  have round : ∀ (d i : Nat) (ci R Ro : Nat → Int32) (l3 l4 : Option Value) (H1 : hAH), i + d = eL (vEm (B 0)) → ci 5 = nI i → upd ci 5 0 = upd c 5 0 → RMo K H1 m ci (upB (upB B 8 R) 9 Ro) → MIN (vEm (B 0)) R Ro i 0 → hFr m (m + 11) H0 H1 →
      (∀ (R Ro : Nat → Int32) (l3 l4 : Option Value) (H2 : hAH), RMo K H2 m (upd ci 5 (nI (i + 1))) (upB (upB B 8 R) 9 Ro) → MIN (vEm (B 0)) R Ro i (vN (B 0)) → hFr m (m + 11) H0 H2 → hJ K M_Mo_greatest (0, 0) (grQ K H0 m c B) 52 (0, 0) [some (.ref m), some (.int (nI (ess (vEm (B 0)) (i + 1)))), some (.int (b2i (!decide (eaw (vEm (B 0)) (ess (vEm (B 0)) i) = 0)))), l3, l4] [] H2) →
      hJ K M_Mo_greatest (0, 0) (grQ K H0 m c B) 52 (0, 0) [some (.ref m), some (.int (nI (ess (vEm (B 0)) i))), some (.int 1), l3, l4] [] H1 := by
    intro d i ci R Ro l3 l4 H1 hi hc hcc h hM f hend
    refine hGo_sound (okc_Mo_greatest K _ _) [52, 71] 90 _ _ _ _ _ ?_
    refine ⟨fun q => absurd q (by decide), fun _ => ⟨_, h.1, _, h.1, trivial, fun H2 u2 => ?_⟩⟩
    have h2 : RMo K H2 m (upd ci 5 (nI (i + 1))) (upB (upB B 8 R) 9 Ro) := h.sc u2 (by
      show moCell m (upd ci 5 (ci 5 + 1)) = _
      rw [hc, nI_1])
    exact l_grIn w (i := i) (by omega) rfl (ci := upd ci 5 (nI (i + 1))) upd_s (fun R Ro l4 H3 h3 hM3 f3 => hend R Ro _ l4 H3 h3 hM3 f3) (vN (B 0)) 0 _ _ R Ro H2 (Nat.zero_add _) rfl rfl h2 hM (f.trans (u2.fr' (by omega) (by omega)))
  intro d
  induction d with
  | zero =>
    intro i ci R Ro l3 l4 H1 hi hc hcc h hM f
    have ei : i = eL (vEm (B 0)) := by omega
    refine round 0 i ci R Ro l3 l4 H1 hi hc hcc h hM f fun R Ro l3 l4 H2 h2 hM2 f2 => ?_
    have hz : eaw (vEm (B 0)) (ess (vEm (B 0)) i) = 0 := by rw [ei]; exact sp2
    rw [decide_eq_true hz]
    refine hGo_sound (okc_Mo_greatest K _ _) [52] 90 _ _ _ _ _ ?_
    refine ⟨fun _ => ⟨trivial, ?_, ⟨R, Ro, ?_, hM2.done hI (by omega) (by omega)⟩, f2⟩, fun q => absurd rfl q⟩
    · rw [(epa_late hI (show eL (vEm (B 0)) ≤ i + 1 by omega)).1]
      rfl
    · have ec : upd c 5 (nI (eL (vEm (B 0)) + 1)) = upd ci 5 (nI (i + 1)) := by
        funext j
        by_cases e : j = 5
        · rw [e, upd_s, upd_s, ei]
        · rw [upd_n e, upd_n e]
          have := congrFun hcc j
          rw [upd_n e, upd_n e] at this
          exact this.symm
      rw [ec]
      exact h2
  | succ d ih =>
    intro i ci R Ro l3 l4 H1 hi hc hcc h hM f
    refine round (d + 1) i ci R Ro l3 l4 H1 hi hc hcc h hM f fun R Ro l3 l4 H2 h2 hM2 f2 => ?_
    rw [decide_eq_false (sp3 i (by omega))]
    refine ih (i + 1) _ R Ro l3 l4 H2 (by omega) upd_s ?_ h2 (hM2.next (Nat.le_refl _)) f2
    rw [← hcc]
    funext j
    by_cases e : j = 5
    · rw [e, upd_s, upd_s]
    · rw [upd_n e, upd_n e, upd_n e]
set_option maxRecDepth 100000 in
set_option maxHeartbeats 4000000 in
/-- the first loop: nobody has stayed away yet -/
theorem l_grBeg (w : WF (B 0)) {H0 : hAH} : ∀ (d k : Nat) (g : Int32) (R Ro : Nat → Int32) (l3 l4 : Option Value) (H1 : hAH), k + d = 12 → g = nI k → RMo K H1 m c (upB (upB B 8 R) 9 Ro) → (∀ j, j < k → R j = (if (vInv (B 0)).testBit j then 0 else 1) ∧ Ro j = 0) → hFr m (m + 11) H0 H1 → hJ K M_Mo_greatest (0, 0) (grQ K H0 m c B) 7 (0, 0) [some (.ref m), some (.int (nI (vInv (B 0)))), some (.int g), l3, l4] [] H1 := by
  intro d
  induction d with
  | zero =>
    intro k g R Ro l3 l4 H1 hk hg h hR f
    obtain rfl : k = 12 := by omega
    refine hGo_sound (okc_Mo_greatest K _ _) [7, 52] 90 _ _ _ _ _ ?_
    refine ⟨fun _ => ⟨_, h.1, trivial, fun H2 u2 => ?_⟩, fun q => absurd (by rw [hg]; exact nI_le (a := 12) (by omega) (by omega)) q⟩
    have h2 : RMo K H2 m (upd c 5 0) (upB (upB B 8 R) 9 Ro) := h.sc u2 rfl
    refine l_greatest w (eL (vEm (B 0))) 0 _ R Ro l3 l4 H2 (Nat.zero_add _) upd_s ?_ h2 (fun k hk => ⟨fun he => ⟨fun q => absurd q.1 (Nat.not_lt_zero _), fun _ => ?_⟩, fun hn he => ?_⟩) (f.trans (u2.fr' (by omega) (by omega)))
    · funext j
      by_cases e : j = 5
      · rw [e, upd_s, upd_s]
      · rw [upd_n e, upd_n e, upd_n e]
    · have he' : (vInv (B 0)).testBit k = true := he
      obtain ⟨a, b⟩ := hR k hk
      rw [he', if_pos rfl] at a
      exact ⟨a, b⟩
    · have he' : (vInv (B 0)).testBit k = false := he
      obtain ⟨a, b⟩ := hR k hk
      rw [he', if_neg (by decide)] at a
      have hp : (epa (vEm (B 0)) 0).testBit k = true := by
        rw [epa_bit0]
        have hn' : k < vN (B 0) := hn
        show (decide (k < 12) && (decide (k < vN (B 0)) && !(vInv (B 0)).testBit k)) = true
        rw [he', decide_eq_true hk, decide_eq_true hn']; rfl
      have ht : ett (vEm (B 0)) k = 0 := ett_of (by decide) hp
      have herr : err (vEm (B 0)) k = 1 := by rw [err, if_neg (by omega), if_pos ht]
      rw [a, b, herr, ht]
      exact ⟨rfl, rfl⟩
  | succ d ih =>
    intro k g R Ro l3 l4 H1 hk hg h hR f
    refine hGo_sound (okc_Mo_greatest K _ _) [7, 52] 90 _ _ _ _ _ ?_
    refine ⟨fun q => absurd (by rw [hg] at q; exact q) (nI_ge (b := 12) (by omega) (by omega)), fun _ => ⟨_, h.1, _, hg ▸ c_Mo_has K H1 (vInv (B 0)) (k := k) (by omega), ?_⟩⟩
    rintro _ H1 ⟨rfl, rfl⟩
    have cont : ∀ (r : Int32) (H2 : hAH), r = (if (vInv (B 0)).testBit k then 0 else 1) → hUpd H1 (m + 9) (hInts K 0 12 (upd R k r)) H2 → ∀ H3, hUpd H2 (m + 10) (hInts K 0 12 (upd Ro k 0)) H3 → hJ K M_Mo_greatest (0, 0) (grQ K H0 m c B) 7 (0, 0) [some (.ref m), some (.int (nI (vInv (B 0)))), some (.int (g + 1)), l3, l4] [] H3 := by
      intro r H2 hr u2 H3 u3
      have h3 := (h.bk (j := 8) (by decide) u2).bk (j := 9) (by decide) u3
      have eB : upB (upB (upB (upB B 8 R) 9 Ro) 8 (upd R k r)) 9 (upd Ro k 0) = upB (upB B 8 (upd R k r)) 9 (upd Ro k 0) := by
        funext j
        unfold upB
        by_cases e9 : j = 9
        · rw [if_pos e9, if_pos e9]
        · rw [if_neg e9, if_neg e9]
          by_cases e8 : j = 8
          · rw [if_pos e8, if_pos e8, if_neg e9]
          · rw [if_neg e8, if_neg e8, if_neg e9, if_neg e8]
      rw [eB] at h3
      refine ih (k + 1) _ _ _ l3 l4 H3 (by omega) (by rw [hg, nI_1]) h3 (fun j hj => ?_) ((f.trans (u2.fr' (by omega) (by omega))).trans (u3.fr' (by omega) (by omega)))
      by_cases e : j = k
      · rw [e, upd_s, upd_s]; exact ⟨hr, rfl⟩
      · rw [upd_n e, upd_n e]; exact hR j (by omega)
    refine ⟨fun hz => ?_, fun hz => ?_⟩
    · have hz := b2i_0.mp hz
      refine ⟨12, _, k, h.rs, hg, by omega, by decide, fun H2 u2 => ?_⟩
      have h2 := h.bk (j := 8) (by decide) u2
      refine ⟨_, h2.1, 12, _, k, h2.ro, hg, by omega, by decide, fun H3 u3 => ?_⟩
      exact cont 1 H2 (by rw [hz]; rfl) u2 H3 u3
    · have hz := b2i_n0.mp hz
      refine ⟨12, _, k, h.rs, hg, by omega, by decide, fun H2 u2 => ?_⟩
      have h2 := h.bk (j := 8) (by decide) u2
      refine ⟨_, h2.1, 12, _, k, h2.ro, hg, by omega, by decide, fun H3 u3 => ?_⟩
      exact cont 0 H2 (by rw [hz]; rfl) u2 H3 u3
set_option maxRecDepth 100000 in
set_option maxHeartbeats 4000000 in
theorem c_Mo_greatest (h : RMo K H m c B) (w : WF (B 0)) : hCT K M_Mo_greatest [.ref m] H 0 0 (grQ K H m c B) := by
  refine hCT.go (okc_Mo_greatest K _ _) [7] 60 (by decide +kernel) rfl rfl ?_
  refine ⟨_, h.1, _, c_Mo_invited h w, ?_⟩
  rintro _ H ⟨rfl, rfl⟩
  have eB : upB (upB B 8 (B 8)) 9 (B 9) = B := by
    funext j
    unfold upB
    by_cases e9 : j = 9
    · rw [if_pos e9, e9]
    · rw [if_neg e9]
      by_cases e8 : j = 8
      · rw [if_pos e8, e8]
      · rw [if_neg e8]
  exact l_grBeg w 12 0 _ (B 8) (B 9) none none H (by decide) rfl (by rw [eB]; exact h) (fun j hj => absurd hj (Nat.not_lt_zero j)) hFr.rfl
end MO3
