/-! THE REFERENCE: companies, needs, seats, counts -/
theorem sm_t {p : Nat → Bool} {n : Nat} (h : p (n + 1) = true) : smO p (n + 1) = if (match smO p n with
    | none => true
    | some b => decide (pop (n + 1) < pop b)) then some (n + 1) else smO p n := by
  show (if p (n + 1) && _ then some (n + 1) else smO p n) = _
  rw [h, Bool.true_and]
  rfl
theorem sm_f {p : Nat → Bool} {n : Nat} (h : p (n + 1) = false) : smO p (n + 1) = smO p n := by
  show (if p (n + 1) && _ then some (n + 1) else smO p n) = _
  rw [h, Bool.false_and]
  rfl
theorem sm_lt {p : Nat → Bool} {n a : Nat} (h : p (n + 1) = true) (e : smO p n = some a) (hl : pop (n + 1) < pop a) : smO p (n + 1) = some (n + 1) := by
  rw [sm_t h, e]
  exact if_pos (decide_eq_true hl)
theorem sm_ge {p : Nat → Bool} {n a : Nat} (e : smO p n = some a) (hl : ¬ pop (n + 1) < pop a) : smO p (n + 1) = some a := by
  cases h : p (n + 1)
  · rw [sm_f h, e]
  · rw [sm_t h, e]
    exact if_neg (show ¬ decide (pop (n + 1) < pop a) = true from fun q => hl (of_decide_eq_true q))
theorem sm_none {p : Nat → Bool} {n : Nat} (h : p (n + 1) = true) (e : smO p n = none) : smO p (n + 1) = some (n + 1) := by
  rw [sm_t h, e]
  exact if_pos rfl
theorem sm_le {p : Nat → Bool} : ∀ (n a : Nat), smO p n = some a → a ≤ n
  | 0, a, h => by simp [smO] at h
  | n + 1, a, h => by
    cases hp : p (n + 1)
    · rw [sm_f hp] at h
      have := sm_le n a h
      omega
    · cases hs : smO p n with
      | none =>
        rw [sm_none hp hs] at h
        cases h; exact Nat.le_refl _
      | some c =>
        by_cases hl : pop (n + 1) < pop c
        · rw [sm_lt hp hs hl] at h
          cases h; exact Nat.le_refl _
        · rw [sm_ge hs hl] at h
          cases h
          have := sm_le n _ hs
          omega
section MC
variable {K : hK} {H : hAH} {m : Nat} {c : Nat → Int32} {B : Nat → Nat → Int32} {Y : hY}
set_option maxRecDepth 100000 in
set_option maxHeartbeats 4000000 in
theorem l_Mo_smallest (h : RMo K H m c B) (w : WF (B 0)) : ∀ (d i : Nat) (a g : Int32), i + d = 2 ^ vN (B 0) - 1 → a = oI (smO (vStb (B 0)) i) → g = nI (i + 1) → hJ K M_Mo_smallest (0, 0) (fun r H' => r = some (.int (oI (smO (vStb (B 0)) (2 ^ vN (B 0) - 1)))) ∧ H' = H) 5 (0, 0) [some (.ref m), some (.int a), some (.int g)] [] H := by
  have h12 := two12 w.1.2
  have h2p := Nat.two_pow_pos (vN (B 0))
  intro d
  induction d with
  | zero =>
    intro i a g hi ha hg
    refine hGo_sound (okc_Mo_smallest K _ _) [5] 60 _ _ _ _ _ ?_
    refine ⟨_, h.1, _, c_Mo_all h w.1.1 w.1.2, ?_⟩
    rintro _ H ⟨rfl, rfl⟩
    refine ⟨fun _ => ⟨trivial, by rw [ha, show i = 2 ^ vN (B 0) - 1 by omega], rfl⟩, fun q => absurd (by rw [hg]; exact nI_lt (by omega) (by omega)) q⟩
  | succ d ih =>
    intro i a g hi ha hg
    have J28 : (∀ b, smO (vStb (B 0)) i = some b → pop (i + 1) < pop b) → hJ K M_Mo_smallest (0, 0) (fun r H' => r = some (.int (oI (smO (vStb (B 0)) (2 ^ vN (B 0) - 1)))) ∧ H' = H) 28 (0, 0) [some (.ref m), some (.int a), some (.int g)] [] H := by
      intro hno
      refine hGo_sound (okc_Mo_smallest K _ _) [5] 60 _ _ _ _ _ ?_
      refine ⟨_, h.1, _, hg ▸ c_Mo_isStable h w (x := i + 1) (by omega), ?_⟩
      rintro _ H ⟨rfl, rfl⟩
      refine ⟨fun hz => ?_, fun hz => ?_⟩
      · exact ih (i + 1) _ _ (by omega) (by rw [ha, sm_f (b2i_0.mp hz)]) (by rw [hg, nI_1])
      · refine ih (i + 1) _ _ (by omega) ?_ (by rw [hg, nI_1])
        rw [hg]
        cases hs : smO (vStb (B 0)) i with
        | none => rw [sm_none (b2i_n0.mp hz) hs]; rfl
        | some b => rw [sm_lt (b2i_n0.mp hz) hs (hno b hs)]; rfl
    refine hGo_sound (okc_Mo_smallest K _ _) [5, 28] 60 _ _ _ _ _ ?_
    refine ⟨_, h.1, _, c_Mo_all h w.1.1 w.1.2, ?_⟩
    rintro _ H ⟨rfl, rfl⟩
    refine ⟨fun q => absurd (by rw [hg] at q; exact q) (nI_nlt (by omega) (by omega)), fun _ => ⟨fun hneg => ?_, fun hpos => ?_⟩⟩
    · refine J28 fun b hb => ?_
      have := sm_le _ _ hb
      rw [ha, hb] at hneg
      exact absurd hneg (nI_pos (n := b) (by omega))
    · cases hs : smO (vStb (B 0)) i with
      | none => rw [ha, hs] at hpos; exact absurd (by decide) hpos
      | some b =>
        have hbl := sm_le _ _ hs
        have ea : a = nI b := by rw [ha, hs]; rfl
        have p1 := pop_le (i + 1)
        have p2 := pop_le b
        refine ⟨_, hg ▸ c_Mo_ones K H (x := i + 1) (by omega), ?_⟩
        rintro _ H ⟨rfl, rfl⟩
        refine ⟨_, ea ▸ c_Mo_ones K H (x := b) (by omega), ?_⟩
        rintro _ H ⟨rfl, rfl⟩
        refine ⟨fun hge => ?_, fun hlt => ?_⟩
        · have hl : ¬ pop (i + 1) < pop b := fun q => Int32.not_le.mpr (nI_lt q (by omega)) hge
          exact ih (i + 1) _ _ (by omega) (by rw [sm_ge hs hl, ea]; rfl) (by rw [hg, nI_1])
        · refine J28 fun b' hb' => ?_
          rw [hs] at hb'
          cases hb'
          exact Nat.lt_of_not_le fun q => hlt (nI_le q (by omega))
set_option maxRecDepth 100000 in
set_option maxHeartbeats 4000000 in
theorem c_Mo_smallest (h : RMo K H m c B) (w : WF (B 0)) : hCT K M_Mo_smallest [.ref m] H 0 0 (fun r H' => r = some (.int (oI (smO (vStb (B 0)) (2 ^ vN (B 0) - 1)))) ∧ H' = H) := by
  refine hCT.go (okc_Mo_smallest K _ _) [5] 60 (by decide +kernel) rfl rfl ?_
  exact l_Mo_smallest h w (2 ^ vN (B 0) - 1) 0 (-5) _ (Nat.zero_add _) rfl rfl
theorem vBp_eq {V : Nat → Int32} {x z : Nat} : vBp V x z = (decide (nI (pop x) ≤ V 4) && (decide (pop z < pop x) || (decide (pop z = pop x) && decide (vWs V z < vWs V x))) && vStb V x) := rfl
set_option maxRecDepth 100000 in
set_option maxHeartbeats 4000000 in
theorem l_Mo_chosen {Q : hPost} (h : RMo K H m c B) (w : WF (B 0)) (hQ : Q (some (.int (nI (bpRun (vBp (B 0)) (2 ^ vN (B 0) - 1))))) H) : ∀ (d i : Nat) (a g : Int32) (l3 : Option Value), i + d = 2 ^ vN (B 0) - 1 → a = nI (bpRun (vBp (B 0)) i) → g = nI (i + 1) → hJ K M_Mo_chosen (0, 0) Q 24 (0, 0) [some (.ref m), some (.int a), some (.int g), l3] [] H := by
  have h12 := two12 w.1.2
  have h2p := Nat.two_pow_pos (vN (B 0))
  intro d
  induction d with
  | zero =>
    intro i a g l3 hi ha hg
    refine hGo_sound (okc_Mo_chosen K _ _) [24] 60 _ _ _ _ _ ?_
    refine ⟨_, h.1, _, c_Mo_all h w.1.1 w.1.2, ?_⟩
    rintro _ H ⟨rfl, rfl⟩
    refine ⟨fun _ => ⟨trivial, ?_⟩, fun q => absurd (by rw [hg]; exact nI_lt (by omega) (by omega)) q⟩
    rw [ha, show i = 2 ^ vN (B 0) - 1 by omega]
    exact hQ
  | succ d ih =>
    intro i a g l3 hi ha hg
    have hble := bpRun_le (vBp (B 0)) i
    have p1 := pop_le (i + 1)
    have p2 := pop_le (bpRun (vBp (B 0)) i)
    have no : vBp (B 0) (i + 1) (bpRun (vBp (B 0)) i) = false → ∀ l3, hJ K M_Mo_chosen (0, 0) Q 24 (0, 0) [some (.ref m), some (.int a), some (.int (g + 1)), l3] [] H := fun hq l3 => by
      refine ih (i + 1) _ _ l3 (by omega) ?_ (by rw [hg, nI_1])
      rw [ha, bpRun, hq]
      rfl
    have J76 : (decide (nI (pop (i + 1)) ≤ B 0 4) && (decide (pop (bpRun (vBp (B 0)) i) < pop (i + 1)) || (decide (pop (bpRun (vBp (B 0)) i) = pop (i + 1)) && decide (vWs (B 0) (bpRun (vBp (B 0)) i) < vWs (B 0) (i + 1))))) = true → ∀ l3, hJ K M_Mo_chosen (0, 0) Q 76 (0, 0) [some (.ref m), some (.int a), some (.int g), l3] [] H := fun hq l3 => by
      refine hGo_sound (okc_Mo_chosen K _ _) [24] 60 _ _ _ _ _ ?_
      refine ⟨_, h.1, _, hg ▸ c_Mo_isStable h w (x := i + 1) (by omega), ?_⟩
      rintro _ H ⟨rfl, rfl⟩
      refine ⟨fun hz => ?_, fun hz => ?_⟩
      · exact no (by rw [vBp_eq, b2i_0.mp hz, Bool.and_false]) l3
      · refine ih (i + 1) _ _ l3 (by omega) ?_ (by rw [hg, nI_1])
        have ht : vBp (B 0) (i + 1) (bpRun (vBp (B 0)) i) = true := by rw [vBp_eq, hq, b2i_n0.mp hz]; rfl
        rw [hg, bpRun, ht]
        rfl
    refine hGo_sound (okc_Mo_chosen K _ _) [24, 76] 60 _ _ _ _ _ ?_
    refine ⟨_, h.1, _, c_Mo_all h w.1.1 w.1.2, ?_⟩
    rintro _ H ⟨rfl, rfl⟩
    refine ⟨fun q => absurd (by rw [hg] at q; exact q) (nI_nlt (by omega) (by omega)), fun _ => ⟨_, hg ▸ c_Mo_ones K H (x := i + 1) (by omega), ?_⟩⟩
    rintro _ H ⟨rfl, rfl⟩
    refine ⟨_, h.1, 1647, _, 4, Or.inl h.v, rfl, by decide, by decide, fun hgt => ?_, fun hle => ⟨_, ha ▸ c_Mo_ones K H (x := bpRun (vBp (B 0)) i) (by omega), ?_⟩⟩
    · exact no (by rw [vBp_eq, decide_eq_false (Int32.not_le.mpr hgt)]; rfl) _
    · rintro _ H ⟨rfl, rfl⟩
      have hle := Int32.not_lt.mp hle
      refine ⟨fun hgt => ?_, fun hngt => ⟨_, ha ▸ c_Mo_ones K H (x := bpRun (vBp (B 0)) i) (by omega), ?_⟩⟩
      · have hl : pop (bpRun (vBp (B 0)) i) < pop (i + 1) := Nat.lt_of_not_le fun q => nI_nlt q (by omega) hgt
        exact J76 (by rw [decide_eq_true hle, decide_eq_true hl]; rfl) _
      · have hl : ¬ pop (bpRun (vBp (B 0)) i) < pop (i + 1) := fun q => hngt (nI_lt q (by omega))
        rintro _ H ⟨rfl, rfl⟩
        refine ⟨fun hne => ?_, fun heq => ?_⟩
        · have hq : ¬ pop (bpRun (vBp (B 0)) i) = pop (i + 1) := fun q => hne (by rw [q])
          exact no (by rw [vBp_eq, decide_eq_false hl, decide_eq_false hq]; simp) _
        · have hq : pop (bpRun (vBp (B 0)) i) = pop (i + 1) := (nI_inj (by omega) (by omega) heq).symm
          refine ⟨_, h.1, _, hg ▸ c_Mo_weights h w (i + 1), ?_⟩
          rintro _ H ⟨rfl, rfl⟩
          refine ⟨_, h.1, _, ha ▸ c_Mo_weights h w (bpRun (vBp (B 0)) i), ?_⟩
          rintro _ H ⟨rfl, rfl⟩
          refine ⟨fun hw => ?_, fun hw => ?_⟩
          · exact no (by rw [vBp_eq, decide_eq_false hl, decide_eq_false (Int32.not_lt.mpr hw)]; simp) _
          · exact J76 (by rw [decide_eq_true hle, decide_eq_true hq, decide_eq_true (Int32.not_le.mp hw)]; simp) _
def chQ (K : hK) (H : hAH) (m : Nat) (c : Nat → Int32) (B : Nat → Nat → Int32) : hPost := fun r H' => r = some (.int (nI (vCh (B 0)))) ∧ (∃ R Ro v, RMo K H' m (upd c 5 v) (upB (upB B 8 R) 9 Ro)) ∧ hFr m (m + 11) H H'
set_option maxRecDepth 100000 in
set_option maxHeartbeats 4000000 in
theorem c_Mo_chosen (h : RMo K H m c B) (w : WF (B 0)) : hCT K M_Mo_chosen [.ref m] H 0 0 (chQ K H m c B) := by
  refine hCT.go (okc_Mo_chosen K _ _) [24] 60 (by decide +kernel) rfl rfl ?_
  refine ⟨_, h.1, _, c_Mo_greatest h w, ?_⟩
  rintro _ H1 ⟨rfl, ⟨R, Ro, h', -⟩, f⟩
  refine ⟨_, c_Mo_ones K H1 (gr_lt _), ?_⟩
  rintro _ H1 ⟨rfl, rfl⟩
  refine ⟨_, h'.1, 1647, _, 4, Or.inl h'.v, rfl, by decide, by decide, fun hgt => ?_, fun hle => ?_⟩
  · refine l_Mo_chosen h' w ⟨?_, ⟨R, Ro, _, h'⟩, f⟩ (2 ^ vN (B 0) - 1) 0 _ _ none (Nat.zero_add _) rfl rfl
    have e : vCh (B 0) = bpRun (vBp (B 0)) (2 ^ vN (B 0) - 1) := if_neg (Int32.not_le.mpr hgt)
    rw [e]
    rfl
  · refine ⟨trivial, ?_, ⟨R, Ro, _, h'⟩, f⟩
    have e : vCh (B 0) = vGr (B 0) := if_pos (Int32.not_lt.mp hle)
    rw [e]
set_option maxRecDepth 100000 in
set_option maxHeartbeats 4000000 in
theorem c_Mo_company (h : RMo K H m c B) (hp : MPr c B Y) (hY : YOk Y) (x : Int32) : hCT K M_Mo_company [.ref m, .int x] H 0 0 (mPost K m H (sp_company Y x, Y)) := by
  have wf := hY.1
  have hV : B 0 = Y.1 := hp.1
  refine hCT.go (okc_Mo_company K _ _) [] 60 (by decide +kernel) rfl rfl ?_
  refine ⟨fun x0 => ?_, fun x0 => ⟨fun x1 => ?_, fun x1 => ⟨fun x2 => ?_, fun x2 => ⟨fun x3 => ?_, fun x3 => ?_⟩⟩⟩⟩
  · refine ⟨_, h.1, _, c_Mo_greatest h (hV ▸ wf), ?_⟩
    rintro _ H1 ⟨rfl, ⟨R, Ro, h', -⟩, f⟩
    exact ⟨trivial, mQ2 h' hp.gr f (by rw [sp_company, if_pos x0, hV])⟩
  · refine ⟨_, h.1, _, c_Mo_chosen h (hV ▸ wf), ?_⟩
    rintro _ H1 ⟨rfl, ⟨R, Ro, v, h'⟩, f⟩
    exact ⟨trivial, mQ2 h' hp.gr f (by rw [sp_company, if_neg x0, if_pos x1, hV])⟩
  · refine ⟨_, h.1, _, c_Mo_smallest h (hV ▸ wf), ?_⟩
    rintro _ H1 ⟨rfl, rfl⟩
    exact ⟨trivial, mQ h hp (by rw [sp_company, if_neg x0, if_neg x1, if_pos x2, hV])⟩
  · refine ⟨_, h.1, _, c_Mo_isFixed h, ?_⟩
    rintro _ H1 ⟨rfl, rfl⟩
    refine ⟨fun hz => ?_, fun hz => ?_⟩
    · have hz := of_decide_eq_false (b2i_0.mp hz)
      rw [hV] at hz
      exact ⟨trivial, mQ h hp (by rw [sp_company, if_neg x0, if_neg x1, if_neg x2, if_pos x3, if_neg hz])⟩
    · have hz := of_decide_eq_true (b2i_n0.mp hz)
      rw [hV] at hz
      exact ⟨_, h.1, 1647, _, 8, Or.inl h.v, rfl, by decide, by decide, trivial, mQ h hp (by rw [sp_company, if_neg x0, if_neg x1, if_neg x2, if_pos x3, if_pos hz, hV])⟩
  · exact ⟨trivial, mQ h hp (by rw [sp_company, if_neg x0, if_neg x1, if_neg x2, if_neg x3])⟩
set_option maxRecDepth 100000 in
set_option maxHeartbeats 4000000 in
theorem l_Mo_needs (h : RMo K H m c B) (w : WF (B 0)) {k : Nat} (hk : k < vN (B 0)) : ∀ (d i : Nat) (a g : Int32), i + d = 2 ^ vN (B 0) → a = oI (ndO (vMet (B 0) k) i) → g = nI i → hJ K M_Mo_needs (0, 0) (fun r H' => r = some (.int (oI (ndO (vMet (B 0) k) (2 ^ vN (B 0))))) ∧ H' = H) 15 (0, 0) [some (.ref m), some (.int (nI k)), some (.int a), some (.int g)] [] H := by
  have h12 := two12 w.1.2
  have hn := w.1.2
  have h2p := Nat.two_pow_pos (vN (B 0))
  intro d
  induction d with
  | zero =>
    intro i a g hi ha hg
    refine hGo_sound (okc_Mo_needs K _ _) [15] 60 _ _ _ _ _ ?_
    refine ⟨_, h.1, _, c_Mo_all h w.1.1 w.1.2, ?_⟩
    rintro _ H ⟨rfl, rfl⟩
    refine ⟨fun _ => ⟨trivial, by rw [ha, show i = 2 ^ vN (B 0) by omega], rfl⟩, fun q => absurd (by rw [hg]; exact nI_lt (by omega) (by omega)) q⟩
  | succ d ih =>
    intro i a g hi ha hg
    have hpi := pop_le i
    refine hGo_sound (okc_Mo_needs K _ _) [15] 60 _ _ _ _ _ ?_
    refine ⟨_, h.1, _, c_Mo_all h w.1.1 w.1.2, ?_⟩
    rintro _ H ⟨rfl, rfl⟩
    refine ⟨fun q => absurd (by rw [hg] at q; exact q) (nI_nlt (by omega) (by omega)), fun _ => ⟨_, h.1, _, hg ▸ c_Mo_isMet h (k := k) (x := i) (by omega) (by omega), ?_⟩⟩
    rintro _ H ⟨rfl, rfl⟩
    refine ⟨fun hz => ?_, fun hz => ⟨fun hneg => ?_, fun hpos => ?_⟩⟩
    · exact ih (i + 1) _ _ (by omega) (by rw [ha, nd_f (b2i_0.mp hz)]) (by rw [hg, nI_1])
    · cases hs : ndO (vMet (B 0) k) i with
      | some b =>
        have := ndO_le _ _ hs
        rw [ha, hs] at hneg
        exact absurd hneg (nI_pos (n := b) (by omega))
      | none =>
        refine ⟨_, hg ▸ c_Mo_ones K H (x := i) (by omega), ?_⟩
        rintro _ H ⟨rfl, rfl⟩
        exact ih (i + 1) _ _ (by omega) (by rw [nd_none (b2i_n0.mp hz) hs]; rfl) (by rw [hg, nI_1])
    · cases hs : ndO (vMet (B 0) k) i with
      | none => rw [ha, hs] at hpos; exact absurd (by decide) hpos
      | some b =>
        have hb := ndO_le _ _ hs
        have ea : a = nI b := by rw [ha, hs]; rfl
        refine ⟨_, hg ▸ c_Mo_ones K H (x := i) (by omega), ?_⟩
        rintro _ H ⟨rfl, rfl⟩
        refine ⟨fun hge => ?_, fun hlt => ?_⟩
        · rw [ea] at hge
          have hl : ¬ pop i < b := fun q => Int32.not_le.mpr (nI_lt q (by omega)) hge
          exact ih (i + 1) _ _ (by omega) (by rw [nd_ge hs hl, ea]; rfl) (by rw [hg, nI_1])
        · rw [ea] at hlt
          have hl : pop i < b := Nat.lt_of_not_le fun q => hlt (nI_le q (by omega))
          refine ⟨_, hg ▸ c_Mo_ones K H (x := i) (by omega), ?_⟩
          rintro _ H ⟨rfl, rfl⟩
          exact ih (i + 1) _ _ (by omega) (by rw [nd_lt (b2i_n0.mp hz) hs hl]; rfl) (by rw [hg, nI_1])
set_option maxRecDepth 100000 in
set_option maxHeartbeats 4000000 in
theorem c_Mo_needs (h : RMo K H m c B) (hp : MPr c B Y) (hY : YOk Y) (g : Int32) : hCT K M_Mo_needs [.ref m, .int g] H 0 0 (mPost K m H (sp_needs Y g, Y)) := by
  have wf := hY.1
  have hV : B 0 = Y.1 := hp.1
  have hn := wf.1.2
  refine hCT.go (okc_Mo_needs K _ _) [15] 60 (by decide +kernel) rfl rfl ?_
  refine ⟨_, h.1, _, c_Mo_isGuest h g, ?_⟩
  rintro _ H ⟨rfl, rfl⟩
  rw [hV]
  refine ⟨fun hq => ?_, fun hq => ?_⟩
  · have hg := of_decide_eq_true (b2i_n0.mp hq)
    obtain ⟨k, hk, rfl⟩ := (gOk_iff wf).mp hg
    refine (l_Mo_needs h (hV ▸ wf) (k := k) (by rw [hV]; exact hk) (2 ^ vN (B 0)) 0 (-5) _ (Nat.zero_add _) rfl rfl).imp ?_
    rintro _ H1 ⟨rfl, rfl⟩
    exact mQ h hp (by rw [sp_needs, if_neg (fun q => q hg), clp_nI (by omega), hV])
  · have hg := of_decide_eq_false (b2i_0.mp hq)
    exact ⟨trivial, mQ h hp (by rw [sp_needs, if_pos hg])⟩
end MC
