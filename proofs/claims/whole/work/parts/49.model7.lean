/-! THE REFERENCE: why a guest stays away -/
theorem err_cases (E : gE) (k : Nat) : err E k = 0 ∨ err E k = 1 ∨ err E k = 2 ∨ err E k = 3 := by
  unfold err
  split
  · exact Or.inl rfl
  · split
    · exact Or.inr (Or.inl rfl)
    · split
      · exact Or.inr (Or.inr (Or.inr rfl))
      · exact Or.inr (Or.inr (Or.inl rfl))
theorem err_tt {E : gE} {k : Nat} (h : err E k ≠ 0) : ett E k < 14 := Nat.lt_of_not_le fun q => h (if_pos q)
theorem err_tt0 {E : gE} {k : Nat} (h : (1 : Int32) < err E k) : 0 < ett E k := Nat.pos_of_ne_zero fun q => by
  have : err E k = 1 := by rw [err, if_neg (by omega), if_pos q]
  rw [this] at h
  exact absurd h (by decide)
def bkP (E : gE) (k j : Nat) : Bool := decide ((1 : Int32) < err E k) && ((epa E (ett E k - 1)).testBit j && (decide (err E k = 3) || (E.2.2.2.2.2 k).testBit j))
theorem lowest_none {p : Nat → Bool} : ∀ (m i : Nat), (∀ j, p j = false) → lowest p m i = -5
  | 0, _, _ => rfl
  | m + 1, i, h => by rw [lowest, h i, lowest_none m (i + 1) h]; rfl
theorem lowest_eq {p q : Nat → Bool} : ∀ (m i : Nat), (∀ j, p j = q j) → lowest p m i = lowest q m i
  | 0, _, _ => rfl
  | m + 1, i, h => by rw [lowest, lowest, h i, lowest_eq m (i + 1) h]
theorem ebb_P (E : gE) (k : Nat) : ebb E k = lowest (bkP E k) 12 0 := by
  unfold ebb
  rcases err_cases E k with e | e | e | e
  · rw [e, if_neg (by decide), if_neg (by decide), lowest_none]
    intro j; unfold bkP; rw [e]; rfl
  · rw [e, if_neg (by decide), if_neg (by decide), lowest_none]
    intro j; unfold bkP; rw [e]; rfl
  · rw [e, if_pos rfl]
    refine lowest_eq 12 0 fun j => ?_
    unfold bkP; rw [e, decide_eq_true (show (1 : Int32) < 2 by decide), decide_eq_false (show ¬ (2 : Int32) = 3 by decide)]
    rfl
  · rw [e, if_neg (by decide), if_pos rfl]
    refine lowest_eq 12 0 fun j => ?_
    unfold bkP; rw [e, decide_eq_true (show (1 : Int32) < 3 by decide), decide_eq_true (show (3 : Int32) = 3 by decide), Bool.true_or, Bool.and_true]
    rfl
theorem lowest_ext {p : Nat → Bool} : ∀ (m i d : Nat), (∀ j, i + m ≤ j → j < i + m + d → p j = false) → lowest p (m + d) i = lowest p m i
  | 0, i, 0, _ => rfl
  | 0, i, d + 1, h => by
    have e : lowest p (d + 1) i = if p i then nI i else lowest p d (i + 1) := rfl
    rw [show 0 + (d + 1) = d + 1 by omega, e, h i (by omega) (by omega)]
    have := lowest_ext 0 (i + 1) d (fun j h1 h2 => h j (by omega) (by omega))
    rw [Nat.zero_add] at this
    exact this
  | m + 1, i, d, h => by
    rw [show m + 1 + d = (m + d) + 1 by omega, lowest, lowest, lowest_ext m (i + 1) d (fun j h1 h2 => h j (by omega) (by omega))]
/-- who stayed away the round before -/
theorem bef_iff {E : gE} {R Ro : Nat → Int32} (hM : MDN E R Ro) {k j : Nat} (hk : k < E.1) (hk12 : k < 12) (hj : j < E.1) (hj12 : j < 12) (h1 : (1 : Int32) < err E k) : ((0 : Int32) < R j ∧ Ro j = Ro k - 1) ↔ (epa E (ett E k - 1)).testBit j = true := by
  obtain ⟨a, b, c⟩ := hM j hj12 hj
  obtain ⟨a2, b2, c2⟩ := hM k hk12 hk
  have hk0 : err E k ≠ 0 := fun q => by rw [q] at h1; exact absurd h1 (by decide)
  have t1 := err_tt hk0
  have t0 := err_tt0 h1
  have er : Ro k - 1 = nI (ett E k - 1) := by
    rw [b2 hk0]
    exact pk_sub (b := 1) t0
  rw [a, er]
  constructor
  · rintro ⟨hp, hq⟩
    have hj0 : err E j ≠ 0 := fun q => by rw [q] at hp; exact absurd hp (by decide)
    have t2 := err_tt hj0
    rw [b hj0] at hq
    have := nI_inj (by omega) (by omega) hq
    rw [← this]
    exact ett_in t2
  · intro hp
    have ht := ett_of (E := E) (k := j) (i := ett E k - 1) (by omega) hp
    have hj0 : err E j ≠ 0 := by
      rw [err, if_neg (by omega)]
      split
      · decide
      · split <;> decide
    refine ⟨?_, by rw [b hj0, ht]⟩
    rcases err_cases E j with e | e | e | e
    · exact absurd e hj0
    · rw [e]; decide
    · rw [e]; decide
    · rw [e]; decide
section MW
variable {K : hK} {H : hAH} {m : Nat} {c : Nat → Int32} {B : Nat → Nat → Int32} {Y : hY}
set_option maxRecDepth 100000 in
set_option maxHeartbeats 4000000 in
theorem l_Mo_backTo (h : RMo K H m c B) (w : WF (B 0)) (hM : MDN (vEm (B 0)) (B 8) (B 9)) {k : Nat} (hk : k < vN (B 0)) : ∀ (i : Nat) (a g : Int32) (l4 : Option Value), i ≤ vN (B 0) → a = lowest (bkP (vEm (B 0)) k) (vN (B 0) - i) i → g = nI i - 1 → hJ K M_Mo_backTo (0, 0) (fun r H' => r = some (.int (ebb (vEm (B 0)) k)) ∧ H' = H) 12 (0, 0) [some (.ref m), some (.int (nI k)), some (.int a), some (.int g), l4] [] H := by
  have hn := w.1.2
  obtain ⟨mk1, mk2, mk3⟩ := hM k (by omega) hk
  intro i
  induction i with
  | zero =>
    intro a g l4 hi ha hg
    refine hGo_sound (okc_Mo_backTo K _ _) [12] 60 _ _ _ _ _ ?_
    refine ⟨fun _ => ⟨trivial, ?_, rfl⟩, fun q => absurd (by rw [hg]; decide) q⟩
    rw [ha, ebb_P, Nat.sub_zero]
    congr 2
    have e := lowest_ext (p := bkP (vEm (B 0)) k) (vN (B 0)) 0 (12 - vN (B 0)) (fun j h1 _ => by
      unfold bkP
      cases hb : (epa (vEm (B 0)) (ett (vEm (B 0)) k - 1)).testBit j
      · simp
      · have : j < vN (B 0) := epa_n hb
        omega)
    rw [show vN (B 0) + (12 - vN (B 0)) = 12 by omega] at e
    exact e.symm
  | succ i ih =>
    intro a g l4 hi ha hg
    have hin : i < vN (B 0) := by omega
    have hg' : g = nI i := by rw [hg, nI_pred]
    have eg : g + (-1) = nI i - 1 := by
      rw [hg', Int32.sub_eq_add_neg]
    have step : lowest (bkP (vEm (B 0)) k) (vN (B 0) - i) i = if bkP (vEm (B 0)) k i then nI i else a := by
      rw [show vN (B 0) - i = (vN (B 0) - (i + 1)) + 1 by omega, lowest, ← ha]
    have no : bkP (vEm (B 0)) k i = false → ∀ l4, hJ K M_Mo_backTo (0, 0) (fun r H' => r = some (.int (ebb (vEm (B 0)) k)) ∧ H' = H) 12 (0, 0) [some (.ref m), some (.int (nI k)), some (.int a), some (.int (g + (-1))), l4] [] H := fun hq l4 => by
      refine ih _ _ l4 (by omega) ?_ eg
      rw [step, hq]; rfl
    have yes : bkP (vEm (B 0)) k i = true → ∀ l4, hJ K M_Mo_backTo (0, 0) (fun r H' => r = some (.int (ebb (vEm (B 0)) k)) ∧ H' = H) 12 (0, 0) [some (.ref m), some (.int (nI k)), some (.int g), some (.int (g + (-1))), l4] [] H := fun hq l4 => by
      refine ih _ _ l4 (by omega) ?_ eg
      rw [step, hq, hg']; rfl
    have J49 : ∀ q : Bool, ((1 : Int32) < err (vEm (B 0)) k → q = (epa (vEm (B 0)) (ett (vEm (B 0)) k - 1)).testBit i) → hJ K M_Mo_backTo (0, 0) (fun r H' => r = some (.int (ebb (vEm (B 0)) k)) ∧ H' = H) 49 (0, 0) [some (.ref m), some (.int (nI k)), some (.int a), some (.int g), some (.int (b2i q))] [] H := by
      intro q hq
      refine hGo_sound (okc_Mo_backTo K _ _) [12] 60 _ _ _ _ _ ?_
      refine ⟨_, h.1, 12, _, k, Or.inl h.rs, rfl, by omega, by decide, fun hle => ?_, fun hgt => ?_⟩
      · rw [mk1] at hle
        exact no (by unfold bkP; rw [decide_eq_false (Int32.not_lt.mpr hle)]; rfl) _
      · rw [mk1] at hgt
        have h1 := Int32.not_le.mp hgt
        have hq := hq h1
        refine ⟨fun hz => ?_, fun hz => ⟨_, h.1, 12, _, k, Or.inl h.rs, rfl, by omega, by decide, fun h3 => ?_, fun h3 => ⟨_, h.1, _, c_Mo_of h (k := k) (f := 4) (by omega), ?_⟩⟩⟩
        · have hz := b2i_0.mp hz
          exact no (by unfold bkP; rw [← hq, hz]; simp) _
        · have hz := b2i_n0.mp hz
          rw [mk1] at h3
          exact yes (by unfold bkP; rw [decide_eq_true h1, ← hq, hz, decide_eq_true h3]; rfl) _
        · rintro _ H ⟨rfl, rfl⟩
          have hz := b2i_n0.mp hz
          rw [mk1] at h3
          have e4 : B 0 (15 + 8 * k + 4) = nI (vLet (B 0) k) := (w.2.2.2.2.1 k hk).2.2.2.1.1
          refine ⟨_, e4 ▸ hg' ▸ c_Mo_has K H (vLet (B 0) k) (k := i) (by omega), ?_⟩
          rintro _ H ⟨rfl, rfl⟩
          have hlet : (vEm (B 0)).2.2.2.2.2 k = vLet (B 0) k := rfl
          refine ⟨fun hb => ?_, fun hb => ?_⟩
          · exact no (by unfold bkP; rw [hlet, b2i_0.mp hb, decide_eq_false h3]; simp) _
          · exact yes (by unfold bkP; rw [hlet, b2i_n0.mp hb, decide_eq_true h1, ← hq, hz]; simp) _
    refine hGo_sound (okc_Mo_backTo K _ _) [12, 49] 60 _ _ _ _ _ ?_
    refine ⟨fun hneg => absurd (by rw [hg'] at hneg; exact hneg) (nI_pos (by omega)), fun _ => ⟨_, h.1, 12, _, i, Or.inl h.rs, hg', by omega, by decide, fun hle => ?_, fun hgt => ⟨_, h.1, 12, _, i, Or.inl h.ro, hg', by omega, by decide, _, h.1, 12, _, k, Or.inl h.ro, rfl, by omega, by decide, fun hne => ?_, fun heq => ?_⟩⟩⟩
    · refine J49 false fun h1 => ?_
      have := bef_iff hM (k := k) (j := i) hk (by omega) hin (by omega) h1
      cases hb : (epa (vEm (B 0)) (ett (vEm (B 0)) k - 1)).testBit i
      · rfl
      · exact absurd (this.mpr hb).1 (Int32.not_lt.mpr hle)
    · refine J49 false fun h1 => ?_
      have := bef_iff hM (k := k) (j := i) hk (by omega) hin (by omega) h1
      cases hb : (epa (vEm (B 0)) (ett (vEm (B 0)) k - 1)).testBit i
      · rfl
      · exact absurd (this.mpr hb).2 hne
    · refine J49 true fun h1 => ?_
      have := bef_iff hM (k := k) (j := i) hk (by omega) hin (by omega) h1
      exact (this.mp ⟨Int32.not_le.mp hgt, heq⟩).symm
set_option maxRecDepth 100000 in
set_option maxHeartbeats 4000000 in
theorem c_Mo_backTo (h : RMo K H m c B) (w : WF (B 0)) (hM : MDN (vEm (B 0)) (B 8) (B 9)) {k : Nat} (hk : k < vN (B 0)) : hCT K M_Mo_backTo [.ref m, .int (nI k)] H 0 0 (fun r H' => r = some (.int (ebb (vEm (B 0)) k)) ∧ H' = H) := by
  refine hCT.go (okc_Mo_backTo K _ _) [12] 60 (by decide +kernel) rfl rfl ?_
  refine ⟨_, h.1, 1647, _, 0, Or.inl h.v, rfl, by decide, by decide, ?_⟩
  refine l_Mo_backTo h w hM hk (vN (B 0)) (-5) _ none (Nat.le_refl _) ?_ ?_
  · rw [Nat.sub_self]; rfl
  · rw [w.1.1]
set_option maxRecDepth 100000 in
set_option maxHeartbeats 4000000 in
theorem l_Mo_why {Q : hPost} (h : RMo K H m c B) (w : WF (B 0)) (hM : MDN (vEm (B 0)) (B 8) (B 9)) {k0 : Nat} {x : Int32} {W : Nat × Nat}
    (hQ : hJ K M_Mo_why (0, 0) Q 84 (0, 0) [some (.ref m), some (.int (nI k0)), some (.int x), some (.int (nI W.1)), some (.int (nI W.2))] [] H) : ∀ (f k a : Nat) (p q : Int32), k < vN (B 0) → err (vEm (B 0)) k ≠ 0 → ett (vEm (B 0)) k = f → W = (a + (ewl (vEm (B 0)) f k).1, (ewl (vEm (B 0)) f k).2) → p = nI (a + 1) → q = nI k → hJ K M_Mo_why (0, 0) Q 61 (0, 0) [some (.ref m), some (.int (nI k0)), some (.int x), some (.int p), some (.int q)] [] H := by
  have hn := w.1.2
  intro f
  induction f with
  | zero =>
    intro k a p q hk he ht hW hp hq
    have e1 : err (vEm (B 0)) k = 1 := by rw [err, if_neg (by omega), if_pos ht]
    have eb : ebb (vEm (B 0)) k = -5 := by rw [ebb, e1, if_neg (by decide), if_neg (by decide)]
    refine hGo_sound (okc_Mo_why K _ _) [61, 84] 60 _ _ _ _ _ ?_
    refine ⟨_, h.1, _, hq ▸ c_Mo_backTo h w hM hk, ?_⟩
    rintro _ H ⟨rfl, rfl⟩
    rw [eb]
    refine ⟨fun _ => ?_, fun z => absurd (by decide) z⟩
    have e1 : W.1 = a + 1 := by rw [hW]; rfl
    have e2 : W.2 = k := by rw [hW]; rfl
    rw [e1, e2] at hQ
    rw [hp, hq]
    exact hQ
  | succ f ih =>
    intro k a p q hk he ht hW hp hq
    refine hGo_sound (okc_Mo_why K _ _) [61, 84] 60 _ _ _ _ _ ?_
    refine ⟨_, h.1, _, hq ▸ c_Mo_backTo h w hM hk, ?_⟩
    rintro _ H ⟨rfl, rfl⟩
    refine ⟨fun hneg => ?_, fun hpos => ⟨_, h.1, _, hq ▸ c_Mo_backTo h w hM hk, ?_⟩⟩
    · have e1 : W.1 = a + 1 := by rw [hW, ewl, if_pos hneg]
      have e2 : W.2 = k := by rw [hW, ewl, if_pos hneg]
      rw [e1, e2] at hQ
      rw [hp, hq]
      exact hQ
    · rintro _ H ⟨rfl, rfl⟩
      rcases ebb_spec (vEm (B 0)) k with e | ⟨j, e, hj, hb, -⟩
      · rw [e] at hpos; exact absurd (by decide) hpos
      · have tj := ett_of (E := vEm (B 0)) (k := j) (i := ett (vEm (B 0)) k - 1) (by have := err_tt he; omega) hb
        have hjn : j < vN (B 0) := epa_n hb
        have hje : err (vEm (B 0)) j ≠ 0 := by
          have := err_tt he
          rw [err, if_neg (by omega)]
          split
          · decide
          · split <;> decide
        have ec : (ebb (vEm (B 0)) k).toNatClampNeg = j := by rw [e]; exact nI_clamp (by omega)
        refine ih j (a + 1) _ _ hjn hje (by omega) ?_ (by rw [hp, nI_1]) e
        rw [hW, ewl, if_neg hpos, ec]
        congr 1
        omega
set_option maxRecDepth 100000 in
set_option maxHeartbeats 4000000 in
theorem c_Mo_why (h : RMo K H m c B) (hp : MPr c B Y) (hY : YOk Y) (g x : Int32) : hCT K M_Mo_why [.ref m, .int g, .int x] H 0 0 (mPost K m H (sp_why Y g x, Y)) := by
  have wf := hY.1
  have hV : B 0 = Y.1 := hp.1
  have hn := wf.1.2
  refine hCT.go (okc_Mo_why K _ _) [61, 84] 60 (by decide +kernel) rfl rfl ?_
  refine ⟨_, h.1, _, c_Mo_isGuest h g, ?_⟩
  rintro _ H ⟨rfl, rfl⟩
  rw [hV]
  refine ⟨fun hq => ?_, fun hq => ?_⟩
  · have hg := of_decide_eq_true (b2i_n0.mp hq)
    obtain ⟨k, hk, rfl⟩ := (gOk_iff wf).mp hg
    refine ⟨_, c_Mo_in K H _ _ _, ?_⟩
    rintro _ H ⟨rfl, rfl⟩
    rw [b2i_if]
    refine ⟨fun hx => ?_, fun hx => ?_⟩
    · have hx := of_decide_eq_true (b2i_n0.mp hx)
      refine ⟨_, h.1, _, c_Mo_greatest h (hV ▸ wf), ?_⟩
      rintro _ H1 ⟨rfl, ⟨R, Ro, h', hM⟩, f⟩
      have hp' : MPr (upd c 5 (nI (eL (vEm (B 0)) + 1))) (upB (upB B 8 R) 9 Ro) Y := hp.gr
      have hM' : MDN (vEm (upB (upB B 8 R) 9 Ro 0)) (upB (upB B 8 R) 9 Ro 8) (upB (upB B 8 R) 9 Ro 9) := hM
      have wB : WF (upB (upB B 8 R) 9 Ro 0) := by
        show WF (B 0)
        rw [hV]
        exact wf
      generalize upd c 5 (nI (eL (vEm (B 0)) + 1)) = c' at h' hp'
      generalize upB (upB B 8 R) 9 Ro = B' at h' hp' hM' wB
      have hV' : B' 0 = Y.1 := hp'.1
      obtain ⟨a1, a2, a3⟩ := hM' k (by omega) (by rw [hV']; exact hk)
      have e : sp_why Y (nI k) x = if x = 0 then err (vEm Y.1) k else if err (vEm Y.1) k = 0 then -5 else if x = 1 then nI (ett (vEm Y.1) k) else if x = 2 then ebb (vEm Y.1) k else if x = 3 then nI (ewl (vEm Y.1) (ett (vEm Y.1) k) k).1 else nI (ewl (vEm Y.1) (ett (vEm Y.1) k) k).2 := by
        rw [sp_why, if_neg (fun q => q hg), if_neg (fun q => q hx), clp_nI (by omega)]
      rw [← hV'] at e
      have tail : ¬ x = 0 → ¬ err (vEm (B' 0)) k = 0 → hJ K M_Mo_why (0, 0) (mPost K m H (sp_why Y (nI k) x, Y)) 61 (0, 0) [some (.ref m), some (.int (nI k)), some (.int x), some (.int 1), some (.int (nI k))] [] H1 := fun x0 he => by
        refine l_Mo_why h' wB hM' (W := ewl (vEm (B' 0)) (ett (vEm (B' 0)) k) k) ?_ (ett (vEm (B' 0)) k) k 0 _ _ (by rw [hV']; exact hk) he rfl (by rw [Nat.zero_add]) rfl rfl
        refine hGo_sound (okc_Mo_why K _ _) [] 60 _ _ _ _ _ ?_
        refine ⟨fun x1 => ⟨fun x2 => ⟨fun x3 => ?_, fun x3 => ?_⟩, fun x2 => ?_⟩, fun x1 => ?_⟩
        · exact ⟨trivial, mQ2 h' hp' f (by rw [e, if_neg x0, if_neg he, if_neg x1, if_neg x2, if_neg x3])⟩
        · exact ⟨trivial, mQ2 h' hp' f (by rw [e, if_neg x0, if_neg he, if_neg x1, if_neg x2, if_pos x3])⟩
        · refine ⟨_, h'.1, _, c_Mo_backTo h' wB hM' (k := k) (by rw [hV']; exact hk), ?_⟩
          rintro _ H2 ⟨rfl, rfl⟩
          exact ⟨trivial, mQ2 h' hp' f (by rw [e, if_neg x0, if_neg he, if_neg x1, if_pos x2])⟩
        · exact ⟨_, h'.1, 12, _, k, Or.inl h'.ro, rfl, by omega, by decide, trivial, mQ2 h' hp' f (by rw [e, if_neg x0, if_neg he, if_pos x1, a2 he])⟩
      refine ⟨fun x0 => ⟨fun q => absurd x0 q, fun _ => ⟨_, h'.1, 12, _, k, Or.inl h'.rs, rfl, by omega, by decide, trivial, mQ2 h' hp' f (by rw [e, if_pos x0, a1])⟩⟩, fun x0 => ⟨_, h'.1, 12, _, k, Or.inl h'.rs, rfl, by omega, by decide, fun he => ?_, fun he => ⟨fun _ => ?_, fun q => absurd q x0⟩⟩⟩
      · exact tail x0 (by rw [← a1]; exact he)
      · exact ⟨trivial, mQ2 h' hp' f (by rw [e, if_neg x0, if_pos (by rw [← a1]; exact he)])⟩
    · have hx := of_decide_eq_false (b2i_0.mp hx)
      exact ⟨trivial, mQ h hp (by rw [sp_why, if_neg (fun q => q hg), if_pos hx])⟩
  · have hg := of_decide_eq_false (b2i_0.mp hq)
    exact ⟨trivial, mQ h hp (by rw [sp_why, if_pos hg])⟩
end MW
