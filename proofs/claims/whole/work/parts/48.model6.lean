/-! THE REFERENCE: seats, counts, one guest less, one more generous -/
section MD
variable {K : hK} {H : hAH} {m : Nat} {c : Nat → Int32} {B : Nat → Nat → Int32} {Y : hY}
set_option maxRecDepth 100000 in
set_option maxHeartbeats 4000000 in
theorem l_Mo_seat {s : Int32} (h : RMo K H m c B) (w : WF (B 0)) (hs : s ≠ -5) : ∀ (d i : Nat) (a g : Int32), i + d = vN (B 0) → ((a = -5 ∧ ∀ k, k < i → vG (B 0) k 7 ≠ s) ∨ ∃ k, k < i ∧ vG (B 0) k 7 = s ∧ a = nI k) → g = nI i → hJ K M_Mo_seat (0, 0) (fun r H' => r = some (.int (lowest (fun k => decide (k < vN (B 0)) && decide (vG (B 0) k 7 = s)) 12 0)) ∧ H' = H) 17 (0, 0) [some (.ref m), some (.int s), some (.int a), some (.int g)] [] H := by
  have hn := w.1.2
  intro d
  induction d with
  | zero =>
    intro i a g hi ha hg
    obtain rfl : i = vN (B 0) := by omega
    refine hGo_sound (okc_Mo_seat K _ _) [17] 60 _ _ _ _ _ ?_
    refine ⟨_, h.1, 1647, _, 0, Or.inl h.v, rfl, by decide, by decide, fun _ => ⟨trivial, ?_, rfl⟩, fun q => absurd (by rw [hg, w.1.1]; exact nI_le (Nat.le_refl _) (by omega)) q⟩
    congr 2
    rcases lowest_spec (fun k => decide (k < vN (B 0)) && decide (vG (B 0) k 7 = s)) 12 0 (by decide) with ⟨e, hno⟩ | ⟨j, e, -, hj, hpj, -⟩
    · rcases ha with ⟨ha, -⟩ | ⟨k, hk, hks, -⟩
      · rw [ha, e]
      · have := hno k (Nat.zero_le _) (by omega)
        rw [decide_eq_true hk, decide_eq_true hks] at this
        exact absurd this (by decide)
    · simp only [Bool.and_eq_true, decide_eq_true_eq] at hpj
      rcases ha with ⟨-, hno⟩ | ⟨k, hk, hks, ha⟩
      · exact absurd hpj.2 (hno j hpj.1)
      · by_cases ejk : j = k
        · rw [ha, e, ejk]
        · have := (w.seat hk).2 j hpj.1 ejk (hpj.2.trans hks.symm)
          exact absurd (hks.symm.trans this) hs
  | succ d ih =>
    intro i a g hi ha hg
    have hk : i < vN (B 0) := by omega
    refine hGo_sound (okc_Mo_seat K _ _) [17] 60 _ _ _ _ _ ?_
    refine ⟨_, h.1, 1647, _, 0, Or.inl h.v, rfl, by decide, by decide, fun q => absurd (by rw [hg, w.1.1] at q; exact q) (nI_ge hk (by omega)), fun _ => ⟨_, h.1, _, hg ▸ c_Mo_of h (k := i) (f := 7) (by omega), ?_⟩⟩
    rintro _ H ⟨rfl, rfl⟩
    refine ⟨fun hne => ?_, fun heq => ?_⟩
    · refine ih (i + 1) _ _ (by omega) ?_ (by rw [hg, nI_1])
      rcases ha with ⟨ha, hno⟩ | ⟨k, hk, hks, ha⟩
      · refine Or.inl ⟨ha, fun k hk => ?_⟩
        by_cases e : k = i
        · rw [e]; exact hne
        · exact hno k (by omega)
      · exact Or.inr ⟨k, by omega, hks, ha⟩
    · exact ih (i + 1) _ _ (by omega) (Or.inr ⟨i, Nat.lt_succ_self i, heq, hg⟩) (by rw [hg, nI_1])
set_option maxRecDepth 100000 in
set_option maxHeartbeats 4000000 in
theorem c_Mo_seat (h : RMo K H m c B) (hp : MPr c B Y) (hY : YOk Y) (x : Int32) : hCT K M_Mo_seat [.ref m, .int x] H 0 0 (mPost K m H (sp_seat Y x, Y)) := by
  have wf := hY.1
  have hV : B 0 = Y.1 := hp.1
  refine hCT.go (okc_Mo_seat K _ _) [17] 60 (by decide +kernel) rfl rfl ?_
  refine ⟨_, c_Mo_in K H _ _ _, ?_⟩
  rintro _ H ⟨rfl, rfl⟩
  rw [b2i_if]
  refine ⟨fun hx => ?_, fun hx => ?_⟩
  · have hx := of_decide_eq_true (b2i_n0.mp hx)
    refine (l_Mo_seat h (hV ▸ wf) (s := x) (fun q => by rw [q] at hx; exact absurd hx.1 (by decide)) (vN (B 0)) 0 (-5) _ (Nat.zero_add _) (Or.inl ⟨rfl, fun k hk => absurd hk (Nat.not_lt_zero k)⟩) rfl).imp ?_
    rintro _ H1 ⟨rfl, rfl⟩
    exact mQ h hp (by rw [sp_seat, if_neg (fun q => q hx), hV])
  · have hx := of_decide_eq_false (b2i_0.mp hx)
    exact ⟨trivial, mQ h hp (by rw [sp_seat, if_pos hx])⟩
set_option maxRecDepth 100000 in
set_option maxHeartbeats 4000000 in
theorem l_Mo_count {x : Int32} (h : RMo K H m c B) (hp : MPr c B Y) (hY : YOk Y) : ∀ (d i : Nat) (a g : Int32), i + d = vN Y.1 → a = sumI (fun k => if k < vN Y.1 then vG Y.1 k 3 else 0) i → g = nI i → hJ K M_Mo_count (0, 0) (mPost K m H (sp_count Y x, Y)) 4 (0, 0) [some (.ref m), some (.int x), some (.int a), some (.int g)] [] H := by
  have w := hY.1
  have hn := w.1.2
  have hV : B 0 = Y.1 := hp.1
  intro d
  induction d with
  | zero =>
    intro i a g hi ha hg
    obtain rfl : i = vN Y.1 := by omega
    have ea : a = sumI (fun k => if k < vN Y.1 then vG Y.1 k 3 else 0) 12 := by
      rw [ha]
      have e := sumI_ext (p := fun k => if k < vN Y.1 then vG Y.1 k 3 else 0) (n := vN Y.1) (12 - vN Y.1) (fun k h1 _ => if_neg (fun q => by omega))
      rw [show vN Y.1 + (12 - vN Y.1) = 12 by omega] at e
      exact e.symm
    refine hGo_sound (okc_Mo_count K _ _) [4] 60 _ _ _ _ _ ?_
    refine ⟨_, h.1, 1647, _, 0, Or.inl h.v, rfl, by decide, by decide, fun _ => ?_, fun q => absurd (by rw [hg, hV, w.1.1]; exact nI_le (Nat.le_refl _) (by omega)) q⟩
    refine ⟨fun x0 => ?_, fun x0 => ⟨fun x1 => ?_, fun x1 => ⟨fun x2 => ?_, fun x2 => ⟨fun x3 => ?_, fun x3 => ⟨fun x4 => ?_, fun x4 => ⟨fun x5 => ?_, fun x5 => ⟨fun x6 => ?_, fun x6 => ⟨fun x7 => ?_, fun x7 => ⟨fun x8 => ?_, fun x8 => ⟨fun x9 => ?_, fun x9 => ⟨fun x10 => ?_, fun x10 => ⟨fun x11 => ?_, fun x11 => ⟨fun x12 => ?_, fun x12 => ⟨fun x13 => ?_, fun x13 => ⟨fun x14 => ?_, fun x14 => ⟨fun x15 => ?_, fun x15 => ⟨fun x16 => ?_, fun x16 => ?_⟩⟩⟩⟩⟩⟩⟩⟩⟩⟩⟩⟩⟩⟩⟩⟩⟩
    · exact ⟨_, h.1, 1647, _, 1, Or.inl h.v, rfl, by decide, by decide, trivial, mQ h hp (by rw [sp_count, if_pos x0, hV])⟩
    · exact ⟨_, h.1, 1647, _, 0, Or.inl h.v, rfl, by decide, by decide, trivial, mQ h hp (by rw [sp_count, if_neg x0, if_pos x1, hV])⟩
    · refine ⟨_, h.1, _, c_Mo_invited h (hV ▸ w), ?_⟩
      rintro _ H ⟨rfl, rfl⟩
      refine ⟨_, c_Mo_ones K H (setOf_12 _), ?_⟩
      rintro _ H ⟨rfl, rfl⟩
      exact ⟨trivial, mQ h hp (by rw [sp_count, if_neg x0, if_neg x1, if_pos x2, hV])⟩
    · exact ⟨_, h.1, 1647, _, 2, Or.inl h.v, by rw [x3]; rfl, by decide, by decide, trivial, mQ h hp (by rw [sp_count, if_neg x0, if_neg x1, if_neg x2, if_pos x3, hV])⟩
    · exact ⟨_, h.1, 1647, _, 3, Or.inl h.v, by rw [x4]; rfl, by decide, by decide, trivial, mQ h hp (by rw [sp_count, if_neg x0, if_neg x1, if_neg x2, if_neg x3, if_pos x4, hV])⟩
    · exact ⟨_, h.1, 1647, _, 4, Or.inl h.v, by rw [x5]; rfl, by decide, by decide, trivial, mQ h hp (by rw [sp_count, if_neg x0, if_neg x1, if_neg x2, if_neg x3, if_neg x4, if_pos x5, hV])⟩
    · exact ⟨_, h.1, 1647, _, 5, Or.inl h.v, by rw [x6]; rfl, by decide, by decide, trivial, mQ h hp (by rw [sp_count, if_neg x0, if_neg x1, if_neg x2, if_neg x3, if_neg x4, if_neg x5, if_pos x6, hV])⟩
    · exact ⟨_, h.1, 1647, _, 6, Or.inl h.v, by rw [x7]; rfl, by decide, by decide, trivial, mQ h hp (by rw [sp_count, if_neg x0, if_neg x1, if_neg x2, if_neg x3, if_neg x4, if_neg x5, if_neg x6, if_pos x7, hV])⟩
    · exact ⟨_, h.1, 1647, _, 7, Or.inl h.v, rfl, by decide, by decide, trivial, mQ h hp (by rw [sp_count, if_neg x0, if_neg x1, if_neg x2, if_neg x3, if_neg x4, if_neg x5, if_neg x6, if_neg x7, if_pos x8, hV])⟩
    · exact ⟨_, h.1, 1647, _, 10, Or.inl h.v, rfl, by decide, by decide, trivial, mQ h hp (by rw [sp_count, if_neg x0, if_neg x1, if_neg x2, if_neg x3, if_neg x4, if_neg x5, if_neg x6, if_neg x7, if_neg x8, if_pos x9, hV])⟩
    · exact ⟨_, h.1, 1647, _, 11, Or.inl h.v, rfl, by decide, by decide, trivial, mQ h hp (by rw [sp_count, if_neg x0, if_neg x1, if_neg x2, if_neg x3, if_neg x4, if_neg x5, if_neg x6, if_neg x7, if_neg x8, if_neg x9, if_pos x10, hV])⟩
    · exact ⟨_, h.1, 1647, _, 12, Or.inl h.v, rfl, by decide, by decide, trivial, mQ h hp (by rw [sp_count, if_neg x0, if_neg x1, if_neg x2, if_neg x3, if_neg x4, if_neg x5, if_neg x6, if_neg x7, if_neg x8, if_neg x9, if_neg x10, if_pos x11, hV])⟩
    · exact ⟨_, h.1, 1647, _, 13, Or.inl h.v, rfl, by decide, by decide, trivial, mQ h hp (by rw [sp_count, if_neg x0, if_neg x1, if_neg x2, if_neg x3, if_neg x4, if_neg x5, if_neg x6, if_neg x7, if_neg x8, if_neg x9, if_neg x10, if_neg x11, if_pos x12, hV])⟩
    · exact ⟨_, h.1, 1647, _, 14, Or.inl h.v, rfl, by decide, by decide, trivial, mQ h hp (by rw [sp_count, if_neg x0, if_neg x1, if_neg x2, if_neg x3, if_neg x4, if_neg x5, if_neg x6, if_neg x7, if_neg x8, if_neg x9, if_neg x10, if_neg x11, if_neg x12, if_pos x13, hV])⟩
    · exact ⟨trivial, mQ h hp (by rw [sp_count, if_neg x0, if_neg x1, if_neg x2, if_neg x3, if_neg x4, if_neg x5, if_neg x6, if_neg x7, if_neg x8, if_neg x9, if_neg x10, if_neg x11, if_neg x12, if_neg x13, if_pos x14, ea])⟩
    · exact ⟨_, h.1, trivial, mQ h hp (by rw [sp_count, if_neg x0, if_neg x1, if_neg x2, if_neg x3, if_neg x4, if_neg x5, if_neg x6, if_neg x7, if_neg x8, if_neg x9, if_neg x10, if_neg x11, if_neg x12, if_neg x13, if_neg x14, if_pos x15, hp.2.1])⟩
    · exact ⟨_, h.1, trivial, mQ h hp (by rw [sp_count, if_neg x0, if_neg x1, if_neg x2, if_neg x3, if_neg x4, if_neg x5, if_neg x6, if_neg x7, if_neg x8, if_neg x9, if_neg x10, if_neg x11, if_neg x12, if_neg x13, if_neg x14, if_neg x15, if_pos x16, hp.2.2.2.2.2.1])⟩
    · exact ⟨trivial, mQ h hp (by rw [sp_count, if_neg x0, if_neg x1, if_neg x2, if_neg x3, if_neg x4, if_neg x5, if_neg x6, if_neg x7, if_neg x8, if_neg x9, if_neg x10, if_neg x11, if_neg x12, if_neg x13, if_neg x14, if_neg x15, if_neg x16])⟩
  | succ d ih =>
    intro i a g hi ha hg
    have hk : i < vN Y.1 := by omega
    refine hGo_sound (okc_Mo_count K _ _) [4] 60 _ _ _ _ _ ?_
    refine ⟨_, h.1, 1647, _, 0, Or.inl h.v, rfl, by decide, by decide, fun q => absurd (by rw [hg, hV, w.1.1] at q; exact q) (nI_ge hk (by omega)), fun _ => ⟨_, h.1, _, hg ▸ c_Mo_of h (k := i) (f := 3) (by omega), ?_⟩⟩
    rintro _ H ⟨rfl, rfl⟩
    refine ih (i + 1) _ _ (by omega) ?_ (by rw [hg, nI_1])
    rw [ha, sumI, if_pos hk, hV]
    rfl
set_option maxRecDepth 100000 in
set_option maxHeartbeats 4000000 in
theorem c_Mo_count (h : RMo K H m c B) (hp : MPr c B Y) (hY : YOk Y) (x : Int32) : hCT K M_Mo_count [.ref m, .int x] H 0 0 (mPost K m H (sp_count Y x, Y)) := by
  refine hCT.go (okc_Mo_count K _ _) [4] 60 (by decide +kernel) rfl rfl ?_
  exact l_Mo_count h hp hY (vN Y.1) 0 _ _ (Nat.zero_add _) rfl rfl
theorem vFee_cong {V V' : Nat → Int32} {x : Int32} (h2 : V' 2 = V 2) (h3 : V' 3 = V 3) : vFee V' x = vFee V x := by
  show (if 0 < x then (V' 2 + x - 1) / x + V' 3 else 0) = if 0 < x then (V 2 + x - 1) / x + V 3 else 0
  rw [h2, h3]
/-- two searches, with one guest's number changed -/
theorem inv_less {V : Nat → Int32} {k : Nat} (hk : k < 12) : vInv (upd V (15 + 8 * k + 2) 0) = dif (vInv V) (2 ^ k) := by
  refine Nat.eq_of_testBit_eq fun j => ?_
  unfold vInv
  rw [setOf_bit, dif_bit, setOf_bit, vN_n (by omega), vG_upd (by decide) (by decide), Nat.testBit_two_pow]
  by_cases h12 : j < 12
  · by_cases e : j = k
    · subst e
      rw [if_pos ⟨rfl, rfl⟩]
      simp
    · rw [if_neg (fun q => e q.1), decide_eq_false (Ne.symm e)]
      simp [h12]
  · rw [decide_eq_false h12]; rfl
theorem geq_less {V : Nat → Int32} {k I : Nat} (hI : I < 4096) (hk : k < 12) : gEq (vE (upd V (15 + 8 * k + 2) 0) I (-1)) (vE V I (-1)) := by
  unfold vE gEq
  dsimp only
  refine ⟨vN_n (by omega), rfl, hI, fun X => vFee_cong (upd_n (by omega)) (upd_n (by omega)), fun j _ => ⟨fun X _ => ?_, ?_, ?_⟩⟩
  · exact vMet_n (by omega)
  · rw [vG_upd (by decide) (by decide), if_neg (show ¬ (j = k ∧ 0 = 2) from fun q => absurd q.2 (by decide))]
  · unfold vLet
    rw [vG_upd (by decide) (by decide), if_neg (show ¬ (j = k ∧ 4 = 2) from fun q => absurd q.2 (by decide))]
theorem gr_less {V : Nat → Int32} (w : WF V) {k : Nat} (hk : k < vN V) : vGr (upd V (15 + 8 * k + 2) 0) = egr (vE V (dif (vInv V) (2 ^ k)) (-1)) := by
  have hn := w.1.2
  unfold vGr
  rw [inv_less (by omega)]
  exact (geq_less (dif_lt _ _) (by omega)).qgr
theorem inv_gen {V : Nat → Int32} {k : Nat} : vInv (upd V (15 + 8 * k + 0) 99999) = vInv V := by
  refine setOf_cong fun j _ => ?_
  rw [vN_n (by omega), vG_upd (by decide) (by decide), if_neg (show ¬ (j = k ∧ 2 = 0) from fun q => absurd q.2 (by decide))]
theorem geq_gen {V : Nat → Int32} {k I : Nat} (hI : I < 4096) (hn : vN V ≤ 12) (hk : k < 12) : gEq (vE (upd V (15 + 8 * k + 0) 99999) I (-1)) (vE V I (nI k)) := by
  unfold vE gEq
  dsimp only
  refine ⟨vN_n (by omega), rfl, hI, fun X => vFee_cong (upd_n (by omega)) (upd_n (by omega)), fun j hj => ⟨fun X _ => vMet_n (by omega), ?_, ?_⟩⟩
  · rw [vN_n (by omega)] at hj
    rw [vG_upd (by decide) (by decide), if_neg (fun q => by
      have := nI_pos (n := j) (by omega)
      rw [q] at this
      exact this (by decide))]
    by_cases e : j = k
    · rw [if_pos ⟨e, rfl⟩, if_pos (by rw [e])]
    · rw [if_neg (fun q => e q.1), if_neg (fun q => e (nI_inj (by omega) (by omega) q))]
  · unfold vLet
    rw [vG_upd (by decide) (by decide), if_neg (show ¬ (j = k ∧ 4 = 0) from fun q => absurd q.2 (by decide))]
theorem gr_gen {V : Nat → Int32} (w : WF V) {k : Nat} (hk : k < vN V) : vGr (upd V (15 + 8 * k + 0) 99999) = egr (vE V (vInv V) (nI k)) := by
  have hn := w.1.2
  unfold vGr
  rw [inv_gen]
  exact (geq_gen (setOf_12 _) hn (by omega)).qgr
theorem upd_back {V : Nat → Int32} {i : Nat} {v : Int32} : upd (upd V i v) i (V i) = V := by
  funext j
  by_cases e : j = i
  · rw [e, upd_s]
  · rw [upd_n e, upd_n e]
set_option maxRecDepth 100000 in
set_option maxHeartbeats 4000000 in
theorem c_Mo_weightOf (h : RMo K H m c B) (hp : MPr c B Y) (hY : YOk Y) (g : Int32) : hCT K M_Mo_weightOf [.ref m, .int g] H 0 0 (mPost K m H (sp_weightOf Y g, Y)) := by
  have wf := hY.1
  have hV : B 0 = Y.1 := hp.1
  have hn := wf.1.2
  refine hCT.go (okc_Mo_weightOf K _ _) [] 60 (by decide +kernel) rfl rfl ?_
  refine ⟨_, h.1, _, c_Mo_isGuest h g, ?_⟩
  rintro _ H ⟨rfl, rfl⟩
  rw [hV]
  refine ⟨fun hq => ?_, fun hq => ?_⟩
  · have hg := of_decide_eq_true (b2i_n0.mp hq)
    obtain ⟨k, hk, rfl⟩ := (gOk_iff wf).mp hg
    refine ⟨_, h.1, _, c_Mo_of h (k := k) (f := 2) (by omega), ?_⟩
    rintro _ H ⟨rfl, rfl⟩
    rw [hV]
    refine ⟨fun hi => ?_, fun hi => ?_⟩
    · have hi1 : vG Y.1 k 2 = 1 := (wf.2.2.2.2.1 k hk).2.2.1.resolve_left hi
      refine ⟨_, h.1, _, c_Mo_greatest h (hV ▸ wf), ?_⟩
      rintro _ H1 ⟨rfl, ⟨R, Ro, h', -⟩, f1⟩
      refine ⟨_, c_Mo_ones K H1 (gr_lt _), ?_⟩
      rintro _ H1 ⟨rfl, rfl⟩
      refine ⟨_, h'.1, _, c_Mo_at K H1 k 2, ?_⟩
      rintro _ H1 ⟨rfl, rfl⟩
      refine ⟨1647, _, _, h'.v, rfl, by omega, by decide, fun H2 u2 => ?_⟩
      have h2 := h'.wv u2
      have e0 : upB (upB (upB B 8 R) 9 Ro) 0 (upd (upB (upB B 8 R) 9 Ro 0) (15 + 8 * k + 2) 0) 0 = upd Y.1 (15 + 8 * k + 2) 0 := by
        rw [upB_s]
        show upd (B 0) _ _ = _
        rw [hV]
      have wf2 : WF (upd Y.1 (15 + 8 * k + 2) 0) := wf.gu hk (c := 2) (by decide) (fun q => absurd q (by decide)) (fun q => absurd q (by decide)) (fun _ => Or.inl rfl)
      refine ⟨_, h2.1, _, c_Mo_greatest h2 (by rw [e0]; exact wf2), ?_⟩
      rintro _ H3 ⟨rfl, ⟨R3, Ro3, h3, -⟩, f3⟩
      rw [e0]
      refine ⟨_, c_Mo_ones K H3 (gr_lt _), ?_⟩
      rintro _ H3 ⟨rfl, rfl⟩
      refine ⟨_, h3.1, _, c_Mo_at K H3 k 2, ?_⟩
      rintro _ H3 ⟨rfl, rfl⟩
      refine ⟨1647, _, _, h3.v, rfl, by omega, by decide, fun H4 u4 => ⟨trivial, ?_⟩⟩
      have h4 := h3.wv u4
      refine mQ2 h4 ?_ (((f1.trans (u2.fr' (by omega) (by omega))).trans f3).trans (u4.fr' (by omega) (by omega))) ?_
      · refine ⟨?_, hp.2⟩
        rw [upB_s]
        show upd (upB (upB (upB B 8 R) 9 Ro) 0 (upd (upB (upB B 8 R) 9 Ro 0) (15 + 8 * k + 2) 0) 0) (15 + 8 * k + 2) 1 = Y.1
        rw [e0, ← hi1]
        exact upd_back
      · have hi' : ¬ vG Y.1 k 2 = 0 := hi
        rw [sp_weightOf, if_neg (fun q => q hg), clp_nI (by omega), if_neg hi', gr_less wf hk, hV]
    · exact ⟨trivial, mQ h hp (by rw [sp_weightOf, if_neg (fun q => q hg), clp_nI (by omega)]; exact (if_pos hi).symm)⟩
  · have hg := of_decide_eq_false (b2i_0.mp hq)
    exact ⟨trivial, mQ h hp (by rw [sp_weightOf, if_pos hg])⟩
theorem gr_in {E : gE} {k : Nat} (h : (egr E).testBit k = true) : E.2.2.2.2.1.testBit k = true := ess_mono (Nat.zero_le _) h
set_option maxRecDepth 100000 in
set_option maxHeartbeats 4000000 in
theorem c_Mo_leastLimit (h : RMo K H m c B) (hp : MPr c B Y) (hY : YOk Y) (g : Int32) : hCT K M_Mo_leastLimit [.ref m, .int g] H 0 0 (mPost K m H (sp_leastLimit Y g, Y)) := by
  have wf := hY.1
  have hV : B 0 = Y.1 := hp.1
  have hn := wf.1.2
  refine hCT.go (okc_Mo_leastLimit K _ _) [] 60 (by decide +kernel) rfl rfl ?_
  refine ⟨_, h.1, _, c_Mo_isGuest h g, ?_⟩
  rintro _ H ⟨rfl, rfl⟩
  rw [hV]
  refine ⟨fun hq => ?_, fun hq => ?_⟩
  · have hg := of_decide_eq_true (b2i_n0.mp hq)
    obtain ⟨k, hk, rfl⟩ := (gOk_iff wf).mp hg
    have ee : sp_leastLimit Y (nI k) = if (egr (vE Y.1 (vInv Y.1) (nI k))).testBit k = true then vFee Y.1 (nI (pop (egr (vE Y.1 (vInv Y.1) (nI k))))) else -5 := by
      rw [sp_leastLimit, if_neg (fun q => q hg), clp_nI (by omega)]
    refine ⟨_, h.1, _, c_Mo_of h (k := k) (f := 2) (by omega), ?_⟩
    rintro _ H ⟨rfl, rfl⟩
    rw [hV]
    refine ⟨fun hi => ?_, fun hi => ?_⟩
    · refine ⟨_, h.1, _, c_Mo_of h (k := k) (f := 0) (by omega), ?_⟩
      rintro _ H ⟨rfl, rfl⟩
      refine ⟨_, h.1, _, c_Mo_at K H k 0, ?_⟩
      rintro _ H ⟨rfl, rfl⟩
      refine ⟨1647, _, _, h.v, rfl, by omega, by decide, fun H2 u2 => ?_⟩
      have h2 := h.wv u2
      have e0 : upB B 0 (upd (B 0) (15 + 8 * k + 0) 99999) 0 = upd Y.1 (15 + 8 * k + 0) 99999 := by rw [upB_s, hV]
      have wf2 : WF (upd Y.1 (15 + 8 * k + 0) 99999) := wf.gu hk (c := 0) (by decide) (fun _ => ⟨99999, by decide, rfl⟩) (fun q => absurd q (by decide)) (fun q => absurd q (by decide))
      refine ⟨_, h2.1, _, c_Mo_greatest h2 (by rw [e0]; exact wf2), ?_⟩
      rintro _ H3 ⟨rfl, ⟨R3, Ro3, h3, -⟩, f3⟩
      rw [e0, gr_gen wf hk]
      refine ⟨_, h3.1, _, c_Mo_at K H3 k 0, ?_⟩
      rintro _ H3 ⟨rfl, rfl⟩
      refine ⟨1647, _, _, h3.v, rfl, by omega, by decide, fun H4 u4 => ?_⟩
      have h4 := h3.wv u4
      have f4 : hFr m (m + 11) H H4 := ((u2.fr' (by omega) (by omega)).trans f3).trans (u4.fr' (by omega) (by omega))
      have eb : upB (upB (upB (upB B 0 (upd (B 0) (15 + 8 * k + 0) 99999)) 8 R3) 9 Ro3) 0 (upd (upB (upB (upB B 0 (upd (B 0) (15 + 8 * k + 0) 99999)) 8 R3) 9 Ro3 0) (15 + 8 * k + 0) (B 0 (15 + 8 * k + 0))) 0 = Y.1 := by
        rw [upB_s]
        show upd (upB B 0 (upd (B 0) (15 + 8 * k + 0) 99999) 0) (15 + 8 * k + 0) (B 0 (15 + 8 * k + 0)) = Y.1
        rw [upB_s, upd_back, hV]
      have hp4 : MPr _ (upB (upB (upB (upB B 0 (upd (B 0) (15 + 8 * k + 0) 99999)) 8 R3) 9 Ro3) 0 (upd (upB (upB (upB B 0 (upd (B 0) (15 + 8 * k + 0) 99999)) 8 R3) 9 Ro3 0) (15 + 8 * k + 0) (B 0 (15 + 8 * k + 0)))) Y := ⟨eb, hp.2⟩
      refine ⟨_, c_Mo_has K H4 (egr (vE Y.1 (vInv Y.1) (nI k))) (k := k) (by omega), ?_⟩
      rintro _ H4 ⟨rfl, rfl⟩
      refine ⟨fun hb => ?_, fun hb => ?_⟩
      · exact ⟨trivial, mQ2 h4 hp4 f4 (by rw [ee, if_neg (fun q => by rw [b2i_0.mp hb] at q; cases q)])⟩
      · refine ⟨_, c_Mo_ones K H4 (ess_lt (E := vE Y.1 (vInv Y.1) (nI k)) (setOf_12 _) _), ?_⟩
        rintro _ H4 ⟨rfl, rfl⟩
        refine ⟨_, h4.1, _, c_Mo_feeOf h4 (pop_pos (k := k) (by omega) (b2i_n0.mp hb)), ?_⟩
        rintro _ H4 ⟨rfl, rfl⟩
        rw [eb]
        exact ⟨trivial, mQ2 h4 hp4 f4 (by rw [ee, if_pos (b2i_n0.mp hb)])⟩
    · refine ⟨trivial, mQ h hp ?_⟩
      rw [ee, if_neg (fun q => ?_)]
      have h1 : (vInv Y.1).testBit k = true := gr_in q
      unfold vInv at h1
      rw [setOf_bit] at h1
      have hi' : vG Y.1 k 2 = 0 := hi
      rw [hi'] at h1
      simp at h1
  · have hg := of_decide_eq_false (b2i_0.mp hq)
    exact ⟨trivial, mQ h hp (by rw [sp_leastLimit, if_pos hg])⟩
end MD
