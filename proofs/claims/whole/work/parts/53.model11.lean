/-! THE REFERENCE: dissolving, a guest more -/
def dsI (V : Nat → Int32) (n : Nat) : Nat → Int32 := fun i => if i = 7 then 0 else if i = 8 then 0 else if 15 ≤ i ∧ i < 111 ∧ (i - 15) / 8 < n ∧ (i - 15) % 8 = 7 then -5 else V i
theorem dsI_0 (V : Nat → Int32) : dsI V 0 = upd (upd V 7 0) 8 0 := by
  funext j
  show (if j = 7 then 0 else if j = 8 then 0 else if 15 ≤ j ∧ j < 111 ∧ (j - 15) / 8 < 0 ∧ (j - 15) % 8 = 7 then -5 else V j) = if j = 8 then 0 else if j = 7 then 0 else V j
  by_cases e7 : j = 7
  · rw [if_pos e7, if_neg (by omega), if_pos e7]
  · rw [if_neg e7, if_neg e7, if_neg (show ¬ (15 ≤ j ∧ j < 111 ∧ (j - 15) / 8 < 0 ∧ (j - 15) % 8 = 7) from fun q => by omega)]
theorem dsI_s (V : Nat → Int32) {i : Nat} (hi : i < 12) : upd (dsI V i) (15 + 8 * i + 7) (-5) = dsI V (i + 1) := by
  funext j
  by_cases e : j = 15 + 8 * i + 7
  · rw [e, upd_s]
    unfold dsI
    rw [if_neg (by omega), if_neg (by omega), if_pos (by omega)]
  · rw [upd_n e]
    unfold dsI
    by_cases e7 : j = 7
    · rw [if_pos e7, if_pos e7]
    · rw [if_neg e7, if_neg e7]
      by_cases e8 : j = 8
      · rw [if_pos e8, if_pos e8]
      · rw [if_neg e8, if_neg e8]
        by_cases h : 15 ≤ j ∧ j < 111 ∧ (j - 15) / 8 < i ∧ (j - 15) % 8 = 7
        · rw [if_pos h, if_pos (by omega)]
        · rw [if_neg h, if_neg (by omega)]
section MAe
variable {K : hK} {H : hAH} {m : Nat} {c : Nat → Int32} {B : Nat → Nat → Int32} {Y : hY}
set_option maxRecDepth 100000 in
set_option maxHeartbeats 4000000 in
theorem l_dissolve {Q : hPost} {H0 : hAH} {V : Nat → Int32} (w : WF V) {x : Int32} (hend : ∀ H1, RMo K H1 m c (upB B 0 (dsV V)) → hFr m (m + 11) H0 H1 → Q (some (.int x)) H1) : ∀ (d i : Nat) (g : Int32) (H1 : hAH), i + d = vN V → g = nI i → RMo K H1 m c (upB B 0 (dsI V i)) → hFr m (m + 11) H0 H1 → hJ K M_Mo_dissolve (0, 0) Q 43 (0, 0) [some (.ref m), some (.int x), some (.int g)] [] H1 := by
  have hn := w.1.2
  have e0 : ∀ i, dsI V i 0 = nI (vN V) := fun i => w.1.1
  intro d
  induction d with
  | zero =>
    intro i g H1 hi hg h f
    obtain rfl : i = vN V := by omega
    have hv := h.v
    rw [upB_s] at hv
    refine hGo_sound (okc_Mo_dissolve K _ _) [43] 60 _ _ _ _ _ ?_
    exact ⟨_, h.1, 1647, _, 0, Or.inl hv, rfl, by decide, by decide, fun _ => ⟨trivial, hend H1 h f⟩, fun q => absurd (by rw [hg, e0]; exact nI_le (Nat.le_refl _) (by omega)) q⟩
  | succ d ih =>
    intro i g H1 hi hg h f
    have hv := h.v
    rw [upB_s] at hv
    refine hGo_sound (okc_Mo_dissolve K _ _) [43] 60 _ _ _ _ _ ?_
    refine ⟨_, h.1, 1647, _, 0, Or.inl hv, rfl, by decide, by decide, fun q => absurd (by rw [hg, e0] at q; exact q) (nI_ge (by omega) (by omega)), fun _ => ⟨_, h.1, _, hg ▸ c_Mo_at K H1 i 7, ?_⟩⟩
    rintro _ H1 ⟨rfl, rfl⟩
    refine ⟨1647, _, 15 + 8 * i + 7, hv, rfl, by omega, by decide, fun H2 u2 => ?_⟩
    have h2 := h.wv u2
    rw [upB_u, dsI_s V (by omega)] at h2
    exact ih (i + 1) _ H2 (by omega) (by rw [hg, nI_1]) h2 (f.trans (u2.fr' (by omega) (by omega)))
set_option maxRecDepth 100000 in
set_option maxHeartbeats 4000000 in
theorem c_Mo_dissolve (h : RMo K H m c B) (hp : MPr c B Y) (hY : YOk Y) : hCT K M_Mo_dissolve [.ref m] H 0 0 (mPost K m H (sp_dissolve Y)) := by
  have wf := hY.1
  have hV : B 0 = Y.1 := hp.1
  have h12 := two12 wf.1.2
  obtain ⟨y, hy, ey, -⟩ := wf.2.2.2.1.2
  have ecl : clp (Y.1 8) = y := by rw [ey]; exact clp_nI (by omega)
  refine hCT.go (okc_Mo_dissolve K _ _) [43] 60 (by decide +kernel) rfl rfl ?_
  refine ⟨_, h.1, _, c_Mo_isFixed h, ?_⟩
  rintro _ H ⟨rfl, rfl⟩
  rw [hV]
  refine ⟨fun hz => ?_, fun hz => ?_⟩
  · have h71 := of_decide_eq_true (b2i_n0.mp hz)
    refine ⟨_, h.1, _, c_Mo_record h hp hY, ?_⟩
    rintro _ H1 ⟨rfl, ⟨q, f, h', hp'⟩, f1⟩
    have ev : upB B 1 f 0 = Y.1 := hV
    refine ⟨_, h'.1, 1647, _, 8, Or.inl h'.v, rfl, by decide, by decide, ?_⟩
    rw [ev, ey]
    refine ⟨_, c_Mo_ones K H1 (x := y) (by omega), ?_⟩
    rintro _ H1 ⟨rfl, rfl⟩
    refine ⟨_, h'.1, 1647, _, 7, h'.v, rfl, by decide, by decide, fun H2 u2 => ?_⟩
    have h2 := h'.wv u2
    refine ⟨_, h2.1, 1647, _, 8, h2.v, rfl, by decide, by decide, fun H3 u3 => ?_⟩
    have h3 := h2.wv u3
    rw [upB_u, upB_s, ev, ← dsI_0] at h3
    refine l_dissolve (H0 := H) (B := upB B 1 f) wf (fun H4 h4 f4 => ?_) (vN Y.1) 0 _ H3 (Nat.zero_add _) rfl h3 ((f1.trans (u2.fr' (by omega) (by omega))).trans (u3.fr' (by omega) (by omega)))
    refine mA h4 (Y2 := yAct Y (dsV Y.1)) ⟨upB_s, hp'.2⟩ f4 ?_ hYeq.rfl
    rw [sp_dissolve, if_neg (fun q => q h71), ecl]
  · have h71 := of_decide_eq_false (b2i_0.mp hz)
    exact ⟨trivial, mN h hp (by rw [sp_dissolve, if_pos h71])⟩
/-- all sets meet the condition -/
def amI (V : Nat → Int32) (k i : Nat) : Nat → Int32 := fun j => if 111 + 128 * k ≤ j ∧ j < 111 + 128 * k + i then -1 else V j
theorem amI_0 (V : Nat → Int32) (k : Nat) : amI V k 0 = V := funext fun j => if_neg (fun q => by omega)
theorem amI_s (V : Nat → Int32) (k i : Nat) : upd (amI V k i) (111 + 128 * k + i) (-1) = amI V k (i + 1) := by
  funext j
  by_cases e : j = 111 + 128 * k + i
  · rw [e, upd_s]
    exact (if_pos (by omega)).symm
  · rw [upd_n e]
    unfold amI
    by_cases h : 111 + 128 * k ≤ j ∧ j < 111 + 128 * k + i
    · rw [if_pos h, if_pos (by omega)]
    · rw [if_neg h, if_neg (by omega)]
set_option maxRecDepth 100000 in
set_option maxHeartbeats 4000000 in
theorem l_allMeet {H0 : hAH} {V : Nat → Int32} {k : Nat} (hk : k < 12) : ∀ (d i : Nat) (g : Int32) (H1 : hAH), i + d = 128 → g = nI i → RMo K H1 m c (upB B 0 (amI V k i)) → hFr m (m + 11) H0 H1 → hJ K M_Mo_allMeet (0, 0) (fun r H' => r = none ∧ RMo K H' m c (upB B 0 (amI V k 128)) ∧ hFr m (m + 11) H0 H') 2 (0, 0) [some (.ref m), some (.int (nI k)), some (.int g)] [] H1 := by
  intro d
  induction d with
  | zero =>
    intro i g H1 hi hg h f
    obtain rfl : i = 128 := by omega
    refine hGo_sound (okc_Mo_allMeet K _ _) [2] 60 _ _ _ _ _ ?_
    exact ⟨fun _ => ⟨rfl, h, f⟩, fun q => absurd (by rw [hg]; exact nI_le (a := 128) (by omega) (by omega)) q⟩
  | succ d ih =>
    intro i g H1 hi hg h f
    have hix : (111 : Int32) + 128 * nI k + g = nI (111 + 128 * k + i) := by
      rw [hg]
      show nI 111 + nI 128 * nI k + nI i = _
      rw [pk_mul, nI_add, nI_add]
    refine hGo_sound (okc_Mo_allMeet K _ _) [2] 60 _ _ _ _ _ ?_
    refine ⟨fun q => absurd (by rw [hg] at q; exact q) (nI_ge (b := 128) (by omega) (by omega)), fun _ => ⟨_, h.1, 1647, _, 111 + 128 * k + i, h.v, hix, by omega, by decide, fun H2 u2 => ?_⟩⟩
    have h2 := h.wv u2
    rw [upB_u, upB_s, amI_s] at h2
    exact ih (i + 1) _ H2 (by omega) (by rw [hg, nI_1]) h2 (f.trans (u2.fr' (by omega) (by omega)))
set_option maxRecDepth 100000 in
set_option maxHeartbeats 4000000 in
theorem c_Mo_allMeet (h : RMo K H m c B) {k : Nat} (hk : k < 12) : hCT K M_Mo_allMeet [.ref m, .int (nI k)] H 0 0 (fun r H' => r = none ∧ RMo K H' m c (upB B 0 (amI (B 0) k 128)) ∧ hFr m (m + 11) H H') := by
  refine hCT.go (okc_Mo_allMeet K _ _) [2] 60 (by decide +kernel) rfl rfl ?_
  exact l_allMeet hk 128 0 _ H (by decide) rfl (by rw [amI_0, upB_id]; exact h) hFr.rfl
theorem add_eq {V : Nat → Int32} {n : Nat} (hn : n < 12) (h0 : V 0 = nI n) {l w : Int32} : upd (amI (upd (upd (upd (upd V (15 + 8 * n + 0) l) (15 + 8 * n + 1) w) (15 + 8 * n + 2) 1) (15 + 8 * n + 7) (-5)) n 128) 0 (nI n + 1) = addV V n l w := by
  funext j
  unfold addV
  by_cases e0 : j = 0
  · rw [e0, upd_s, if_pos rfl, nI_1]
  · rw [upd_n e0, if_neg e0]
    unfold amI
    by_cases a : 111 + 128 * n ≤ j ∧ j < 111 + 128 * n + 128
    · rw [if_pos a, if_neg (by omega), if_neg (by omega), if_neg (by omega), if_neg (by omega), if_pos (by omega)]
    · rw [if_neg a]
      by_cases e7 : j = 15 + 8 * n + 7
      · rw [e7, upd_s, if_neg (by omega), if_neg (by omega), if_neg (by omega), if_pos (by omega)]
      · rw [upd_n e7]
        by_cases e2 : j = 15 + 8 * n + 2
        · rw [e2, upd_s, if_neg (by omega), if_neg (by omega), if_pos (by omega)]
        · rw [upd_n e2]
          by_cases e1 : j = 15 + 8 * n + 1
          · rw [e1, upd_s, if_neg (by omega), if_pos (by omega)]
          · rw [upd_n e1]
            by_cases e00 : j = 15 + 8 * n + 0
            · rw [e00, upd_s, if_pos (by omega)]
            · rw [upd_n e00, if_neg (by omega), if_neg (by omega), if_neg (by omega), if_neg (by omega), if_neg (by omega)]
set_option maxRecDepth 100000 in
set_option maxHeartbeats 4000000 in
theorem c_Mo_addGuest (h : RMo K H m c B) (hp : MPr c B Y) (hY : YOk Y) (l w : Int32) : hCT K M_Mo_addGuest [.ref m, .int l, .int w] H 0 0 (mPost K m H (sp_addGuest Y l w)) := by
  have wf := hY.1
  have hV : B 0 = Y.1 := hp.1
  have hn := wf.1.2
  have h0 : Y.1 0 = nI (vN Y.1) := wf.1.1
  refine hCT.go (okc_Mo_addGuest K _ _) [] 120 (by decide +kernel) rfl rfl ?_
  refine ⟨_, c_Mo_in K H _ _ _, ?_⟩
  rintro _ H ⟨rfl, rfl⟩
  rw [b2i_if]
  refine ⟨fun hl => ?_, fun hl => ?_⟩
  · have hl := of_decide_eq_false (b2i_0.mp hl)
    exact ⟨trivial, mN h hp (by rw [sp_addGuest, if_pos (Or.inl hl)])⟩
  have hl := of_decide_eq_true (b2i_n0.mp hl)
  refine ⟨_, c_Mo_in K H _ _ _, ?_⟩
  rintro _ H ⟨rfl, rfl⟩
  rw [b2i_if]
  refine ⟨fun hw => ?_, fun hw => ?_⟩
  · have hw := of_decide_eq_true (b2i_n0.mp hw)
    have hnot : ¬ (¬ (0 ≤ l ∧ l ≤ 99999) ∨ ¬ (1 ≤ w ∧ w ≤ 9)) := fun q => q.elim (fun q => q hl) (fun q => q hw)
    refine ⟨_, h.1, _, c_Mo_isFixed h, ?_⟩
    rintro _ H ⟨rfl, rfl⟩
    rw [hV]
    refine ⟨fun hz => ?_, fun hz => ?_⟩
    · have h71 := of_decide_eq_false (b2i_0.mp hz)
      refine ⟨_, h.1, 1647, _, 0, Or.inl h.v, rfl, by decide, by decide, fun hne => ?_, fun heq => ?_⟩
      · rw [hV, h0] at hne
        have hn12 : vN Y.1 ≠ 12 := fun q => hne (by rw [q]; rfl)
        refine ⟨_, h.1, _, c_Mo_record h hp hY, ?_⟩
        rintro _ H1 ⟨rfl, ⟨q, f, h', hp'⟩, f1⟩
        have ev : upB B 1 f 0 = Y.1 := hV
        refine ⟨_, h'.1, 1647, _, 0, Or.inl h'.v, rfl, by decide, by decide, ?_⟩
        rw [ev, h0]
        refine ⟨_, h'.1, _, c_Mo_at K H1 (vN Y.1) 0, ?_⟩
        rintro _ H1 ⟨rfl, rfl⟩
        refine ⟨1647, _, _, h'.v, rfl, by omega, by decide, fun H2 u2 => ?_⟩
        have h2 := h'.wv u2
        refine ⟨_, h2.1, _, c_Mo_at K H2 (vN Y.1) 1, ?_⟩
        rintro _ H2 ⟨rfl, rfl⟩
        refine ⟨1647, _, _, h2.v, rfl, by omega, by decide, fun H3 u3 => ?_⟩
        have h3 := h2.wv u3
        refine ⟨_, h3.1, _, c_Mo_at K H3 (vN Y.1) 2, ?_⟩
        rintro _ H3 ⟨rfl, rfl⟩
        refine ⟨1647, _, _, h3.v, rfl, by omega, by decide, fun H4 u4 => ?_⟩
        have h4 := h3.wv u4
        refine ⟨_, h4.1, _, c_Mo_at K H4 (vN Y.1) 7, ?_⟩
        rintro _ H4 ⟨rfl, rfl⟩
        refine ⟨1647, _, _, h4.v, rfl, by omega, by decide, fun H5 u5 => ?_⟩
        have h5 := h4.wv u5
        simp only [upB_u, upB_s, ev] at h5
        refine ⟨_, h5.1, _, c_Mo_allMeet h5 (k := vN Y.1) (by omega), ?_⟩
        rintro _ H6 ⟨rfl, h6, f6⟩
        rw [upB_u, upB_s] at h6
        have e60 : amI (upd (upd (upd (upd Y.1 (15 + 8 * vN Y.1 + 0) l) (15 + 8 * vN Y.1 + 1) w) (15 + 8 * vN Y.1 + 2) 1) (15 + 8 * vN Y.1 + 7) (-5)) (vN Y.1) 128 0 = nI (vN Y.1) := by
          unfold amI
          rw [if_neg (by omega), upd_n (by omega), upd_n (by omega), upd_n (by omega), upd_n (by omega), h0]
        refine ⟨_, h6.1, 1647, _, 0, Or.inl h6.v, rfl, by decide, by decide, 1647, _, 0, h6.v, rfl, by decide, by decide, fun H7 u7 => ⟨trivial, ?_⟩⟩
        have h7 := h6.wv u7
        rw [upB_u, upB_s, e60, add_eq (by omega) h0] at h7
        have f25 : hFr m (m + 11) H1 H5 := (((u2.fr' (by omega) (by omega)).trans (u3.fr' (by omega) (by omega))).trans (u4.fr' (by omega) (by omega))).trans (u5.fr' (by omega) (by omega))
        refine mA h7 (Y2 := yAct Y (addV Y.1 (vN Y.1) l w)) ⟨upB_s, hp'.2⟩ (((f1.trans f25).trans f6).trans (u7.fr' (by omega) (by omega))) ?_ hYeq.rfl
        rw [sp_addGuest, if_neg hnot, if_neg h71, if_neg hn12]
      · rw [hV, h0] at heq
        have hn12 : vN Y.1 = 12 := nI_inj (by omega) (by decide) heq
        exact ⟨trivial, mN h hp (by rw [sp_addGuest, if_neg hnot, if_neg h71, if_pos hn12])⟩
    · have h71 := of_decide_eq_true (b2i_n0.mp hz)
      exact ⟨trivial, mN h hp (by rw [sp_addGuest, if_neg hnot, if_pos h71])⟩
  · have hw := of_decide_eq_false (b2i_0.mp hw)
    exact ⟨trivial, mN h hp (by rw [sp_addGuest, if_pos (Or.inr hw)])⟩
end MAe
