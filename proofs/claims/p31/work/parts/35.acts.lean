/-! THE CLASS: its acts -/
def hSetK (K : hK) : Prop := K.2.2.2.2.2 (K.2.2.2.2.1 1) = some (5, setLo) ∧ K.2.2.2.2.2 (K.2.2.2.2.1 2) = some (5, setHi)
theorem RGu.put {K : hK} {H H' : hAH} {g : Nat} {G G' T : Nat → Int32} {c : va_E} (h : RGu K H g G T) (u : hUpd H g c H') (hc : c = guCell (g + 1) G') : RGu K H' g G' T := by
  subst hc
  exact ⟨u.2.1, (u.2.2 _ (by omega)).trans h.2⟩
section AC
variable {K : hK} {H : hAH} {b : Nat} {Y : hY} {S N : Nat → Nat → Int32} {π : Nat → Nat} {D : Nat → Nat → Nat → Int32} {C : Nat → Int32} {P : Nat → Nat} {T : Nat → Int32} {lr : Int32} {Z : Nat → Nat → Int32}
theorem cA {H' : hAH} {Y' : hY} {x : Int32} {a : Ans} (h : CP K H' b Y') (f : hFr b (b + 175) H H') (e : a = (x, Y')) : cPost K b H a (some (.int x)) H' := by
  subst e
  exact ⟨rfl, h, f⟩
theorem cN (h : CPx K H b Y S N π D C P T lr Z) {x : Int32} {a : Ans} (e : a = (x, Y)) : cPost K b H a (some (.int x)) H := cA h.cp hFr.rfl e
theorem rec_enc {z : Nat} {V : Nat → Int32} {Hs : Nat → Nat → Int32} {S' : Nat → Nat → Int32} (hp : hPm π) (hz : z ≤ 4) (h : ∀ i, i < z → Enc (D (π i)) (Hs i)) (e : Enc S' V) : ∀ i, i < (if z = 4 then 4 else z + 1) → Enc (hiD D ((if z = 4 then rot π else π) (if z = 4 then 3 else z)) S' ((if z = 4 then rot π else π) i)) (recH V z Hs i) := by
  intro i hi
  unfold recH
  by_cases e4 : z = 4
  · rw [if_pos e4] at hi
    rw [if_pos e4, if_pos e4, if_pos e4]
    by_cases e3 : i = 3
    · rw [if_pos e3, e3]
      unfold hiD
      rw [if_pos rfl]
      exact e
    · rw [if_neg e3]
      unfold hiD
      rw [if_neg (fun q => e3 (hp.rotd.2 i hi 3 (by decide) q))]
      have : rot π i = π (i + 1) := if_neg e3
      rw [this]
      exact h (i + 1) (by omega)
  · rw [if_neg e4] at hi
    rw [if_neg e4, if_neg e4, if_neg e4]
    by_cases ez : i = z
    · rw [if_pos ez, ez]
      unfold hiD
      rw [if_pos rfl]
      exact e
    · rw [if_neg ez]
      unfold hiD
      rw [if_neg (fun q => ez (hp.2 i (by omega) z (by omega) q))]
      exact h i (by omega)
theorem c_rec (h : CPx K H b Y S N π D C P T lr Z) (hY : YOk Y) : hCT K M_Hi_record [.ref (b + 28), .ref (b + 1)] H 0 0 (fun r H' => r = none ∧ (∃ π' D', CPx K H' b (yRec Y) S N π' D' C P T lr Z) ∧ hFr b (b + 175) H H') := by
  obtain ⟨h1, ⟨h2, h3⟩, ⟨h4, h5, h6⟩, ⟨h7, h8⟩, ⟨h9, h10⟩, h11, h12⟩ := h
  refine (c_Hi_record h4 h5 hY.2.1 h2 (h3.sok hY.1) (by omega)).mono ?_
  rintro r H' ⟨rfl, ⟨S', π', hc, rfl, hR⟩, f⟩
  refine ⟨rfl, ⟨_, _, (f.2 _ (by omega)).trans h1, ⟨h2.fr f (by omega), h3⟩, ⟨hR, ?_, rec_enc h5 hY.2.1 h6 (h3.cp hc)⟩, ⟨h7.fr f (by omega), h8⟩, ⟨(f.2 _ (by omega)).trans h9, h10⟩, ⟨(f.2 _ (by omega)).trans h11.1, (f.2 _ (by omega)).trans h11.2⟩, h12.fr f (by omega)⟩, f.wide (by omega) (by omega)⟩
  split
  · exact h5.rotd
  · exact h5
theorem CPx.now {H1 : hAH} {S' : Nat → Nat → Int32} {V' : Nat → Int32} (h : CPx K H b Y S N π D C P T lr Z) (hR : RSt K H1 (b + 1) S') (f : hFr (b + 1) (b + 28) H H1) (e : Enc S' V') : CPx K H1 b (yV Y V') S' N π D C P T lr Z := by
  obtain ⟨h1, ⟨h2, h3⟩, ⟨h4, h5, h6⟩, ⟨h7, h8⟩, ⟨h9, h10⟩, h11, h12⟩ := h
  exact ⟨(f.2 _ (by omega)).trans h1, ⟨hR, e⟩, ⟨h4.fr f (by omega), h5, h6⟩, ⟨h7.fr f (by omega), h8⟩, ⟨(f.2 _ (by omega)).trans h9, h10⟩, ⟨(f.2 _ (by omega)).trans h11.1, (f.2 _ (by omega)).trans h11.2⟩, h12.fr f (by omega)⟩
theorem CPx.f7 (h : CPx K H b Y S N π D C P T lr Z) : S 0 2 = Y.1 7 := h.2.1.2.1.2.2.1
set_option maxRecDepth 100000 in
set_option maxHeartbeats 4000000 in
theorem c_addGuest (h : CPx K H b Y S N π D C P T lr Z) (hY : YOk Y) (l w : Int32) : hCT K M_Pa_addGuest [.ref b, .int l, .int w] H 0 0 (cPost K b H (sp_addGuest Y l w)) := by
  have wf := hY.1
  obtain ⟨h1, ⟨h2, h3⟩, -⟩ := id h
  have hn := wf.1.2
  have e7 := h.f7
  refine hCT.go (okc_Pa_addGuest K _ _) [] 60 (by decide +kernel) rfl rfl ?_
  refine ⟨_, c_Pa_isWithin K H _ _ _, ?_⟩
  rintro _ H ⟨rfl, rfl⟩
  rw [b2i_if]
  refine ⟨fun hl => ?_, fun hl => ?_⟩
  · have hl := of_decide_eq_false (b2i_0.mp hl)
    exact ⟨trivial, cN h (by rw [sp_addGuest, if_pos (Or.inl hl)])⟩
  have hl := of_decide_eq_true (b2i_n0.mp hl)
  refine ⟨_, c_Pa_isWithin K H _ _ _, ?_⟩
  rintro _ H ⟨rfl, rfl⟩
  rw [b2i_if]
  refine ⟨fun hw => ?_, fun hw => ?_⟩
  · have hw := of_decide_eq_true (b2i_n0.mp hw)
    have hnot : ¬ (¬ (0 ≤ l ∧ l ≤ 99999) ∨ ¬ (1 ≤ w ∧ w ≤ 9)) := fun q => q.elim (fun q => q hl) (fun q => q hw)
    refine ⟨_, h1, _, h2.1, fun hz => ?_, fun hz => ?_⟩
    · rw [e7] at hz
      have h71 : ¬ Y.1 7 = 1 := by rw [hz]; decide
      refine ⟨_, h1, _, h2.1, fun hlt => ?_, fun hge => ?_⟩
      · have e0 : S 0 0 = nI (vN Y.1) := h3.1.1.trans wf.1.1
        rw [e0] at hlt
        have hn12 : vN Y.1 < 12 := Nat.lt_of_not_le fun q => nI_nlt (b := 12) q (by omega) hlt
        refine ⟨_, h1, _, h1, _, h.2.2.1.1.1, _, c_rec h hY, ?_⟩
        rintro _ H1 ⟨rfl, ⟨π', D', h'⟩, f1⟩
        obtain ⟨h1', ⟨h2', -⟩, -⟩ := id h'
        refine ⟨_, h1', _, h2'.1, _, c_add l w h2' e0 hn12, ?_⟩
        rintro _ H2 ⟨rfl, hR2, f2⟩
        exact ⟨trivial, cA (h'.now hR2 (f2.wide (by omega) (by omega)) (h3.ad wf hn12 l w)).cp (f1.trans (f2.wide (by omega) (by omega))) (by rw [sp_addGuest, if_neg hnot, if_neg h71, if_neg (by omega)]; rfl)⟩
      · have e0 : S 0 0 = nI (vN Y.1) := h3.1.1.trans wf.1.1
        rw [e0] at hge
        have hn12 : vN Y.1 = 12 := Nat.le_antisymm hn (Nat.le_of_not_lt fun q => hge (nI_lt (b := 12) q (by omega)))
        exact ⟨trivial, cN h (by rw [sp_addGuest, if_neg hnot, if_neg h71, if_pos hn12])⟩
    · rw [e7] at hz
      have h71 : Y.1 7 = 1 := wf.2.2.2.1.1.resolve_left hz
      exact ⟨trivial, cN h (by rw [sp_addGuest, if_neg hnot, if_pos h71])⟩
  · have hw := of_decide_eq_false (b2i_0.mp hw)
    exact ⟨trivial, cN h (by rw [sp_addGuest, if_pos (Or.inr hw)])⟩
set_option maxRecDepth 100000 in
set_option maxHeartbeats 4000000 in
theorem c_setLimit (h : CPx K H b Y S N π D C P T lr Z) (hY : YOk Y) (g l : Int32) : hCT K M_Pa_setLimit [.ref b, .int g, .int l] H 0 0 (cPost K b H (sp_setLimit Y g l)) := by
  have wf := hY.1
  obtain ⟨h1, ⟨h2, h3⟩, -⟩ := id h
  have hs := h3.sok wf
  have hn := wf.1.2
  have e7 := h.f7
  refine hCT.go (okc_Pa_setLimit K _ _) [] 60 (by decide +kernel) rfl rfl ?_
  by_cases hg : gOk Y.1 g
  · obtain ⟨k, hk, rfl⟩ := (gOk_iff wf).mp hg
    have ek : clp (nI k) = k := clp_nI (by omega)
    refine ⟨_, h1, _, h2.1, _, c_find_lt h2 hs.1 hs.2.1 hk, ?_⟩
    rintro _ H ⟨rfl, rfl⟩
    refine ⟨_, c_Pa_isWithin K H _ _ _, ?_⟩
    rintro _ H ⟨rfl, rfl⟩
    rw [b2i_if]
    refine ⟨fun hl => ?_, fun hl => ?_⟩
    · have hl := of_decide_eq_true (b2i_n0.mp hl)
      refine ⟨_, h1, _, h2.1, fun hz => ?_, fun hz => ?_⟩
      · rw [e7] at hz
        have h71 : ¬ Y.1 7 = 1 := by rw [hz]; decide
        have hR := h2.2.2.2 k (by omega)
        have g0 : S (2 + k) 0 = vG Y.1 k 0 := (h3.2.2 k hk).1.1
        refine ⟨_, hR.1, fun hne => ?_, fun heq => ?_⟩
        · rw [g0] at hne
          refine ⟨_, h1, _, h1, _, h.2.2.1.1.1, _, c_rec h hY, ?_⟩
          rintro _ H1 ⟨rfl, ⟨π', D', h'⟩, f1⟩
          obtain ⟨h1', ⟨h2', -⟩, -⟩ := id h'
          have hR' := h2'.2.2.2 k (by omega)
          refine ⟨_, hR'.1, trivial, fun H2 u2 => ?_⟩
          have hg2 : RGu K H2 (b + 1 + 3 + 2 * k) (upd (S (2 + k)) 0 l) (S (14 + k)) := hR'.put u2 rfl
          have f2 : hFr (b + 1 + 3 + 2 * k) (b + 1 + 3 + 2 * k + 2) H1 H2 := u2.fr' (by omega) (by omega)
          have hR2 := h2'.gu (by omega) hg2 f2
          have en := h3.gu hk hn (c := 0) (by decide) l
          have h'' := h'.now hR2 (f2.wide (by omega) (by omega)) en
          obtain ⟨h1'', ⟨h2'', -⟩, -⟩ := id h''
          refine ⟨_, h1'', _, h2''.1, _, c_chargeIfLate h2'' (by omega), ?_⟩
          rintro _ H3 ⟨rfl, hR3, f3⟩
          refine ⟨trivial, ?_⟩
          rw [g0]
          refine cA (h''.now hR3 (f3.wide (by omega) (by omega)) (en.ch (by rw [vN_n (by omega)]; exact hk) (by rw [vN_n (by omega)]; exact hn))).cp ((f1.trans (f2.wide (by omega) (by omega))).trans (f3.wide (by omega) (by omega))) ?_
          rw [sp_setLimit, if_neg (fun q => q hg), if_neg (fun q => q hl), if_neg h71, ek, if_neg hne]
          rfl
        · rw [g0] at heq
          exact ⟨trivial, cN h (by rw [sp_setLimit, if_neg (fun q => q hg), if_neg (fun q => q hl), if_neg h71, ek, if_pos heq])⟩
      · rw [e7] at hz
        have h71 : Y.1 7 = 1 := wf.2.2.2.1.1.resolve_left hz
        exact ⟨trivial, cN h (by rw [sp_setLimit, if_neg (fun q => q hg), if_neg (fun q => q hl), if_pos h71])⟩
    · have hl := of_decide_eq_false (b2i_0.mp hl)
      exact ⟨trivial, cN h (by rw [sp_setLimit, if_neg (fun q => q hg), if_pos hl])⟩
  · refine ⟨_, h1, _, h2.1, _, c_find_no h2 hs.1 hs.2.1 (gOk_no wf hg), ?_⟩
    rintro _ H ⟨rfl, rfl⟩
    exact ⟨trivial, cN h (by rw [sp_setLimit, if_pos hg])⟩
set_option maxRecDepth 100000 in
set_option maxHeartbeats 4000000 in
theorem c_setWeight (h : CPx K H b Y S N π D C P T lr Z) (hY : YOk Y) (g l : Int32) : hCT K M_Pa_setWeight [.ref b, .int g, .int l] H 0 0 (cPost K b H (sp_setWeight Y g l)) := by
  have wf := hY.1
  obtain ⟨h1, ⟨h2, h3⟩, -⟩ := id h
  have hs := h3.sok wf
  have hn := wf.1.2
  have e7 := h.f7
  refine hCT.go (okc_Pa_setWeight K _ _) [] 60 (by decide +kernel) rfl rfl ?_
  by_cases hg : gOk Y.1 g
  · obtain ⟨k, hk, rfl⟩ := (gOk_iff wf).mp hg
    have ek : clp (nI k) = k := clp_nI (by omega)
    refine ⟨_, h1, _, h2.1, _, c_find_lt h2 hs.1 hs.2.1 hk, ?_⟩
    rintro _ H ⟨rfl, rfl⟩
    refine ⟨_, c_Pa_isWithin K H _ _ _, ?_⟩
    rintro _ H ⟨rfl, rfl⟩
    rw [b2i_if]
    refine ⟨fun hl => ?_, fun hl => ?_⟩
    · have hl := of_decide_eq_true (b2i_n0.mp hl)
      refine ⟨_, h1, _, h2.1, fun hz => ?_, fun hz => ?_⟩
      · rw [e7] at hz
        have h71 : ¬ Y.1 7 = 1 := by rw [hz]; decide
        have hR := h2.2.2.2 k (by omega)
        have g0 : S (2 + k) 1 = vG Y.1 k 1 := (h3.2.2 k hk).1.2.1
        refine ⟨_, hR.1, fun hne => ?_, fun heq => ?_⟩
        · rw [g0] at hne
          refine ⟨_, h1, _, h1, _, h.2.2.1.1.1, _, c_rec h hY, ?_⟩
          rintro _ H1 ⟨rfl, ⟨π', D', h'⟩, f1⟩
          obtain ⟨h1', ⟨h2', -⟩, -⟩ := id h'
          have hR' := h2'.2.2.2 k (by omega)
          refine ⟨_, hR'.1, trivial, fun H2 u2 => ?_⟩
          have hg2 : RGu K H2 (b + 1 + 3 + 2 * k) (upd (S (2 + k)) 1 l) (S (14 + k)) := hR'.put u2 rfl
          have f2 : hFr (b + 1 + 3 + 2 * k) (b + 1 + 3 + 2 * k + 2) H1 H2 := u2.fr' (by omega) (by omega)
          have hR2 := h2'.gu (by omega) hg2 f2
          have en := h3.gu hk hn (c := 1) (by decide) l
          rw [show 15 + 8 * k + 1 = 16 + 8 * k by omega] at en
          refine ⟨trivial, ?_⟩
          rw [g0]
          refine cA (h'.now hR2 (f2.wide (by omega) (by omega)) en).cp (f1.trans (f2.wide (by omega) (by omega))) ?_
          rw [sp_setWeight, if_neg (fun q => q hg), if_neg (fun q => q hl), if_neg h71, ek, if_neg hne]
          rfl
        · rw [g0] at heq
          exact ⟨trivial, cN h (by rw [sp_setWeight, if_neg (fun q => q hg), if_neg (fun q => q hl), if_neg h71, ek, if_pos heq])⟩
      · rw [e7] at hz
        have h71 : Y.1 7 = 1 := wf.2.2.2.1.1.resolve_left hz
        exact ⟨trivial, cN h (by rw [sp_setWeight, if_neg (fun q => q hg), if_neg (fun q => q hl), if_pos h71])⟩
    · have hl := of_decide_eq_false (b2i_0.mp hl)
      exact ⟨trivial, cN h (by rw [sp_setWeight, if_neg (fun q => q hg), if_pos hl])⟩
  · refine ⟨_, h1, _, h2.1, _, c_find_no h2 hs.1 hs.2.1 (gOk_no wf hg), ?_⟩
    rintro _ H ⟨rfl, rfl⟩
    exact ⟨trivial, cN h (by rw [sp_setWeight, if_pos hg])⟩
set_option maxRecDepth 100000 in
set_option maxHeartbeats 4000000 in
theorem c_invite (h : CPx K H b Y S N π D C P T lr Z) (hY : YOk Y) (g l : Int32) (hl : l = 0 ∨ l = 1) : hCT K M_Pa_invite [.ref b, .int g, .int l] H 0 0 (cPost K b H (sp_invite Y g l)) := by
  have wf := hY.1
  obtain ⟨h1, ⟨h2, h3⟩, -⟩ := id h
  have hs := h3.sok wf
  have hn := wf.1.2
  have e7 := h.f7
  refine hCT.go (okc_Pa_invite K _ _) [] 60 (by decide +kernel) rfl rfl ?_
  by_cases hg : gOk Y.1 g
  · obtain ⟨k, hk, rfl⟩ := (gOk_iff wf).mp hg
    have ek : clp (nI k) = k := clp_nI (by omega)
    refine ⟨_, h1, _, h2.1, _, c_find_lt h2 hs.1 hs.2.1 hk, ?_⟩
    rintro _ H ⟨rfl, rfl⟩
    refine ⟨_, h1, _, h2.1, fun hz => ?_, fun hz => ?_⟩
    · rw [e7] at hz
      have h71 : ¬ Y.1 7 = 1 := by rw [hz]; decide
      have hR := h2.2.2.2 k (by omega)
      have g0 : S (2 + k) 2 = vG Y.1 k 2 := (h3.2.2 k hk).1.2.2.1
      refine ⟨_, hR.1, fun hne => ?_, fun heq => ?_⟩
      · rw [g0] at hne
        refine ⟨_, h1, _, h1, _, h.2.2.1.1.1, _, c_rec h hY, ?_⟩
        rintro _ H1 ⟨rfl, ⟨π', D', h'⟩, f1⟩
        obtain ⟨h1', ⟨h2', -⟩, -⟩ := id h'
        have hR' := h2'.2.2.2 k (by omega)
        refine ⟨_, hR'.1, hl, fun H2 u2 => ?_⟩
        have hg2 : RGu K H2 (b + 1 + 3 + 2 * k) (upd (S (2 + k)) 2 l) (S (14 + k)) := hR'.put u2 rfl
        have f2 : hFr (b + 1 + 3 + 2 * k) (b + 1 + 3 + 2 * k + 2) H1 H2 := u2.fr' (by omega) (by omega)
        have hR2 := h2'.gu (by omega) hg2 f2
        have en := h3.gu hk hn (c := 2) (by decide) l
        have wf2 := wf.gu hk (c := 2) (by decide) (v := l) (fun q => absurd q (by decide)) (fun q => absurd q (by decide)) (fun _ => hl)
        rw [show 15 + 8 * k + 2 = 17 + 8 * k by omega] at en wf2
        have h'' := h'.now hR2 (f2.wide (by omega) (by omega)) en
        obtain ⟨h1'', ⟨h2'', -⟩, -⟩ := id h''
        refine ⟨_, h1'', _, h2''.1, _, c_chargeIfLate h2'' (by omega), ?_⟩
        rintro _ H3 ⟨rfl, hR3, f3⟩
        have hk2 : k < vN (upd Y.1 (17 + 8 * k) l) := by rw [vN_n (by omega)]; exact hk
        have en3 := en.ch hk2 (by rw [vN_n (by omega)]; exact hn)
        have wf3 := wf2.ch hk2
        have hs3 := en3.sok wf3
        have h3'' := h''.now hR3 (f3.wide (by omega) (by omega)) en3
        obtain ⟨h1f, ⟨h2f, -⟩, -⟩ := id h3''
        refine ⟨_, h1f, _, h2f.1, _, en3.inv ▸ c_invitedGuests h2f hs3.1 hs3.2.1, ?_⟩
        rintro _ H3 ⟨rfl, rfl⟩
        refine ⟨_, c_pop K H3 (setOf_12 _), ?_⟩
        rintro _ H3 ⟨rfl, rfl⟩
        refine ⟨trivial, ?_⟩
        refine cA h3''.cp ((f1.trans (f2.wide (by omega) (by omega))).trans (f3.wide (by omega) (by omega))) ?_
        rw [sp_invite, if_neg (fun q => q hg), if_neg h71, ek, if_neg hne]
        rfl
      · rw [g0] at heq
        exact ⟨trivial, cN h (by rw [sp_invite, if_neg (fun q => q hg), if_neg h71, ek, if_pos heq])⟩
    · rw [e7] at hz
      have h71 : Y.1 7 = 1 := wf.2.2.2.1.1.resolve_left hz
      exact ⟨trivial, cN h (by rw [sp_invite, if_neg (fun q => q hg), if_pos h71])⟩
  · refine ⟨_, h1, _, h2.1, _, c_find_no h2 hs.1 hs.2.1 (gOk_no wf hg), ?_⟩
    rintro _ H ⟨rfl, rfl⟩
    exact ⟨trivial, cN h (by rw [sp_invite, if_pos hg])⟩
set_option maxRecDepth 100000 in
set_option maxHeartbeats 4000000 in
theorem c_set (h : CPx K H b Y S N π D C P T lr Z) (hY : YOk Y) (hK' : hSetK K) (x v : Int32) : hCT K M_Pa_set [.ref b, .int x, .int v] H 0 0 (cPost K b H (sp_set Y x v)) := by
  have wf := hY.1
  obtain ⟨h1, ⟨h2, h3⟩, -⟩ := id h
  have e7 := h.f7
  refine hCT.go (okc_Pa_set K _ _) [] 60 (by decide +kernel) rfl rfl ?_
  refine ⟨_, c_Pa_isWithin K H _ _ _, ?_⟩
  rintro _ H ⟨rfl, rfl⟩
  rw [b2i_if]
  refine ⟨fun hw => ?_, fun hw => ?_⟩
  · have hw := of_decide_eq_false (b2i_0.mp hw)
    exact ⟨trivial, cN h (by rw [sp_set, if_pos hw])⟩
  · have hw := of_decide_eq_true (b2i_n0.mp hw)
    obtain ⟨j, hj, rfl⟩ := nI_of2 (M := 4) (n := 4) (by decide) (Int32.not_lt.mpr hw.1) hw.2
    have ej : clp (nI j) = j := clp_nI (by omega)
    have hj5 : j < 5 := by omega
    refine ⟨5, _, j, Or.inr hK'.1, rfl, hj5, by decide, 5, _, j, Or.inr hK'.2, rfl, hj5, by decide, _, c_Pa_isWithin K H _ _ _, ?_⟩
    rintro _ H ⟨rfl, rfl⟩
    rw [b2i_if]
    refine ⟨fun hv => ?_, fun hv => ?_⟩
    · have hv := of_decide_eq_true (b2i_n0.mp hv)
      refine ⟨_, h1, _, h2.1, fun hz => ?_, fun hz => ?_⟩
      · rw [e7] at hz
        have h71 : ¬ Y.1 7 = 1 := by rw [hz]; decide
        have es : S 1 j = Y.1 (2 + j) := h3.2.1 j hj5
        refine ⟨_, h1, _, h2.1, 5, _, j, Or.inl h2.2.2.1, rfl, hj5, by decide, fun hne => ?_, fun heq => ?_⟩
        · rw [es] at hne
          refine ⟨_, h1, _, h1, _, h.2.2.1.1.1, _, c_rec h hY, ?_⟩
          rintro _ H1 ⟨rfl, ⟨π', D', h'⟩, f1⟩
          obtain ⟨h1', ⟨h2', -⟩, -⟩ := id h'
          refine ⟨_, h1', _, h2'.1, 5, _, j, h2'.2.2.1, rfl, hj5, by decide, fun H2 u2 => ⟨trivial, ?_⟩⟩
          rw [es]
          have f2 : hFr (b + 1) (b + 28) H1 H2 := u2.fr' (by omega) (by omega)
          refine cA (h'.now (h2'.se u2) f2 (h3.set hj5 v)).cp (f1.trans (f2.wide (by omega) (by omega))) ?_
          rw [sp_set, if_neg (fun q => q hw), ej, if_neg (fun q => q hv), if_neg h71, if_neg hne]
          rfl
        · rw [es] at heq
          exact ⟨trivial, cN h (by rw [sp_set, if_neg (fun q => q hw), ej, if_neg (fun q => q hv), if_neg h71, if_pos heq])⟩
      · rw [e7] at hz
        have h71 : Y.1 7 = 1 := wf.2.2.2.1.1.resolve_left hz
        exact ⟨trivial, cN h (by rw [sp_set, if_neg (fun q => q hw), ej, if_neg (fun q => q hv), if_pos h71])⟩
    · have hv := of_decide_eq_false (b2i_0.mp hv)
      exact ⟨trivial, cN h (by rw [sp_set, if_neg (fun q => q hw), ej, if_pos hv])⟩
set_option maxRecDepth 100000 in
set_option maxHeartbeats 4000000 in
theorem c_pass (h : CPx K H b Y S N π D C P T lr Z) (hY : YOk Y) (d : Int32) : hCT K M_Pa_pass [.ref b, .int d] H 0 0 (cPost K b H (sp_pass Y d)) := by
  have wf := hY.1
  obtain ⟨h1, ⟨h2, h3⟩, -⟩ := id h
  have e1 : S 0 1 = Y.1 1 := h3.1.2.1
  refine hCT.go (okc_Pa_pass K _ _) [] 60 (by decide +kernel) rfl rfl ?_
  refine ⟨_, c_Pa_isWithin K H _ _ _, ?_⟩
  rintro _ H ⟨rfl, rfl⟩
  rw [b2i_if]
  refine ⟨fun hd => ?_, fun hd => ?_⟩
  · have hd := of_decide_eq_true (b2i_n0.mp hd)
    refine ⟨_, h1, _, h2.1, fun hle => ?_, fun hgt => ?_⟩
    · rw [e1] at hle
      refine ⟨_, h1, _, h1, _, h.2.2.1.1.1, _, c_rec h hY, ?_⟩
      rintro _ H1 ⟨rfl, ⟨π', D', h'⟩, f1⟩
      obtain ⟨h1', ⟨h2', -⟩, -⟩ := id h'
      refine ⟨_, h1', _, h2'.1, _, h2'.1, trivial, fun H2 u2 => ?_⟩
      have f2 : hFr (b + 1) (b + 28) H1 H2 := u2.fr' (by omega) (by omega)
      have hR2 : RSt K H2 (b + 1) (sOb S (upd (S 0) 1 (S 0 1 + d))) := h2'.ob u2 rfl
      have h'' := h'.now hR2 f2 (h3.pass (S 0 1 + d))
      obtain ⟨h1'', ⟨h2'', -⟩, -⟩ := id h''
      refine ⟨_, h1'', _, h2''.1, trivial, ?_⟩
      refine cA h''.cp (f1.trans (f2.wide (by omega) (by omega))) ?_
      rw [sp_pass, if_neg (fun q => q hd), if_neg (Int32.not_lt.mpr hle), e1]
      rfl
    · rw [e1] at hgt
      exact ⟨trivial, cN h (by rw [sp_pass, if_neg (fun q => q hd), if_pos (Int32.not_le.mp hgt)])⟩
  · have hd := of_decide_eq_false (b2i_0.mp hd)
    exact ⟨trivial, cN h (by rw [sp_pass, if_pos hd])⟩
set_option maxRecDepth 100000 in
set_option maxHeartbeats 4000000 in
theorem c_fix (h : CPx K H b Y S N π D C P T lr Z) (hY : YOk Y) : hCT K M_Pa_fix [.ref b] H 0 0 (cPost K b H (sp_fix Y)) := by
  have wf := hY.1
  obtain ⟨h1, ⟨h2, h3⟩, -⟩ := id h
  have hs := h3.sok wf
  have e7 := h.f7
  have h12 := two12 wf.1.2
  refine hCT.go (okc_Pa_fix K _ _) [] 60 (by decide +kernel) rfl rfl ?_
  refine ⟨_, h1, _, h2.1, fun hz => ?_, fun hz => ?_⟩
  · rw [e7] at hz
    have h71 : ¬ Y.1 7 = 1 := by rw [hz]; decide
    have hlt := ch_lt wf
    refine ⟨_, h1, _, c_Pa_chosen h hY, ?_⟩
    rintro _ H0 ⟨rfl, ⟨lr', Z', h0⟩, f0⟩
    refine ⟨fun hc => ?_, fun hc => ?_⟩
    · refine ⟨_, h0.1, _, h0.1, _, h0.2.2.1.1.1, _, c_rec h0 hY, ?_⟩
      rintro _ H1 ⟨rfl, ⟨π', D', h'⟩, f1⟩
      obtain ⟨h1', ⟨h2', -⟩, -⟩ := id h'
      refine ⟨_, h1', _, h2'.1, _, c_fixCompany h2' hs.1 hs.2.1 (show vCh Y.1 < 4096 by omega), ?_⟩
      rintro _ H2 ⟨rfl, hR2, f2⟩
      refine ⟨trivial, ?_⟩
      rw [fxP_eq h3]
      refine cA (h'.now hR2 (f2.wide (by omega) (by omega)) (h3.fx wf.1.2)).cp ((f0.trans f1).trans (f2.wide (by omega) (by omega))) ?_
      rw [sp_fix, if_neg h71, if_neg (fun q => hc (by rw [q]; rfl))]
      rfl
    · have hc : vCh Y.1 = 0 := (ieq (n := 0) (by omega) (by decide)).mp hc
      exact ⟨trivial, cA h0.cp f0 (by rw [sp_fix, if_neg h71, if_pos hc])⟩
  · rw [e7] at hz
    have h71 : Y.1 7 = 1 := wf.2.2.2.1.1.resolve_left hz
    exact ⟨trivial, cN h (by rw [sp_fix, if_pos h71])⟩
set_option maxRecDepth 100000 in
set_option maxHeartbeats 4000000 in
theorem c_cancel (h : CPx K H b Y S N π D C P T lr Z) (hY : YOk Y) (g : Int32) : hCT K M_Pa_cancel [.ref b, .int g] H 0 0 (cPost K b H (sp_cancel Y g)) := by
  have wf := hY.1
  obtain ⟨h1, ⟨h2, h3⟩, -⟩ := id h
  have hs := h3.sok wf
  have hn := wf.1.2
  have e7 := h.f7
  have e8 : S 0 3 = Y.1 8 := h3.1.2.2.2.1
  have h12 := two12 hn
  obtain ⟨y, hy, ey, -⟩ := wf.2.2.2.1.2
  have ecl : clp (Y.1 8) = y := by rw [ey]; exact clp_nI (by omega)
  refine hCT.go (okc_Pa_cancel K _ _) [] 60 (by decide +kernel) rfl rfl ?_
  by_cases hg : gOk Y.1 g
  · obtain ⟨k, hk, rfl⟩ := (gOk_iff wf).mp hg
    have ek : clp (nI k) = k := clp_nI (by omega)
    refine ⟨_, h1, _, h2.1, _, c_find_lt h2 hs.1 hs.2.1 hk, ?_⟩
    rintro _ H ⟨rfl, rfl⟩
    refine ⟨_, h1, _, h2.1, fun hz => ?_, fun hz => ?_⟩
    · rw [e7] at hz
      have h71 : ¬ Y.1 7 = 1 := by rw [hz]; decide
      exact ⟨trivial, cN h (by rw [sp_cancel, if_neg (fun q => q hg), if_pos (Or.inl h71)])⟩
    · rw [e7] at hz
      have h71 : Y.1 7 = 1 := wf.2.2.2.1.1.resolve_left hz
      refine ⟨_, h1, _, h2.1, _, (e8.trans ey) ▸ c_isIn K H y (k := k) (by omega), ?_⟩
      rintro _ H ⟨rfl, rfl⟩
      refine ⟨fun hb => ?_, fun hb => ?_⟩
      · have hb := b2i_n0.mp hb
        refine ⟨_, h1, _, h1, _, h.2.2.1.1.1, _, c_rec h hY, ?_⟩
        rintro _ H1 ⟨rfl, ⟨π', D', h'⟩, f1⟩
        obtain ⟨h1', ⟨h2', -⟩, -⟩ := id h'
        refine ⟨_, h1', _, h2'.1, _, c_letCancel h2' hs (show y < 4096 by omega) (e8.trans ey) (show k < 12 by omega), ?_⟩
        rintro _ H2 ⟨rfl, hR2, f2⟩
        obtain ⟨en, e2, -⟩ := h3.lc hn (show y < 4096 by omega) (e8.trans ey) k 12
        refine ⟨trivial, ?_⟩
        rw [e2]
        refine cA (h'.now hR2 (f2.wide (by omega) (by omega)) en).cp (f1.trans (f2.wide (by omega) (by omega))) ?_
        rw [sp_cancel, if_neg (fun q => q hg), ecl, ek, if_neg (fun q => q.elim (fun q => q h71) (fun q => by rw [hb] at q; cases q))]
        rfl
      · have hb := b2i_0.mp hb
        exact ⟨trivial, cN h (by rw [sp_cancel, if_neg (fun q => q hg), ecl, ek, if_pos (Or.inr hb)])⟩
  · refine ⟨_, h1, _, h2.1, _, c_find_no h2 hs.1 hs.2.1 (gOk_no wf hg), ?_⟩
    rintro _ H ⟨rfl, rfl⟩
    exact ⟨trivial, cN h (by rw [sp_cancel, if_pos hg])⟩
set_option maxRecDepth 100000 in
set_option maxHeartbeats 4000000 in
theorem c_dissolve (h : CPx K H b Y S N π D C P T lr Z) (hY : YOk Y) : hCT K M_Pa_dissolve [.ref b] H 0 0 (cPost K b H (sp_dissolve Y)) := by
  have wf := hY.1
  obtain ⟨h1, ⟨h2, h3⟩, -⟩ := id h
  have hs := h3.sok wf
  have e7 := h.f7
  have e8 : S 0 3 = Y.1 8 := h3.1.2.2.2.1
  have h12 := two12 wf.1.2
  obtain ⟨y, hy, ey, -⟩ := wf.2.2.2.1.2
  have ecl : clp (Y.1 8) = y := by rw [ey]; exact clp_nI (by omega)
  refine hCT.go (okc_Pa_dissolve K _ _) [] 60 (by decide +kernel) rfl rfl ?_
  refine ⟨_, h1, _, h2.1, fun hz => ?_, fun hz => ?_⟩
  · rw [e7] at hz
    have h71 : Y.1 7 = 1 := wf.2.2.2.1.1.resolve_left hz
    refine ⟨_, h1, _, h1, _, h.2.2.1.1.1, _, c_rec h hY, ?_⟩
    rintro _ H1 ⟨rfl, ⟨π', D', h'⟩, f1⟩
    obtain ⟨h1', ⟨h2', -⟩, -⟩ := id h'
    refine ⟨_, h1', _, h2'.1, _, c_dissolveCompany h2' hs.1 hs.2.1 (show y < 4096 by omega) (e8.trans ey), ?_⟩
    rintro _ H2 ⟨rfl, hR2, f2⟩
    refine ⟨trivial, ?_⟩
    refine cA (h'.now hR2 (f2.wide (by omega) (by omega)) (h3.ds wf (show y < 4096 by omega) (e8.trans ey))).cp (f1.trans (f2.wide (by omega) (by omega))) ?_
    rw [sp_dissolve, if_neg (fun q => q h71), ecl]
    rfl
  · rw [e7] at hz
    have h71 : ¬ Y.1 7 = 1 := by rw [hz]; decide
    exact ⟨trivial, cN h (by rw [sp_dissolve, if_pos h71])⟩
theorem vnar_c {c : Nat} (hc : c < 65536) : vp_nar .char (nI c) = nI c := by
  rw [vp_nar_char]
  have e1 : (nI c).toUInt32 = UInt32.ofNat c := rfl
  rw [e1]
  have e2 : (UInt32.ofNat c).toUInt16.toUInt32 = UInt32.ofNat c := by
    apply UInt32.toNat.inj
    have e3 : (UInt32.ofNat c).toNat = c := by
      rw [UInt32.toNat_ofNat']
      omega
    rw [UInt16.toNat_toUInt32, UInt32.toNat_toUInt16, e3]
    omega
  rw [e2]
  rfl
set_option maxRecDepth 100000 in
set_option maxHeartbeats 4000000 in
theorem c_type (h : CPx K H b Y S N π D C P T lr Z) (hY : YOk Y) {c : Nat} (hc : c < 65536) : hCT K M_Pa_type [.ref b, .int (nI c)] H 0 0 (cPost K b H (sp_type Y c)) := by
  obtain ⟨h1, ⟨h2, h3⟩, ⟨h4, h5, h6⟩, ⟨h7, h8⟩, ⟨h9, h10⟩, h11, h12⟩ := id h
  have hlen := hY.2.2.2.2.2.1
  refine hCT.go (okc_Pa_type K _ _) [] 60 (by decide +kernel) rfl rfl ?_
  refine ⟨_, h1, fun hz => absurd hz (nI_pos (by omega)), fun _ => ⟨_, h1, _, h1, 60, Or.inl ⟨1, _, by decide, h9⟩, fun hlt => ?_, fun hge => ?_⟩⟩
  · have hlt : Y.2.2.2.2.2.1 < 60 := Nat.lt_of_not_le fun q => nI_nlt (b := 60) q (by omega) hlt
    refine ⟨_, h1, _, h1, 60, _, _, h9, rfl, hlt, by decide, fun H1 u1 => ?_⟩
    rw [vnar_c hc] at u1
    have k1 := (u1.2.2 b (by omega)).trans h1
    refine ⟨_, k1, _, k1, trivial, fun H2 u2 => ⟨_, u2.2.1, trivial, ?_⟩⟩
    have f1 : hFr (b + 165) (b + 166) H H1 := u1.fr' (by omega) (by omega)
    have f2 : hFr b (b + 1) H1 H2 := u2.fr' (by omega) (by omega)
    refine cA (Y' := (Y.1, Y.2.1, Y.2.2.1, Y.2.2.2.1, Y.2.2.2.2.1, Y.2.2.2.2.2.1 + 1, up Y.2.2.2.2.2.2 Y.2.2.2.2.2.1 c)) ⟨S, N, π, D, upd C Y.2.2.2.2.2.1 (nI c), P, T, lr, Z, ?_, ⟨(h2.fr f1 (by omega)).fr f2 (by omega), h3⟩, ⟨(h4.fr f1 (by omega)).fr f2 (by omega), h5, h6⟩, ⟨(h7.fr f1 (by omega)).fr f2 (by omega), h8⟩, ⟨(f2.2 _ (by omega)).trans u1.2.1, fun j hj => ?_⟩, ⟨(f2.2 _ (by omega)).trans ((f1.2 _ (by omega)).trans h11.1), (f2.2 _ (by omega)).trans ((f1.2 _ (by omega)).trans h11.2)⟩, (h12.fr f1 (by omega)).fr f2 (by omega)⟩ ((f1.wide (by omega) (by omega)).trans (f2.wide (by omega) (by omega))) ?_
    · rw [u2.2.1]
      show some (hObj 5 [.ref (b + 1), .ref (b + 28), .ref (b + 138), .int Y.2.2.2.1, .ref (b + 165), .int (nI Y.2.2.2.2.2.1 + 1), .ref (b + 166), .ref (b + 168)]) = _
      rw [nI_1]
      rfl
    · show upd C Y.2.2.2.2.2.1 (nI c) j = nI (up Y.2.2.2.2.2.2 Y.2.2.2.2.2.1 c j)
      have hj' : j < Y.2.2.2.2.2.1 + 1 := hj
      unfold up
      by_cases e : j = Y.2.2.2.2.2.1
      · rw [if_pos e, e, upd_s]
      · rw [if_neg e, upd_n e]
        exact h10 j (by omega)
    · rw [sp_type, if_neg (by omega), ← nI_1]
  · have hge : Y.2.2.2.2.2.1 = 60 := Nat.le_antisymm hlen (Nat.le_of_not_lt fun q => hge (nI_lt (b := 60) q (by omega)))
    exact ⟨trivial, cN h (by rw [sp_type, if_pos hge])⟩
set_option maxRecDepth 100000 in
set_option maxHeartbeats 4000000 in
theorem c_clearText (h : CPx K H b Y S N π D C P T lr Z) : hCT K M_Pa_clearText [.ref b] H 0 0 (cPost K b H (sp_clearText Y)) := by
  obtain ⟨h1, ⟨h2, h3⟩, ⟨h4, h5, h6⟩, ⟨h7, h8⟩, ⟨h9, h10⟩, h11, h12⟩ := id h
  refine hCT.go (okc_Pa_clearText K _ _) [] 60 (by decide +kernel) rfl rfl ?_
  refine ⟨_, h1, _, h1, trivial, fun H2 u2 => ⟨trivial, ?_⟩⟩
  have f2 : hFr b (b + 1) H H2 := u2.fr' (by omega) (by omega)
  refine cA (Y' := (Y.1, Y.2.1, Y.2.2.1, Y.2.2.2.1, Y.2.2.2.2.1, 0, Y.2.2.2.2.2.2)) ⟨S, N, π, D, C, P, T, lr, Z, u2.2.1, ⟨h2.fr f2 (by omega), h3⟩, ⟨h4.fr f2 (by omega), h5, h6⟩, ⟨h7.fr f2 (by omega), h8⟩, ⟨(f2.2 _ (by omega)).trans h9, fun j hj => absurd hj (Nat.not_lt_zero _)⟩, ⟨(f2.2 _ (by omega)).trans h11.1, (f2.2 _ (by omega)).trans h11.2⟩, h12.fr f2 (by omega)⟩ (f2.wide (by omega) (by omega)) rfl
set_option maxRecDepth 100000 in
set_option maxHeartbeats 4000000 in
theorem c_undo (h : CPx K H b Y S N π D C P T lr Z) (hY : YOk Y) : hCT K M_Pa_undo [.ref b] H 0 0 (cPost K b H (sp_undo Y)) := by
  obtain ⟨h1, ⟨h2, h3⟩, ⟨h4, h5, h6⟩, ⟨h7, h8⟩, ⟨h9, h10⟩, h11, h12⟩ := id h
  have hz4 := hY.2.1
  refine hCT.go (okc_Pa_undo K _ _) [] 60 (by decide +kernel) rfl rfl ?_
  refine ⟨_, h1, _, h4.1, fun hz => ?_, fun hz => ?_⟩
  · have hz0 : ¬ Y.2.1 = 0 := fun q => hz (by rw [q]; rfl)
    obtain ⟨m, hm⟩ : ∃ m, Y.2.1 = m + 1 := ⟨Y.2.1 - 1, by omega⟩
    rw [hm] at h4 h6
    have hm4 : m < 4 := by omega
    have en := h6 m (by omega)
    have wfm := hY.2.2.1 m (by omega)
    refine ⟨_, h1, _, h1, _, h4.1, _, c_Hi_takeBack h4 h5 hm4 h2 (en.sok wfm) (by omega), ?_⟩
    rintro _ H1 ⟨rfl, hR, ⟨S', hS', hc⟩, f1, f2⟩
    have q : ∀ a, a = b ∨ b + 138 ≤ a → H1.2 a = H.2 a := fun a ha => f2 a (by omega) (by omega)
    have k1 := (q b (by omega)).trans h1
    have f : hFr b (b + 138) H H1 := ⟨f1, fun a ha => f2 a (by omega) (by omega)⟩
    refine ⟨_, k1, _, hR.1, trivial, ?_⟩
    refine cA (Y' := (Y.2.2.1 m, m, Y.2.2)) ⟨S', N, π, D, C, P, T, lr, Z, k1, ⟨hS', en.cp hc⟩, ⟨hR, h5, fun i hi => h6 i (by have : i < m := hi; omega)⟩, ⟨h7.fr f (by omega), h8⟩, ⟨(q _ (by omega)).trans h9, h10⟩, ⟨(q _ (by omega)).trans h11.1, (q _ (by omega)).trans h11.2⟩, h12.fr f (by omega)⟩ (f.wide (by omega) (by omega)) ?_
    rw [sp_undo, if_neg hz0, hm]
    rfl
  · have hz0 : Y.2.1 = 0 := (ieq (n := 0) (by omega) (by decide)).mp hz
    exact ⟨trivial, cN h (by rw [sp_undo, if_pos hz0])⟩
set_option maxRecDepth 100000 in
set_option maxHeartbeats 4000000 in
theorem c_keep (h : CPx K H b Y S N π D C P T lr Z) (hY : YOk Y) : hCT K M_Pa_keep [.ref b] H 0 0 (cPost K b H (sp_keep Y)) := by
  have wf := hY.1
  obtain ⟨h1, ⟨h2, h3⟩, ⟨h4, h5, h6⟩, ⟨h7, h8⟩, ⟨h9, h10⟩, h11, h12⟩ := id h
  have e0 : S 0 0 = Y.1 0 := h3.1.1
  refine hCT.go (okc_Pa_keep K _ _) [] 60 (by decide +kernel) rfl rfl ?_
  refine ⟨_, h1, _, h1, _, h7.1, _, c_copyFrom h7 h2 (h3.sok wf) (by omega), ?_⟩
  rintro _ H1 ⟨rfl, ⟨S', hS', hc⟩, f1⟩
  have k1 := (f1.2 b (by omega)).trans h1
  refine ⟨_, k1, Or.inr rfl, fun H2 u2 => ?_⟩
  have f2 : hFr b (b + 1) H1 H2 := u2.fr' (by omega) (by omega)
  have f : hFr b (b + 175) H H2 := (f1.wide (by omega) (by omega)).trans (f2.wide (by omega) (by omega))
  have r2 := (h2.fr f1 (by omega)).fr f2 (by omega)
  refine ⟨_, u2.2.1, _, r2.1, trivial, ?_⟩
  refine cA (Y' := (Y.1, Y.2.1, Y.2.2.1, 1, Y.1, Y.2.2.2.2.2)) ⟨S, S', π, D, C, P, T, lr, Z, u2.2.1, ⟨r2, h3⟩, ⟨(h4.fr f1 (by omega)).fr f2 (by omega), h5, h6⟩, ⟨hS'.fr f2 (by omega), fun _ => h3.cp hc⟩, ⟨(f2.2 _ (by omega)).trans ((f1.2 _ (by omega)).trans h9), h10⟩, ⟨(f2.2 _ (by omega)).trans ((f1.2 _ (by omega)).trans h11.1), (f2.2 _ (by omega)).trans ((f1.2 _ (by omega)).trans h11.2)⟩, (h12.fr f1 (by omega)).fr f2 (by omega)⟩ f ?_
  rw [e0]
  rfl
set_option maxRecDepth 100000 in
set_option maxHeartbeats 4000000 in
theorem c_restore (h : CPx K H b Y S N π D C P T lr Z) (hY : YOk Y) : hCT K M_Pa_restore [.ref b] H 0 0 (cPost K b H (sp_restore Y)) := by
  have wf := hY.1
  obtain ⟨h1, ⟨h2, h3⟩, ⟨h4, h5, h6⟩, ⟨h7, h8⟩, -⟩ := id h
  refine hCT.go (okc_Pa_restore K _ _) [] 60 (by decide +kernel) rfl rfl ?_
  refine ⟨_, h1, fun hz => ?_, fun hz => ?_⟩
  · have hz : ¬ Y.2.2.2.1 = 0 := hz
    have k1 : Y.2.2.2.1 = 1 := hY.2.2.2.1.resolve_left hz
    have eN := h8 k1
    have wN := hY.2.2.2.2.1 k1
    refine ⟨_, h1, _, h1, _, h4.1, _, c_rec h hY, ?_⟩
    rintro _ H1 ⟨rfl, ⟨π', D', h'⟩, f1⟩
    obtain ⟨h1', ⟨h2', -⟩, -, ⟨h7', -⟩, -⟩ := id h'
    refine ⟨_, h1', _, h1', _, h2'.1, _, c_copyFrom h2' h7' (eN.sok wN) (by omega), ?_⟩
    rintro _ H2 ⟨rfl, ⟨S', hS', hc⟩, f2⟩
    have h'' := h'.now hS' (f2.wide (by omega) (by omega)) (eN.cp hc)
    obtain ⟨h1'', ⟨h2'', h3''⟩, -⟩ := id h''
    refine ⟨_, h1'', _, h2''.1, trivial, ?_⟩
    have e0 : S' 0 0 = Y.2.2.2.2.1 0 := h3''.1.1
    rw [e0]
    refine cA h''.cp (f1.trans (f2.wide (by omega) (by omega))) ?_
    rw [sp_restore, if_neg hz]
    rfl
  · have hz : Y.2.2.2.1 = 0 := hz
    exact ⟨trivial, cN h (by rw [sp_restore, if_pos hz])⟩
end AC
