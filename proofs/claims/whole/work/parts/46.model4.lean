/-! THE REFERENCE stands for the party in numbers; what it tells -/
def MPr (c : Nat → Int32) (B : Nat → Nat → Int32) (Y : hY) : Prop := B 0 = Y.1 ∧ c 0 = nI Y.2.1 ∧ (∀ i, i < Y.2.1 → ∀ j, j < 1647 → B 1 (1647 * i + j) = Y.2.2.1 i j) ∧ c 1 = Y.2.2.2.1 ∧ (Y.2.2.2.1 = 1 → ∀ j, j < 1647 → B 2 j = Y.2.2.2.2.1 j) ∧ c 2 = nI Y.2.2.2.2.2.1 ∧ (∀ j, j < Y.2.2.2.2.2.1 → B 3 j = nI (Y.2.2.2.2.2.2 j)) ∧ ∀ j, j < 5 → B 4 j = setLo j ∧ B 5 j = setHi j
def MPx (K : hK) (H : hAH) (m : Nat) (Y : hY) : Prop := ∃ c B, RMo K H m c B ∧ MPr c B Y
def hYeq (Y Y' : hY) : Prop := (∀ i, i < 1647 → Y.1 i = Y'.1 i) ∧ Y.2 = Y'.2
theorem hYeq.rfl {Y : hY} : hYeq Y Y := ⟨fun _ _ => Eq.refl _, Eq.refl _⟩
def mPost (K : hK) (m : Nat) (H : hAH) (a : Ans) : hPost := fun r H' => r = some (.int a.1) ∧ (∃ Y', hYeq a.2 Y' ∧ MPx K H' m Y') ∧ hFr m (m + 11) H H'
theorem MPr.gr {c : Nat → Int32} {B : Nat → Nat → Int32} {Y : hY} {R Ro : Nat → Int32} {v : Int32} (h : MPr c B Y) : MPr (upd c 5 v) (upB (upB B 8 R) 9 Ro) Y := h
section MQ
variable {K : hK} {H : hAH} {m : Nat} {c : Nat → Int32} {B : Nat → Nat → Int32} {Y : hY}
theorem mQ (h : RMo K H m c B) (hp : MPr c B Y) {x y : Int32} (e : x = y) : mPost K m H (y, Y) (some (.int x)) H := ⟨by rw [e], ⟨Y, hYeq.rfl, c, B, h, hp⟩, hFr.rfl⟩
theorem mQ2 {H' : hAH} {c' : Nat → Int32} {B' : Nat → Nat → Int32} (h : RMo K H' m c' B') (hp : MPr c' B' Y) (f : hFr m (m + 11) H H') {x y : Int32} (e : x = y) : mPost K m H (y, Y) (some (.int x)) H' := ⟨by rw [e], ⟨Y, hYeq.rfl, c', B', h, hp⟩, f⟩
theorem mA {H' : hAH} {c' : Nat → Int32} {B' : Nat → Nat → Int32} {Y' Y2 : hY} {a : Ans} {x : Int32} (h : RMo K H' m c' B') (hp : MPr c' B' Y2) (f : hFr m (m + 11) H H') (e : a = (x, Y')) (q : hYeq Y' Y2) : mPost K m H a (some (.int x)) H' := by
  subst e
  exact ⟨rfl, ⟨Y2, q, c', B', h, hp⟩, f⟩
set_option maxRecDepth 100000 in
set_option maxHeartbeats 4000000 in
theorem c_Mo_guest (h : RMo K H m c B) (hp : MPr c B Y) (hY : YOk Y) (g w : Int32) : hCT K M_Mo_guest [.ref m, .int g, .int w] H 0 0 (mPost K m H (sp_guest Y g w, Y)) := by
  have wf := hY.1
  have hV : B 0 = Y.1 := hp.1
  have hn := wf.1.2
  refine hCT.go (okc_Mo_guest K _ _) [] 60 (by decide +kernel) rfl rfl ?_
  refine ⟨_, h.1, _, c_Mo_isGuest h g, ?_⟩
  rintro _ H ⟨rfl, rfl⟩
  rw [hV]
  refine ⟨fun hq => ?_, fun hq => ?_⟩
  · have hg := of_decide_eq_true (b2i_n0.mp hq)
    obtain ⟨k, hk, rfl⟩ := (gOk_iff wf).mp hg
    refine ⟨_, c_Mo_in K H _ _ _, ?_⟩
    rintro _ H ⟨rfl, rfl⟩
    rw [b2i_if]
    refine ⟨fun hw => ?_, fun hw => ?_⟩
    · have hw := of_decide_eq_false (b2i_0.mp hw)
      exact ⟨trivial, mQ h hp (by rw [sp_guest, if_neg (fun q => q hg), if_neg hw])⟩
    · have hw := of_decide_eq_true (b2i_n0.mp hw)
      obtain ⟨j, hj, rfl⟩ := nI_of2 (M := 7) (n := 7) (by decide) (Int32.not_lt.mpr hw.1) hw.2
      refine ⟨_, h.1, _, c_Mo_of h (k := k) (f := j) (by omega), ?_⟩
      rintro _ H ⟨rfl, rfl⟩
      rw [hV]
      exact ⟨trivial, mQ h hp (by rw [sp_guest, if_neg (fun q => q hg), if_pos hw, clp_nI (by omega), clp_nI (by omega)]; rfl)⟩
  · have hg := of_decide_eq_false (b2i_0.mp hq)
    exact ⟨trivial, mQ h hp (by rw [sp_guest, if_pos hg])⟩
set_option maxRecDepth 100000 in
set_option maxHeartbeats 4000000 in
theorem c_Mo_met (h : RMo K H m c B) (hp : MPr c B Y) (hY : YOk Y) (g x : Int32) : hCT K M_Mo_met [.ref m, .int g, .int x] H 0 0 (mPost K m H (sp_met Y g x, Y)) := by
  have wf := hY.1
  have hV : B 0 = Y.1 := hp.1
  have hn := wf.1.2
  have h12 := two12 hn
  refine hCT.go (okc_Mo_met K _ _) [] 60 (by decide +kernel) rfl rfl ?_
  refine ⟨_, h.1, _, c_Mo_isGuest h g, ?_⟩
  rintro _ H ⟨rfl, rfl⟩
  rw [hV]
  refine ⟨fun hq => ?_, fun hq => ?_⟩
  · have hg := of_decide_eq_true (b2i_n0.mp hq)
    obtain ⟨k, hk, rfl⟩ := (gOk_iff wf).mp hg
    refine ⟨_, h.1, _, c_Mo_isSet h (hV ▸ wf) x, ?_⟩
    rintro _ H ⟨rfl, rfl⟩
    rw [hV]
    refine ⟨fun hx => ?_, fun hx => ?_⟩
    · have hx := of_decide_eq_true (b2i_n0.mp hx)
      obtain ⟨y, hy, rfl⟩ := (sOk_iff wf).mp hx
      refine ⟨_, h.1, _, c_Mo_isMet h (k := k) (x := y) (by omega) (by omega), ?_⟩
      rintro _ H ⟨rfl, rfl⟩
      rw [hV]
      have e : sp_met Y (nI k) (nI y) = b2i (vMet Y.1 k y) := by
        rw [sp_met, if_neg (fun q => q hg), if_neg (fun q => q hx), clp_nI (by omega), clp_nI (by omega)]
      refine ⟨fun hm => ?_, fun hm => ?_⟩
      · exact ⟨trivial, mQ h hp (by rw [e, b2i_0.mp hm]; rfl)⟩
      · exact ⟨trivial, mQ h hp (by rw [e, b2i_n0.mp hm]; rfl)⟩
    · have hx := of_decide_eq_false (b2i_0.mp hx)
      exact ⟨trivial, mQ h hp (by rw [sp_met, if_neg (fun q => q hg), if_pos hx])⟩
  · have hg := of_decide_eq_false (b2i_0.mp hq)
    exact ⟨trivial, mQ h hp (by rw [sp_met, if_pos hg])⟩
set_option maxRecDepth 100000 in
set_option maxHeartbeats 4000000 in
theorem c_Mo_stable (h : RMo K H m c B) (hp : MPr c B Y) (hY : YOk Y) (x : Int32) : hCT K M_Mo_stable [.ref m, .int x] H 0 0 (mPost K m H (sp_stable Y x, Y)) := by
  have wf := hY.1
  have hV : B 0 = Y.1 := hp.1
  have h12 := two12 wf.1.2
  refine hCT.go (okc_Mo_stable K _ _) [] 60 (by decide +kernel) rfl rfl ?_
  refine ⟨_, h.1, _, c_Mo_isSet h (hV ▸ wf) x, ?_⟩
  rintro _ H ⟨rfl, rfl⟩
  rw [hV]
  refine ⟨fun hx => ?_, fun hx => ?_⟩
  · have hx := of_decide_eq_true (b2i_n0.mp hx)
    obtain ⟨y, hy, rfl⟩ := (sOk_iff wf).mp hx
    refine ⟨_, h.1, _, c_Mo_isStable h (hV ▸ wf) (x := y) (by rw [hV]; exact hy), ?_⟩
    rintro _ H ⟨rfl, rfl⟩
    rw [hV]
    have e : sp_stable Y (nI y) = b2i (vStb Y.1 y) := by
      rw [sp_stable, if_neg (fun q => q hx), clp_nI (by omega)]
    refine ⟨fun hm => ?_, fun hm => ?_⟩
    · exact ⟨trivial, mQ h hp (by rw [e, b2i_0.mp hm]; rfl)⟩
    · exact ⟨trivial, mQ h hp (by rw [e, b2i_n0.mp hm]; rfl)⟩
  · have hx := of_decide_eq_false (b2i_0.mp hx)
    exact ⟨trivial, mQ h hp (by rw [sp_stable, if_pos hx])⟩
set_option maxRecDepth 100000 in
set_option maxHeartbeats 4000000 in
theorem c_Mo_fee (h : RMo K H m c B) (hp : MPr c B Y) (x : Int32) : hCT K M_Mo_fee [.ref m, .int x] H 0 0 (mPost K m H (sp_fee Y x, Y)) := by
  have hV : B 0 = Y.1 := hp.1
  refine hCT.go (okc_Mo_fee K _ _) [] 60 (by decide +kernel) rfl rfl ?_
  refine ⟨_, c_Mo_in K H _ _ _, ?_⟩
  rintro _ H ⟨rfl, rfl⟩
  rw [b2i_if]
  refine ⟨fun hx => ?_, fun hx => ?_⟩
  · have hx := of_decide_eq_false (b2i_0.mp hx)
    exact ⟨trivial, mQ h hp (by rw [sp_fee, if_neg hx])⟩
  · have hx := of_decide_eq_true (b2i_n0.mp hx)
    have hpos : (0 : Int32) < x := Int32.lt_of_lt_of_le (by decide) hx.1
    refine ⟨_, h.1, _, c_Mo_feeOf h hpos, ?_⟩
    rintro _ H ⟨rfl, rfl⟩
    rw [hV]
    exact ⟨trivial, mQ h hp (by rw [sp_fee, if_pos hx])⟩
set_option maxRecDepth 100000 in
set_option maxHeartbeats 4000000 in
theorem c_Mo_rounds (h : RMo K H m c B) (hp : MPr c B Y) (hY : YOk Y) : hCT K M_Mo_rounds [.ref m] H 0 0 (mPost K m H (sp_rounds Y, Y)) := by
  have wf := hY.1
  have hV : B 0 = Y.1 := hp.1
  refine hCT.go (okc_Mo_rounds K _ _) [] 60 (by decide +kernel) rfl rfl ?_
  refine ⟨_, h.1, _, c_Mo_greatest h (hV ▸ wf), ?_⟩
  rintro _ H1 ⟨rfl, ⟨R, Ro, h', -⟩, f⟩
  refine ⟨_, h'.1, trivial, mQ2 h' hp.gr f ?_⟩
  rw [upd_s, hV]
  rfl
set_option maxRecDepth 100000 in
set_option maxHeartbeats 4000000 in
theorem l_Mo_companies (h : RMo K H m c B) (w : WF (B 0)) : ∀ (d i : Nat) (a g : Int32), i + d = 2 ^ vN (B 0) → a = nI (cnt (vStb (B 0)) i) → g = nI i → hJ K M_Mo_companies (0, 0) (fun r H' => r = some (.int (nI (cnt (vStb (B 0)) (2 ^ vN (B 0))))) ∧ H' = H) 4 (0, 0) [some (.ref m), some (.int a), some (.int g)] [] H := by
  have h12 := two12 w.1.2
  have h2p := Nat.two_pow_pos (vN (B 0))
  intro d
  induction d with
  | zero =>
    intro i a g hi ha hg
    refine hGo_sound (okc_Mo_companies K _ _) [4] 60 _ _ _ _ _ ?_
    refine ⟨_, h.1, _, c_Mo_all h w.1.1 w.1.2, ?_⟩
    rintro _ H ⟨rfl, rfl⟩
    refine ⟨fun _ => ⟨trivial, by rw [ha, show i = 2 ^ vN (B 0) by omega], rfl⟩, fun q => absurd (by rw [hg]; exact nI_lt (by omega) (by omega)) q⟩
  | succ d ih =>
    intro i a g hi ha hg
    refine hGo_sound (okc_Mo_companies K _ _) [4] 60 _ _ _ _ _ ?_
    refine ⟨_, h.1, _, c_Mo_all h w.1.1 w.1.2, ?_⟩
    rintro _ H ⟨rfl, rfl⟩
    refine ⟨fun q => absurd (by rw [hg] at q; exact q) (nI_nlt (by omega) (by omega)), fun _ => ⟨_, h.1, _, hg ▸ c_Mo_isStable h w (x := i) (by omega), ?_⟩⟩
    rintro _ H ⟨rfl, rfl⟩
    refine ⟨fun hm => ?_, fun hm => ?_⟩
    · refine ih (i + 1) _ _ (by omega) ?_ (by rw [hg, nI_1])
      rw [ha, cnt, b2i_0.mp hm, Int32.add_zero]
      rfl
    · refine ih (i + 1) _ _ (by omega) ?_ (by rw [hg, nI_1])
      rw [ha, cnt, b2i_n0.mp hm, nI_1]
      rfl
set_option maxRecDepth 100000 in
set_option maxHeartbeats 4000000 in
theorem c_Mo_companies (h : RMo K H m c B) (hp : MPr c B Y) (hY : YOk Y) : hCT K M_Mo_companies [.ref m] H 0 0 (mPost K m H (sp_companies Y, Y)) := by
  have wf := hY.1
  have hV : B 0 = Y.1 := hp.1
  refine hCT.go (okc_Mo_companies K _ _) [4] 60 (by decide +kernel) rfl rfl ?_
  refine (l_Mo_companies h (hV ▸ wf) (2 ^ vN (B 0)) 0 _ _ (Nat.zero_add _) rfl rfl).imp ?_
  rintro _ H1 ⟨rfl, rfl⟩
  exact mQ h hp (by rw [hV]; rfl)
end MQ
