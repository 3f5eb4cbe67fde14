/-! THE CLASS: its picture stands for the party in numbers; what it tells -/
def paCell (b : Nat) (ks : Int32) (len : Nat) : va_E := hObj 5 [.ref (b + 1), .ref (b + 28), .ref (b + 138), .int ks, .ref (b + 165), .int (nI len), .ref (b + 166), .ref (b + 168)]
def CPx (K : hK) (H : hAH) (b : Nat) (Y : hY) (S N : Nat → Nat → Int32) (π : Nat → Nat) (D : Nat → Nat → Nat → Int32) (C : Nat → Int32) (P : Nat → Nat) (T : Nat → Int32) (lr : Int32) (Z : Nat → Nat → Int32) : Prop :=
  H.2 b = some (paCell b Y.2.2.2.1 Y.2.2.2.2.2.1) ∧ (RSt K H (b + 1) S ∧ Enc S Y.1) ∧ (RHi K H (b + 28) Y.2.1 π D ∧ hPm π ∧ ∀ i, i < Y.2.1 → Enc (D (π i)) (Y.2.2.1 i)) ∧ (RSt K H (b + 138) N ∧ (Y.2.2.2.1 = 1 → Enc N Y.2.2.2.2.1)) ∧ (H.2 (b + 165) = some (hInts K 1 60 C) ∧ ∀ j, j < Y.2.2.2.2.2.1 → C j = nI (Y.2.2.2.2.2.2 j)) ∧ RRe K H (b + 166) P T ∧ RSe K H (b + 168) lr Z
def CP (K : hK) (H : hAH) (b : Nat) (Y : hY) : Prop := ∃ S N π D C P T lr Z, CPx K H b Y S N π D C P T lr Z
def cPost (K : hK) (b : Nat) (H : hAH) (a : Ans) : hPost := fun r H' => r = some (.int a.1) ∧ CP K H' b a.2 ∧ hFr b (b + 175) H H'
theorem CPx.cp {K : hK} {H : hAH} {b : Nat} {Y : hY} {S N : Nat → Nat → Int32} {π : Nat → Nat} {D : Nat → Nat → Nat → Int32} {C : Nat → Int32} {P : Nat → Nat} {T : Nat → Int32} {lr : Int32} {Z : Nat → Nat → Int32} (h : CPx K H b Y S N π D C P T lr Z) : CP K H b Y := ⟨S, N, π, D, C, P, T, lr, Z, h⟩
theorem CP.fr {K : hK} {H H' : hAH} {b lo hi : Nat} {Y : hY} (h : CP K H b Y) (f : hFr lo hi H H') (hd : hi ≤ b ∨ b + 175 ≤ lo) : CP K H' b Y := by
  obtain ⟨S, N, π, D, C, P, T, lr, Z, h1, ⟨h2, h3⟩, ⟨h4, h5, h6⟩, ⟨h7, h8⟩, ⟨h9, h10⟩, h11, h12⟩ := h
  exact ⟨S, N, π, D, C, P, T, lr, Z, (f.2 _ (by omega)).trans h1, ⟨h2.fr f (by omega), h3⟩, ⟨h4.fr f (by omega), h5, h6⟩, ⟨h7.fr f (by omega), h8⟩, ⟨(f.2 _ (by omega)).trans h9, h10⟩, ⟨(f.2 _ (by omega)).trans h11.1, (f.2 _ (by omega)).trans h11.2⟩, h12.fr f (by omega)⟩
theorem clp_nI {k : Nat} (h : k < 2147483648) : clp (nI k) = k := nI_clamp h
theorem vN_of {V : Nat → Int32} {n : Nat} (h : V 0 = nI n) (hn : n ≤ 12) : vN V = n := by
  unfold vN
  rw [h]
  exact nI_clamp (by omega)
theorem gOk_iff {V : Nat → Int32} (w : WF V) {x : Int32} : gOk V x ↔ ∃ k, k < vN V ∧ x = nI k := by
  obtain ⟨e, hn⟩ := w.1
  show (0 ≤ x ∧ x ≤ V 0 - 1) ↔ _
  rw [e]
  constructor
  · rintro ⟨h1, h2⟩
    by_cases z : vN V = 0
    · rw [z] at h2
      have : (0 : Int32) ≤ nI 0 - 1 := Int32.le_trans h1 h2
      exact absurd this (by decide)
    · obtain ⟨m, hm⟩ : ∃ m, vN V = m + 1 := ⟨vN V - 1, by omega⟩
      rw [hm, nI_pred] at h2
      obtain ⟨j, hj, rfl⟩ := nI_of (x := x) (Int32.not_lt.mpr h1)
      refine ⟨j, ?_, rfl⟩
      have := (nI_leI hj (by omega)).mp h2
      omega
  · rintro ⟨k, hk, rfl⟩
    obtain ⟨m, hm⟩ : ∃ m, vN V = m + 1 := ⟨vN V - 1, by omega⟩
    rw [hm, nI_pred]
    exact ⟨nI_le (a := 0) (by omega) (by omega), nI_le (by omega) (by omega)⟩
theorem gOk_no {V : Nat → Int32} (w : WF V) {x : Int32} (h : ¬ gOk V x) : ∀ k, k < vN V → x ≠ nI k := fun k hk e => h ((gOk_iff w).mpr ⟨k, hk, e⟩)
theorem two12 {n : Nat} (h : n ≤ 12) : 2 ^ n ≤ 4096 := Nat.le_trans (Nat.pow_le_pow_right (n := 2) (j := 12) (by decide) h) (by decide)
theorem sOk_iff {V : Nat → Int32} (w : WF V) {x : Int32} : sOk V x ↔ ∃ y, y < 2 ^ vN V ∧ x = nI y := by
  have h2 := two12 w.1.2
  have h3 := Nat.two_pow_pos (vN V)
  constructor
  · rintro ⟨h1, h4⟩
    obtain ⟨j, hj, rfl⟩ := nI_of (x := x) (Int32.not_lt.mpr h1)
    refine ⟨j, ?_, rfl⟩
    have := (nI_leI hj (by omega)).mp h4
    omega
  · rintro ⟨y, hy, rfl⟩
    exact ⟨nI_le (a := 0) (by omega) (by omega), nI_le (by omega) (by omega)⟩
section PA
variable {K : hK} {H : hAH} {b : Nat} {Y : hY} {S N : Nat → Nat → Int32} {π : Nat → Nat} {D : Nat → Nat → Nat → Int32} {C : Nat → Int32} {P : Nat → Nat} {T : Nat → Int32} {lr : Int32} {Z : Nat → Nat → Int32}
/-- an answer and nothing changed -/
theorem cQ (h : CPx K H b Y S N π D C P T lr Z) {x y : Int32} (e : x = y) : cPost K b H (y, Y) (some (.int x)) H := ⟨by rw [e], h.cp, hFr.rfl⟩
theorem inv_lt {V : Nat → Int32} (w : WF V) : vInv V < 2 ^ vN V := by
  refine Nat.lt_of_not_le fun q => ?_
  obtain ⟨i, hi, hb⟩ := Nat.exists_ge_and_testBit_of_ge_two_pow q
  unfold vInv at hb
  rw [setOf_bit] at hb
  simp only [Bool.and_eq_true, decide_eq_true_eq] at hb
  omega
set_option maxRecDepth 100000 in
set_option maxHeartbeats 4000000 in
/-- the search is run: the party stays -/
theorem c_Pa_find (h : CPx K H b Y S N π D C P T lr Z) (hY : YOk Y) : hCT K M_Pa_findGreatest [.ref b] H 0 0 (fun r H' => r = some (.int (nI (vGr Y.1))) ∧ (∃ Z', CPx K H' b Y S N π D C P T (nI (eL (vE Y.1 (vInv Y.1) (-1)) + 1)) Z' ∧ DONE (eC S (vN Y.1) (vInv Y.1) (-1)) Z') ∧ hFr b (b + 175) H H') := by
  obtain ⟨h1, ⟨h2, h3⟩, ⟨h4, h5, h6⟩, ⟨h7, h8⟩, ⟨h9, h10⟩, h11, h12⟩ := h
  have w := hY.1
  have hs := h3.sok w
  refine hCT.go (okc_Pa_findGreatest K _ _) [] 60 (by decide +kernel) rfl rfl ?_
  refine ⟨_, h1, _, h1, _, h1, _, h2.1, _, h3.inv ▸ c_invitedGuests h2 hs.1 hs.2.1, ?_⟩
  rintro _ H ⟨rfl, rfl⟩
  refine ⟨_, h12.1, _, c_Se_findGreatest hs (h3.lok w) h2 (by omega) (inv_lt w) h12, ?_⟩
  rintro _ H1 ⟨rfl, ⟨Z', hZ, hD⟩, f⟩
  have ge := h3.geq (I := vInv Y.1) (setOf_12 _) (-1)
  refine ⟨trivial, by rw [ge.qgr]; rfl, ⟨Z', ⟨(f.2 _ (by omega)).trans h1, ⟨h2.fr f (by omega), h3⟩, ⟨h4.fr f (by omega), h5, h6⟩, ⟨h7.fr f (by omega), h8⟩, ⟨(f.2 _ (by omega)).trans h9, h10⟩, ⟨(f.2 _ (by omega)).trans h11.1, (f.2 _ (by omega)).trans h11.2⟩, by rw [← ge.qL]; exact hZ⟩, hD⟩, f.wide (by omega) (by omega)⟩
theorem gr_lt (V : Nat → Int32) : vGr V < 4096 := ess_lt (E := vE V (vInv V) (-1)) (setOf_12 _) _
theorem gr_lt2 {V : Nat → Int32} (w : WF V) : vGr V < 2 ^ vN V := by
  have h1 : subB (vGr V) (vInv V) = true := subB_iff.mpr fun k hk => ess_mono (E := vE V (vInv V) (-1)) (Nat.zero_le _) hk
  exact Nat.lt_of_le_of_lt (sub_le h1) (inv_lt w)
theorem bpRun_cong {p q : Nat → Nat → Bool} : ∀ (n : Nat), (∀ x z, 1 ≤ x → x ≤ n → z < x → p x z = q x z) → bpRun p n = bpRun q n
  | 0, _ => rfl
  | n + 1, h => by
    have h1 := bpRun_cong n (fun x z h1 h2 h3 => h x z h1 (by omega) h3)
    have h2 := bpRun_le q n
    rw [bpRun, bpRun, h1, h (n + 1) (bpRun q n) (by omega) (Nat.le_refl _) (by omega)]
theorem bpRun_ext {p : Nat → Nat → Bool} {n : Nat} : ∀ (m : Nat), (∀ x z, n < x → x ≤ n + m → p x z = false) → bpRun p (n + m) = bpRun p n
  | 0, _ => rfl
  | m + 1, h => by
    have h1 := bpRun_ext m (fun x z h1 h2 => h x z h1 (by omega))
    show (if p (n + m + 1) (bpRun p (n + m)) then n + m + 1 else bpRun p (n + m)) = _
    rw [h (n + m + 1) _ (by omega) (by omega), h1]
    rfl
theorem best_eq {V : Nat → Int32} {S : Nat → Nat → Int32} (w : WF V) (e : Enc S V) : bpRun (bpP S (vN V) (vGr V)) (vGr V) = bpRun (vBp V) (2 ^ vN V - 1) := by
  have hlt := gr_lt2 w
  have h12 := two12 w.1.2
  rw [show 2 ^ vN V - 1 = vGr V + (2 ^ vN V - 1 - vGr V) by omega, bpRun_ext]
  · refine bpRun_cong _ fun x z h1 h2 h3 => ?_
    unfold bpP vBp
    rw [e.qstb (x := x) (by omega), e.bet, e.2.1 2 (by decide)]
    cases hs : vStb V x
    · simp
    · rw [stb_gr w (by omega) hs]; rfl
  · intro x z h1 h2
    unfold vBp
    cases hs : vStb V x
    · simp
    · have := sub_le (stb_gr w (by omega) hs)
      omega
theorem ch_lt {V : Nat → Int32} (w : WF V) : vCh V < 2 ^ vN V := by
  unfold vCh
  split
  · exact gr_lt2 w
  · have := bpRun_le (vBp V) (2 ^ vN V - 1)
    have := Nat.two_pow_pos (vN V)
    omega
set_option maxRecDepth 100000 in
set_option maxHeartbeats 4000000 in
theorem c_Pa_chosen (h : CPx K H b Y S N π D C P T lr Z) (hY : YOk Y) : hCT K M_Pa_findChosen [.ref b] H 0 0 (fun r H' => r = some (.int (nI (vCh Y.1))) ∧ (∃ lr' Z', CPx K H' b Y S N π D C P T lr' Z') ∧ hFr b (b + 175) H H') := by
  have w := hY.1
  refine hCT.go (okc_Pa_findChosen K _ _) [] 60 (by decide +kernel) rfl rfl ?_
  refine ⟨_, h.1, _, c_Pa_find h hY, ?_⟩
  rintro _ H1 ⟨rfl, ⟨Z', h', -⟩, f⟩
  obtain ⟨h1, ⟨h2, h3⟩, -⟩ := id h'
  refine ⟨_, c_pop K H1 (gr_lt _), ?_⟩
  rintro _ H1 ⟨rfl, rfl⟩
  have e4 : S 1 2 = Y.1 4 := h3.2.1 2 (by decide)
  refine ⟨_, h1, _, h2.1, 5, _, 2, Or.inl h2.2.2.1, rfl, by decide, by decide, fun hgt => ?_, fun hle => ?_⟩
  · rw [e4] at hgt
    refine ⟨_, h1, _, h2.1, _, c_bestPart h2 (h3.sok w) (gr_lt _), ?_⟩
    rintro _ H1 ⟨rfl, rfl⟩
    refine ⟨trivial, ?_, ⟨_, _, h'⟩, f⟩
    rw [best_eq w h3, vCh, if_neg (Int32.not_le.mpr hgt)]
  · rw [e4] at hle
    refine ⟨trivial, ?_, ⟨_, _, h'⟩, f⟩
    rw [vCh, if_pos (Int32.not_lt.mp hle)]
set_option maxRecDepth 100000 in
set_option maxHeartbeats 4000000 in
theorem c_guest (h : CPx K H b Y S N π D C P T lr Z) (hY : YOk Y) (g w : Int32) : hCT K M_Pa_guest [.ref b, .int g, .int w] H 0 0 (cPost K b H (sp_guest Y g w, Y)) := by
  have wf := hY.1
  obtain ⟨h1, ⟨h2, h3⟩, -⟩ := id h
  have hs := h3.sok wf
  refine hCT.go (okc_Pa_guest K _ _) [] 60 (by decide +kernel) rfl rfl ?_
  by_cases hg : gOk Y.1 g
  · obtain ⟨k, hk, rfl⟩ := (gOk_iff wf).mp hg
    have hn := wf.1.2
    refine ⟨_, h1, _, h2.1, _, c_find_lt h2 hs.1 hs.2.1 hk, ?_⟩
    rintro _ H ⟨rfl, rfl⟩
    have hR := h2.2.2.2 k (by omega)
    refine ⟨_, hR.1, _, c_Gu_tell hR w, ?_⟩
    rintro _ H ⟨rfl, rfl⟩
    refine ⟨trivial, cQ h ?_⟩
    obtain ⟨⟨g0, g1, g2, g3, g4, g5, g6, g7⟩, -⟩ := h3.2.2 k hk
    have ginv := (wf.2.2.2.2.1 k hk).2.2.1
    rw [sp_guest, if_neg (fun q => q hg), clp_nI (by omega), guTell]
    by_cases hr : 0 ≤ w ∧ w ≤ 7
    · rw [if_pos hr]
      obtain ⟨j, hj, rfl⟩ := nI_of2 (M := 7) (n := 7) (by decide) (Int32.not_lt.mpr hr.1) hr.2
      rw [clp_nI (by omega), g0, g1, g2, g3, g4, g5, g6, g7]
      match j, hj with
      | 0, _ => rfl
      | 1, _ => rfl
      | 2, _ => rcases ginv with e | e <;> rw [e] <;> rfl
      | 3, _ => rfl
      | 4, _ => rfl
      | 5, _ => rfl
      | 6, _ => rfl
      | 7, _ => rfl
    · rw [if_neg hr, if_neg, if_neg, if_neg, if_neg, if_neg, if_neg, if_neg, if_neg]
      all_goals (intro q; exact hr (by rw [q]; decide))
  · refine ⟨_, h1, _, h2.1, _, c_find_no h2 hs.1 hs.2.1 (gOk_no wf hg), ?_⟩
    rintro _ H ⟨rfl, rfl⟩
    exact ⟨trivial, cQ h (by rw [sp_guest, if_pos hg])⟩
set_option maxRecDepth 100000 in
set_option maxHeartbeats 4000000 in
theorem c_met (h : CPx K H b Y S N π D C P T lr Z) (hY : YOk Y) (g x : Int32) : hCT K M_Pa_met [.ref b, .int g, .int x] H 0 0 (cPost K b H (sp_met Y g x, Y)) := by
  have wf := hY.1
  obtain ⟨h1, ⟨h2, h3⟩, -⟩ := id h
  have hs := h3.sok wf
  have hn := wf.1.2
  refine hCT.go (okc_Pa_met K _ _) [] 60 (by decide +kernel) rfl rfl ?_
  by_cases hg : gOk Y.1 g
  · obtain ⟨k, hk, rfl⟩ := (gOk_iff wf).mp hg
    refine ⟨_, h1, _, h2.1, _, c_find_lt h2 hs.1 hs.2.1 hk, ?_⟩
    rintro _ H ⟨rfl, rfl⟩
    refine ⟨_, h1, _, h2.1, _, c_hasAll h2 hs.1 hs.2.1 x, ?_⟩
    rintro _ H ⟨rfl, rfl⟩
    refine ⟨fun hq => ?_, fun hq => ?_⟩
    · have hx := of_decide_eq_true (b2i_n0.mp hq)
      obtain ⟨y, hy, rfl⟩ := (sOk_iff wf).mp hx
      have h12 := two12 hn
      have hR := h2.2.2.2 k (by omega)
      refine ⟨_, hR.1, _, c_isContentWith hR (hs.2.2.2 k hk).2.1 (hs.2.2.2 k hk).2.2 (x := y) (by omega), ?_⟩
      rintro _ H ⟨rfl, rfl⟩
      refine ⟨_, c_Pa_asNumber K H _, ?_⟩
      rintro _ H ⟨rfl, rfl⟩
      refine ⟨trivial, cQ h ?_⟩
      have e : sp_met Y (nI k) (nI y) = b2i (vMet Y.1 k y) := by
        rw [sp_met, if_neg (fun q => q hg), if_neg (fun q => q hx), clp_nI (by omega), clp_nI (by omega)]
      rw [e, ← (h3.2.2 k hk).2.2 y (by omega)]
      unfold sMet
      cases gcMet (S (14 + k)) (stC S k) y <;> rfl
    · have hx := of_decide_eq_false (b2i_0.mp hq)
      exact ⟨trivial, cQ h (by rw [sp_met, if_neg (fun q => q hg), if_pos hx])⟩
  · refine ⟨_, h1, _, h2.1, _, c_find_no h2 hs.1 hs.2.1 (gOk_no wf hg), ?_⟩
    rintro _ H ⟨rfl, rfl⟩
    exact ⟨trivial, cQ h (by rw [sp_met, if_pos hg])⟩
set_option maxRecDepth 100000 in
set_option maxHeartbeats 4000000 in
theorem c_stable (h : CPx K H b Y S N π D C P T lr Z) (hY : YOk Y) (x : Int32) : hCT K M_Pa_stable [.ref b, .int x] H 0 0 (cPost K b H (sp_stable Y x, Y)) := by
  have wf := hY.1
  obtain ⟨h1, ⟨h2, h3⟩, -⟩ := id h
  have hs := h3.sok wf
  have h12 := two12 wf.1.2
  refine hCT.go (okc_Pa_stable K _ _) [] 60 (by decide +kernel) rfl rfl ?_
  refine ⟨_, h1, _, h2.1, _, c_hasAll h2 hs.1 hs.2.1 x, ?_⟩
  rintro _ H ⟨rfl, rfl⟩
  refine ⟨fun hq => ?_, fun hq => ?_⟩
  · have hx := of_decide_eq_true (b2i_n0.mp hq)
    obtain ⟨y, hy, rfl⟩ := (sOk_iff wf).mp hx
    refine ⟨_, h1, _, h2.1, _, c_isStable h2 hs (x := y) (by omega), ?_⟩
    rintro _ H ⟨rfl, rfl⟩
    refine ⟨_, c_Pa_asNumber K H _, ?_⟩
    rintro _ H ⟨rfl, rfl⟩
    refine ⟨trivial, cQ h ?_⟩
    have e : sp_stable Y (nI y) = b2i (vStb Y.1 y) := by
      rw [sp_stable, if_neg (fun q => q hx), clp_nI (by omega)]
    rw [e, h3.qstb (by omega)]
    cases vStb Y.1 y <;> rfl
  · have hx := of_decide_eq_false (b2i_0.mp hq)
    exact ⟨trivial, cQ h (by rw [sp_stable, if_pos hx])⟩
set_option maxRecDepth 100000 in
set_option maxHeartbeats 4000000 in
theorem c_fee (h : CPx K H b Y S N π D C P T lr Z) (m : Int32) : hCT K M_Pa_fee [.ref b, .int m] H 0 0 (cPost K b H (sp_fee Y m, Y)) := by
  obtain ⟨h1, ⟨h2, h3⟩, -⟩ := id h
  refine hCT.go (okc_Pa_fee K _ _) [] 60 (by decide +kernel) rfl rfl ?_
  refine ⟨_, c_Pa_isWithin K H _ _ _, ?_⟩
  rintro _ H ⟨rfl, rfl⟩
  rw [b2i_if]
  refine ⟨fun hq => ?_, fun hq => ?_⟩
  · have hx := of_decide_eq_true (b2i_n0.mp hq)
    refine ⟨_, h1, _, h2.1, _, c_feeOf h2 m, ?_⟩
    rintro _ H ⟨rfl, rfl⟩
    exact ⟨trivial, cQ h (by rw [sp_fee, if_pos hx, h3.fee])⟩
  · have hx := of_decide_eq_false (b2i_0.mp hq)
    exact ⟨trivial, cQ h (by rw [sp_fee, if_neg hx])⟩
set_option maxRecDepth 100000 in
set_option maxHeartbeats 4000000 in
theorem c_seat (h : CPx K H b Y S N π D C P T lr Z) (hY : YOk Y) (x : Int32) : hCT K M_Pa_seat [.ref b, .int x] H 0 0 (cPost K b H (sp_seat Y x, Y)) := by
  obtain ⟨h1, ⟨h2, h3⟩, -⟩ := id h
  have hs := h3.sok hY.1
  refine hCT.go (okc_Pa_seat K _ _) [] 60 (by decide +kernel) rfl rfl ?_
  refine ⟨_, c_Pa_isWithin K H _ _ _, ?_⟩
  rintro _ H ⟨rfl, rfl⟩
  rw [b2i_if]
  refine ⟨fun hq => ?_, fun hq => ?_⟩
  · have hx := of_decide_eq_true (b2i_n0.mp hq)
    refine ⟨_, h1, _, h2.1, _, c_guestOnSeat x h2 hs.1 hs.2.1, ?_⟩
    rintro _ H ⟨rfl, rfl⟩
    refine ⟨trivial, cQ h ?_⟩
    rw [sp_seat, if_neg (fun q => q hx)]
    refine lowest_cong 12 0 fun j _ _ => ?_
    unfold seatP
    by_cases hj : j < vN Y.1
    · rw [(h3.2.2 j hj).1.2.2.2.2.2.2.1]
    · simp [hj]
  · have hx := of_decide_eq_false (b2i_0.mp hq)
    exact ⟨trivial, cQ h (by rw [sp_seat, if_pos hx])⟩
end PA
