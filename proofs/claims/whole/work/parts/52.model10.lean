/-! THE REFERENCE: its other acts -/
def cp1 (F V : Nat → Int32) (i : Nat) : Nat → Int32 := fun j => if j < i then V j else F j
theorem cp1_0 (F V : Nat → Int32) : cp1 F V 0 = F := funext fun j => if_neg (Nat.not_lt_zero j)
theorem cp1_s (F V : Nat → Int32) (i : Nat) : upd (cp1 F V i) i (V i) = cp1 F V (i + 1) := by
  funext j
  by_cases e : j = i
  · rw [e, upd_s]
    exact (if_pos (Nat.lt_succ_self i)).symm
  · rw [upd_n e]
    show (if j < i then V j else F j) = if j < i + 1 then V j else F j
    by_cases h : j < i
    · rw [if_pos h, if_pos (by omega)]
    · rw [if_neg h, if_neg (by omega)]
section MAd
variable {K : hK} {H : hAH} {m : Nat} {c : Nat → Int32} {B : Nat → Nat → Int32} {Y : hY}
set_option maxRecDepth 100000 in
set_option maxHeartbeats 4000000 in
theorem l_keep {Q : hPost} {H0 : hAH} (hend : ∀ H1, RMo K H1 m c (upB B 2 (cp1 (B 2) (B 0) 1647)) → hFr m (m + 11) H0 H1 → ∀ g, hJ K M_Mo_keep (0, 0) Q 27 (0, 0) [some (.ref m), some (.int g)] [] H1) : ∀ (d i : Nat) (g : Int32) (H1 : hAH), i + d = 1647 → g = nI i → RMo K H1 m c (upB B 2 (cp1 (B 2) (B 0) i)) → hFr m (m + 11) H0 H1 → hJ K M_Mo_keep (0, 0) Q 2 (0, 0) [some (.ref m), some (.int g)] [] H1 := by
  intro d
  induction d with
  | zero =>
    intro i g H1 hi hg h f
    obtain rfl : i = 1647 := by omega
    refine hGo_sound (okc_Mo_keep K _ _) [2, 27] 60 _ _ _ _ _ ?_
    exact ⟨fun _ => hend H1 h f g, fun q => absurd (by rw [hg]; exact nI_le (a := 1647) (by omega) (by omega)) q⟩
  | succ d ih =>
    intro i g H1 hi hg h f
    refine hGo_sound (okc_Mo_keep K _ _) [2, 27] 60 _ _ _ _ _ ?_
    refine ⟨fun q => absurd (by rw [hg] at q; exact q) (nI_ge (b := 1647) (by omega) (by omega)), fun _ => ⟨_, h.1, _, h.1, 1647, _, i, Or.inl h.v, hg, by omega, by decide, 1647, _, i, h.ke, hg, by omega, by decide, fun H2 u2 => ?_⟩⟩
    have h2 := h.bk (j := 2) (by decide) u2
    rw [upB_u, upB_s, upB_n (by decide), cp1_s] at h2
    exact ih (i + 1) _ H2 (by omega) (by rw [hg, nI_1]) h2 (f.trans (u2.fr' (by omega) (by omega)))
set_option maxRecDepth 100000 in
set_option maxHeartbeats 4000000 in
theorem c_Mo_keep (h : RMo K H m c B) (hp : MPr c B Y) : hCT K M_Mo_keep [.ref m] H 0 0 (mPost K m H (sp_keep Y)) := by
  refine hCT.go (okc_Mo_keep K _ _) [2] 60 (by decide +kernel) rfl rfl ?_
  refine l_keep (H0 := H) (c := c) (B := B) (fun H1 h1 f1 g => ?_) 1647 0 _ H (by decide) rfl (by rw [cp1_0, upB_id]; exact h) hFr.rfl
  obtain ⟨p1, p2, p3, p4, p5, p6, p7, p8⟩ := hp
  refine hGo_sound (okc_Mo_keep K _ _) [] 60 _ _ _ _ _ ?_
  refine ⟨_, h1.1, Or.inr rfl, fun H2 u2 => ?_⟩
  have h2 : RMo K H2 m (upd c 1 1) (upB B 2 (cp1 (B 2) (B 0) 1647)) := h1.sc u2 rfl
  refine ⟨_, h2.1, 1647, _, 0, Or.inl h2.v, rfl, by decide, by decide, trivial, ?_⟩
  refine mA h2 (Y2 := (Y.1, Y.2.1, Y.2.2.1, 1, Y.1, Y.2.2.2.2.2)) ⟨p1, p2, p3, rfl, fun _ j hj => ?_, p6, p7, p8⟩ (f1.trans (u2.fr' (by omega) (by omega))) ?_ hYeq.rfl
  · show (if j < 1647 then B 0 j else B 2 j) = Y.1 j
    rw [if_pos hj, p1]
  · rw [upB_n (by decide), p1]
    rfl
set_option maxRecDepth 100000 in
set_option maxHeartbeats 4000000 in
theorem l_restore {Q : hPost} {H0 : hAH} {V0 : Nat → Int32} {Bo : Nat → Nat → Int32} (hend : ∀ H1, RMo K H1 m c (upB Bo 0 (cp1 V0 (Bo 2) 1647)) → hFr m (m + 11) H0 H1 → ∀ g, hJ K M_Mo_restore (0, 0) Q 41 (0, 0) [some (.ref m), some (.int g)] [] H1) : ∀ (d i : Nat) (g : Int32) (H1 : hAH), i + d = 1647 → g = nI i → RMo K H1 m c (upB Bo 0 (cp1 V0 (Bo 2) i)) → hFr m (m + 11) H0 H1 → hJ K M_Mo_restore (0, 0) Q 16 (0, 0) [some (.ref m), some (.int g)] [] H1 := by
  intro d
  induction d with
  | zero =>
    intro i g H1 hi hg h f
    obtain rfl : i = 1647 := by omega
    refine hGo_sound (okc_Mo_restore K _ _) [16, 41] 60 _ _ _ _ _ ?_
    exact ⟨fun _ => hend H1 h f g, fun q => absurd (by rw [hg]; exact nI_le (a := 1647) (by omega) (by omega)) q⟩
  | succ d ih =>
    intro i g H1 hi hg h f
    refine hGo_sound (okc_Mo_restore K _ _) [16, 41] 60 _ _ _ _ _ ?_
    refine ⟨fun q => absurd (by rw [hg] at q; exact q) (nI_ge (b := 1647) (by omega) (by omega)), fun _ => ⟨_, h.1, _, h.1, 1647, _, i, Or.inl h.ke, hg, by omega, by decide, 1647, _, i, h.v, hg, by omega, by decide, fun H2 u2 => ?_⟩⟩
    have h2 := h.wv u2
    rw [upB_u, upB_s, upB_n (by decide), cp1_s] at h2
    exact ih (i + 1) _ H2 (by omega) (by rw [hg, nI_1]) h2 (f.trans (u2.fr' (by omega) (by omega)))
set_option maxRecDepth 100000 in
set_option maxHeartbeats 4000000 in
theorem c_Mo_restore (h : RMo K H m c B) (hp : MPr c B Y) (hY : YOk Y) : hCT K M_Mo_restore [.ref m] H 0 0 (mPost K m H (sp_restore Y)) := by
  have hk : c 1 = Y.2.2.2.1 := hp.2.2.2.1
  refine hCT.go (okc_Mo_restore K _ _) [16] 60 (by decide +kernel) rfl rfl ?_
  refine ⟨_, h.1, fun hz => ?_, fun hz => ?_⟩
  · rw [hk] at hz
    have k1 : Y.2.2.2.1 = 1 := hY.2.2.2.1.resolve_left hz
    refine ⟨_, h.1, _, c_Mo_record h hp hY, ?_⟩
    rintro _ H1 ⟨rfl, ⟨q, f, h', hp'⟩, f1⟩
    refine l_restore (H0 := H) (c := upd c 0 q) (Bo := upB B 1 f) (V0 := upB B 1 f 0) (fun H2 h2 f2 g => ?_) 1647 0 _ H1 (by decide) rfl (by rw [cp1_0, upB_id]; exact h') f1
    refine hGo_sound (okc_Mo_restore K _ _) [] 60 _ _ _ _ _ ?_
    refine ⟨_, h2.1, 1647, _, 0, Or.inl h2.v, rfl, by decide, by decide, trivial, ?_⟩
    have hkp : ∀ j, j < 1647 → cp1 (upB B 1 f 0) (upB B 1 f 2) 1647 j = Y.2.2.2.2.1 j := fun j hj => by
      show (if j < 1647 then B 2 j else _) = _
      rw [if_pos hj]
      exact hp.2.2.2.2.1 k1 j hj
    refine mA h2 (Y' := yAct Y Y.2.2.2.2.1) (Y2 := yAct Y (cp1 (upB B 1 f 0) (upB B 1 f 2) 1647)) ⟨upB_s, hp'.2⟩ f2 ?_ ⟨fun i hi => (hkp i hi).symm, rfl⟩
    rw [upB_s, hkp 0 (by decide), sp_restore, if_neg hz]
  · rw [hk] at hz
    exact ⟨trivial, mN h hp (by rw [sp_restore, if_pos hz])⟩
set_option maxRecDepth 100000 in
set_option maxHeartbeats 4000000 in
theorem l_undo {Q : hPost} {H0 : hAH} {z : Nat} (hz : z < 4) {ci : Nat → Int32} (hci : ci 0 = nI z) (hend : ∀ H1, RMo K H1 m ci (upB B 0 (cp1 (B 0) (fun j => B 1 (1647 * z + j)) 1647)) → hFr m (m + 11) H0 H1 → ∀ g, hJ K M_Mo_undo (0, 0) Q 56 (0, 0) [some (.ref m), some (.int g)] [] H1) : ∀ (d i : Nat) (g : Int32) (H1 : hAH), i + d = 1647 → g = nI i → RMo K H1 m ci (upB B 0 (cp1 (B 0) (fun j => B 1 (1647 * z + j)) i)) → hFr m (m + 11) H0 H1 → hJ K M_Mo_undo (0, 0) Q 22 (0, 0) [some (.ref m), some (.int g)] [] H1 := by
  intro d
  induction d with
  | zero =>
    intro i g H1 hi hg h f
    obtain rfl : i = 1647 := by omega
    refine hGo_sound (okc_Mo_undo K _ _) [22, 56] 60 _ _ _ _ _ ?_
    exact ⟨fun _ => hend H1 h f g, fun q => absurd (by rw [hg]; exact nI_le (a := 1647) (by omega) (by omega)) q⟩
  | succ d ih =>
    intro i g H1 hi hg h f
    have hix : (1647 : Int32) * ci 0 + g = nI (1647 * z + i) := by
      rw [hci, hg]
      show nI 1647 * nI z + nI i = _
      rw [pk_mul, nI_add]
    refine hGo_sound (okc_Mo_undo K _ _) [22, 56] 60 _ _ _ _ _ ?_
    refine ⟨fun q => absurd (by rw [hg] at q; exact q) (nI_ge (b := 1647) (by omega) (by omega)), fun _ => ⟨_, h.1, _, h.1, _, h.1, 6588, _, 1647 * z + i, Or.inl h.hi, hix, by omega, by decide, 1647, _, i, h.v, hg, by omega, by decide, fun H2 u2 => ?_⟩⟩
    have h2 := h.wv u2
    rw [upB_u, upB_s, upB_n (by decide)] at h2
    have e1 : upd (cp1 (B 0) (fun j => B 1 (1647 * z + j)) i) i (B 1 (1647 * z + i)) = cp1 (B 0) (fun j => B 1 (1647 * z + j)) (i + 1) := cp1_s (B 0) (fun j => B 1 (1647 * z + j)) i
    rw [e1] at h2
    exact ih (i + 1) _ H2 (by omega) (by rw [hg, nI_1]) h2 (f.trans (u2.fr' (by omega) (by omega)))
set_option maxRecDepth 100000 in
set_option maxHeartbeats 4000000 in
theorem c_Mo_undo (h : RMo K H m c B) (hp : MPr c B Y) (hY : YOk Y) : hCT K M_Mo_undo [.ref m] H 0 0 (mPost K m H (sp_undo Y)) := by
  obtain ⟨p1, p2, p3, p4, p5, p6, p7, p8⟩ := id hp
  have hz4 := hY.2.1
  refine hCT.go (okc_Mo_undo K _ _) [22] 60 (by decide +kernel) rfl rfl ?_
  refine ⟨_, h.1, fun hz => ?_, fun hz => ?_⟩
  · rw [p2] at hz
    have hz0 : ¬ Y.2.1 = 0 := fun q => hz (by rw [q]; rfl)
    refine ⟨_, h.1, _, h.1, trivial, fun H1 u1 => ?_⟩
    have h1 : RMo K H1 m (upd c 0 (nI (Y.2.1 - 1))) B := h.sc u1 (by
      show moCell m (upd c 0 (c 0 - 1)) = _
      rw [p2, show (nI Y.2.1 - 1 : Int32) = nI (Y.2.1 - 1) from pk_sub (b := 1) (by omega)])
    refine l_undo (H0 := H) (B := B) (z := Y.2.1 - 1) (by omega) (ci := upd c 0 (nI (Y.2.1 - 1))) upd_s (fun H2 h2 f2 g => ?_) 1647 0 _ H1 (by decide) rfl (by rw [cp1_0, upB_id]; exact h1) (u1.fr' (by omega) (by omega))
    refine hGo_sound (okc_Mo_undo K _ _) [] 60 _ _ _ _ _ ?_
    refine ⟨_, h2.1, trivial, ?_⟩
    refine mA h2 (Y' := (Y.2.2.1 (Y.2.1 - 1), Y.2.1 - 1, Y.2.2)) (Y2 := (cp1 (B 0) (fun j => B 1 (1647 * (Y.2.1 - 1) + j)) 1647, Y.2.1 - 1, Y.2.2)) ⟨upB_s, upd_s, fun i hi j hj => p3 i (by have : i < Y.2.1 - 1 := hi; omega) j hj, p4, p5, p6, p7, p8⟩ f2 ?_ ⟨fun i hi => ?_, rfl⟩
    · rw [sp_undo, if_neg hz0, upd_s]
    · show Y.2.2.1 (Y.2.1 - 1) i = if i < 1647 then B 1 (1647 * (Y.2.1 - 1) + i) else B 0 i
      rw [if_pos hi]
      exact (p3 (Y.2.1 - 1) (by omega) i hi).symm
  · rw [p2] at hz
    have hz0 : Y.2.1 = 0 := nI_inj (by omega) (by decide) hz
    exact ⟨trivial, mN h hp (by rw [sp_undo, if_pos hz0])⟩
end MAd
