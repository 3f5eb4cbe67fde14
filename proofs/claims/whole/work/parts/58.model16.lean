/-! THE REFERENCE: a guest cancels: the loop, the contract -/
def lvI (n : Nat) (e t : Int32) (q : lvQ) : Prop := vN q.1 = n ∧ q.1 0 = nI n ∧ q.1 8 = nI q.2 ∧ q.2 < 4096 ∧ q.1 9 = e ∧ q.1 13 = t
theorem lvI_N {n : Nat} {e t : Int32} {q : lvQ} (h : lvI n e t q) : lvI n e t (lvN q) := by
  obtain ⟨h1, h2, h3, h4, h5, h6⟩ := h
  unfold lvI lvN
  dsimp only
  refine ⟨?_, ?_, ?_, dif_lt _ _, ?_, ?_⟩
  · rw [vN_n (by decide), lgV_n, h1]
  · rw [upd_n (by decide), lgV_lo (by decide) (by decide) (by decide), h2]
  · rw [upd_n (by decide)]
    exact if_pos rfl
  · rw [upd_n (by decide), lgV_lo (by decide) (by decide) (by decide), h5]
  · rw [upd_n (by decide), lgV_lo (by decide) (by decide) (by decide), h6]
theorem lvI_R {n : Nat} {e t : Int32} {q : lvQ} (h : lvI n e t q) : ∀ j, lvI n e t (lvR q j)
  | 0 => h
  | j + 1 => by
    show lvI n e t (if lvDis (lvR q j) = 0 then lvR q j else lvN (lvR q j))
    split
    · exact lvI_R h j
    · exact lvI_N (lvI_R h j)
/-- the guest's own leaving -/
theorem lg_own {V : Nat → Int32} {y k : Nat} (hk : k < vN V) (hn : vN V ≤ 12) : upd (upd V 8 (nI (dif y (2 ^ k)))) (15 + 8 * k + 7) (-5) = lgV V y (2 ^ k) 0 := by
  have hx : ∀ j, inX (vN V) (2 ^ k) j = decide (j = k) := fun j => by
    unfold inX
    rw [Nat.testBit_two_pow]
    by_cases e : j = k
    · subst e
      rw [decide_eq_true hk]; rfl
    · rw [decide_eq_false (p := k = j) (fun q => e q.symm), decide_eq_false e, Bool.and_false]
  funext j
  unfold lgV
  rw [hx]
  by_cases e7 : j = 15 + 8 * k + 7
  · rw [e7, upd_s, if_neg (by omega), if_neg (by omega), if_pos ⟨by omega, by omega, decide_eq_true (by omega)⟩, if_neg (by omega), if_pos (by omega)]
  · rw [upd_n e7]
    by_cases e8 : j = 8
    · rw [e8, upd_s, if_pos rfl]
    · rw [upd_n e8, if_neg e8]
      by_cases e11 : j = 11
      · rw [if_pos e11, Int32.zero_mul, Int32.add_zero, e11]
      · rw [if_neg e11]
        by_cases h : 15 ≤ j ∧ j < 111 ∧ decide ((j - 15) / 8 = k) = true
        · have := of_decide_eq_true h.2.2
          rw [if_pos h]
          by_cases e6 : (j - 15) % 8 = 6
          · rw [if_pos e6, Int32.add_zero]
          · rw [if_neg e6, if_neg (by omega)]
        · rw [if_neg h]
section MAh
variable {K : hK} {H : hAH} {m : Nat} {c : Nat → Int32} {B : Nat → Nat → Int32} {Y : hY}
set_option maxRecDepth 100000 in
set_option maxHeartbeats 4000000 in
theorem l_canR {Q : hPost} {W : Nat → Int32} {z n : Nat} {e t : Int32} (I : lvI n e t (W, z)) (hn : n ≤ 12) {H0 H1 : hAH} {ha w1 a : Int32} {l6 : Option Value} (ha0 : a ≠ 0) (h : RMo K H1 m c (upB B 0 W)) (f : hFr m (m + 11) H0 H1)
    (hend : ∀ g H2, RMo K H2 m c (upB B 0 (lvN (W, z)).1) → hFr m (m + 11) H0 H2 → hJ K M_Mo_cancel (0, 0) Q 90 (0, 0) [some (.ref m), some (.int w1), some (.int ha), some (.int (e / 2)), some (.int (nI (lvDis (W, z)))), some (.int g)] [] H2) : hJ K M_Mo_cancel (0, 0) Q 90 (0, 0) [some (.ref m), some (.int w1), some (.int ha), some (.int (e / 2)), some (.int a), l6] [] H1 := by
  obtain ⟨i1, i0, i8, iz, i9, i13⟩ := I
  have iz : z < 4096 := iz
  have i8 : W 8 = nI z := i8
  have i9 : W 9 = e := i9
  have i1 : vN W = n := i1
  have hw0 : W 0 = nI (vN W) := by rw [i1]; exact i0
  have hn' : vN W ≤ 12 := by rw [i1]; exact hn
  refine hGo_sound (okc_Mo_cancel K _ _) [90, 101, 162, 165, 247] 120 _ _ _ _ _ ?_
  refine ⟨fun q => absurd q ha0, fun _ => ?_⟩
  refine l_canA hw0 hn' i8 iz h (fun g => ?_) (vN W) 0 _ _ (Nat.zero_add _) rfl rfl
  refine hGo_sound (okc_Mo_cancel K _ _) [90, 101, 165, 247] 120 _ _ _ _ _ ?_
  refine l_canB (H0 := H0) hw0 hn' (fun g2 H2 h2 f2 => ?_) (vN W) 0 _ H1 (Nat.zero_add _) rfl (by rw [lgI_0]; exact h) f
  have hv2 := h2.v
  rw [upB_s] at hv2
  refine hGo_sound (okc_Mo_cancel K _ _) [90, 101, 165] 160 _ _ _ _ _ ?_
  refine ⟨_, h2.1, 1647, _, 8, Or.inl hv2, rfl, by decide, by decide, 1647, _, 8, hv2, rfl, by decide, by decide, fun H3 u3 => ?_⟩
  have h3 := h2.wv u3
  refine ⟨_, h3.1, 1647, _, 11, Or.inl h3.v, rfl, by decide, by decide, _, c_Mo_ones K H3 (lvDis_4096 (W, z)), ?_⟩
  rintro _ H3 ⟨rfl, rfl⟩
  refine ⟨1647, _, 11, h3.v, rfl, by decide, by decide, fun H4 u4 => ?_⟩
  have h4 := h3.wv u4
  refine ⟨_, h4.1, 1647, _, 14, Or.inl h4.v, rfl, by decide, by decide, _, c_Mo_ones K H4 (lvDis_4096 (W, z)), ?_⟩
  rintro _ H4 ⟨rfl, rfl⟩
  refine ⟨1647, _, 14, h4.v, rfl, by decide, by decide, fun H5 u5 => ?_⟩
  have h5 := h4.wv u5
  simp only [upB_u, upB_s] at h5
  have t8 : lgI W (lvDis (W, z)) (e / 2) (vN W) 8 &&& (nI (lvDis (W, z)) ^^^ (-1)) = nI (dif z (lvDis (W, z))) := by
    rw [lgI_o (by omega), i8]
    exact minus_eq iz
  have t11 : ∀ b, upd (lgI W (lvDis (W, z)) (e / 2) (vN W)) 8 b 11 = W 11 := fun b => by rw [upd_n (by decide), lgI_o (by omega)]
  rw [t8, t11, lg_all, lgV_lo (i := 14) (by decide) (by decide) (by decide)] at h5
  refine hend g2 H5 ?_ (((f2.trans (u3.fr' (by omega) (by omega))).trans (u4.fr' (by omega) (by omega))).trans (u5.fr' (by omega) (by omega)))
  unfold lvN
  dsimp only
  rw [i9]
  exact h5
set_option maxRecDepth 100000 in
set_option maxHeartbeats 4000000 in
theorem l_can {Q : hPost} {q0 : lvQ} {n : Nat} {e t : Int32} (I : lvI n e t q0) (hn : n ≤ 12) {H0 : hAH} {ha w1 : Int32}
    (hend : ∀ H2, RMo K H2 m c (upB B 0 (upd (lvR q0 12).1 13 (t + 1))) → hFr m (m + 11) H0 H2 → Q (some (.int (ha - nI (pop (lvR q0 12).2)))) H2) : ∀ (d j : Nat) (a : Int32) (l6 : Option Value) (H1 : hAH), j + d = 12 → a ≠ 0 → RMo K H1 m c (upB B 0 (lvR q0 j).1) → hFr m (m + 11) H0 H1 → hJ K M_Mo_cancel (0, 0) Q 90 (0, 0) [some (.ref m), some (.int w1), some (.int ha), some (.int (e / 2)), some (.int a), l6] [] H1 := by
  -- the end: nobody has left
  have fin : ∀ (g : Int32) (H1 : hAH), RMo K H1 m c (upB B 0 (lvR q0 12).1) → hFr m (m + 11) H0 H1 → hJ K M_Mo_cancel (0, 0) Q 90 (0, 0) [some (.ref m), some (.int w1), some (.int ha), some (.int (e / 2)), some (.int 0), some (.int g)] [] H1 := by
    intro g H1 h f
    obtain ⟨i1, i0, i8, iz, i9, i13⟩ := lvI_R I 12
    have hv := h.v
    rw [upB_s] at hv
    refine hGo_sound (okc_Mo_cancel K _ _) [90, 101] 120 _ _ _ _ _ ?_
    refine ⟨fun _ => ?_, fun q => absurd rfl q⟩
    refine ⟨_, h.1, 1647, _, 13, Or.inl hv, rfl, by decide, by decide, 1647, _, 13, hv, rfl, by decide, by decide, fun H2 u2 => ?_⟩
    have h2 := h.wv u2
    rw [upB_u, i13] at h2
    have hv2 := h2.v
    rw [upB_s] at hv2
    refine ⟨_, h2.1, 1647, _, 8, Or.inl hv2, rfl, by decide, by decide, ?_⟩
    rw [upd_n (by decide), i8]
    refine ⟨_, c_Mo_ones K H2 iz, ?_⟩
    rintro _ H2 ⟨rfl, rfl⟩
    exact ⟨trivial, hend H2 h2 (f.trans (u2.fr' (by omega) (by omega)))⟩
  -- a round in which nobody leaves
  have stop : ∀ (j : Nat) (g : Int32) (H2 : hAH), j ≤ 12 → lvDis (lvR q0 j) = 0 → RMo K H2 m c (upB B 0 (lvN ((lvR q0 j).1, (lvR q0 j).2)).1) → hFr m (m + 11) H0 H2 → hJ K M_Mo_cancel (0, 0) Q 90 (0, 0) [some (.ref m), some (.int w1), some (.int ha), some (.int (e / 2)), some (.int (nI (lvDis ((lvR q0 j).1, (lvR q0 j).2)))), some (.int g)] [] H2 := by
    intro j g H2 hj hz h2 f2
    obtain ⟨-, -, i8, iz, -, -⟩ := lvI_R I j
    have e12 : lvR q0 12 = lvR q0 j := by
      have := lv_stop hz (12 - j)
      rw [show j + (12 - j) = 12 by omega] at this
      exact this
    rw [lvN_0 i8 iz hz] at h2
    have hz' : nI (lvDis ((lvR q0 j).1, (lvR q0 j).2)) = 0 := by
      show nI (lvDis (lvR q0 j)) = 0
      rw [hz]; rfl
    rw [hz']
    exact fin g H2 (by rw [e12]; exact h2) f2
  intro d
  induction d with
  | zero =>
    intro j a l6 H1 hj ha0 h f
    obtain rfl : j = 12 := by omega
    exact l_canR (W := (lvR q0 12).1) (z := (lvR q0 12).2) (lvI_R I 12) hn ha0 h f (fun g H2 h2 f2 => stop 12 g H2 (Nat.le_refl _) (lv_end q0) h2 f2)
  | succ d ih =>
    intro j a l6 H1 hj ha0 h f
    refine l_canR (W := (lvR q0 j).1) (z := (lvR q0 j).2) (lvI_R I j) hn ha0 h f (fun g H2 h2 f2 => ?_)
    by_cases hz : lvDis (lvR q0 j) = 0
    · exact stop j g H2 (by omega) hz h2 f2
    · have hl := lvDis_4096 (lvR q0 j)
      have e : lvR q0 (j + 1) = lvN (lvR q0 j) := if_neg hz
      refine ih (j + 1) _ _ H2 (by omega) (nI_ne0 (Nat.pos_of_ne_zero hz) (by show lvDis (lvR q0 j) < _; omega)) ?_ f2
      rw [e]
      exact h2
set_option maxRecDepth 100000 in
set_option maxHeartbeats 4000000 in
theorem c_Mo_cancel (h : RMo K H m c B) (hp : MPr c B Y) (hY : YOk Y) (g : Int32) : hCT K M_Mo_cancel [.ref m, .int g] H 0 0 (mPost K m H (sp_cancel Y g)) := by
  have wf := hY.1
  have hV : B 0 = Y.1 := hp.1
  have hn := wf.1.2
  have h12 := two12 hn
  obtain ⟨y, hy, ey, -⟩ := wf.2.2.2.1.2
  have ecl : clp (Y.1 8) = y := by rw [ey]; exact clp_nI (by omega)
  refine hCT.go (okc_Mo_cancel K _ _) [90] 120 (by decide +kernel) rfl rfl ?_
  refine ⟨_, h.1, _, c_Mo_isGuest h g, ?_⟩
  rintro _ H ⟨rfl, rfl⟩
  rw [hV]
  refine ⟨fun hq => ?_, fun hq => ?_⟩
  · have hg := of_decide_eq_true (b2i_n0.mp hq)
    obtain ⟨k, hk, rfl⟩ := (gOk_iff wf).mp hg
    have ek : clp (nI k) = k := clp_nI (by omega)
    refine ⟨_, h.1, _, c_Mo_isFixed h, ?_⟩
    rintro _ H ⟨rfl, rfl⟩
    rw [hV]
    refine ⟨fun hz => ?_, fun hz => ?_⟩
    · have h71 := of_decide_eq_false (b2i_0.mp hz)
      exact ⟨trivial, mN h hp (by rw [sp_cancel, if_neg (fun q => q hg), if_pos (Or.inl h71)])⟩
    · have h71 := of_decide_eq_true (b2i_n0.mp hz)
      refine ⟨_, h.1, 1647, _, 8, Or.inl h.v, rfl, by decide, by decide, ?_⟩
      rw [hV, ey]
      refine ⟨_, c_Mo_has K H y (k := k) (by omega), ?_⟩
      rintro _ H ⟨rfl, rfl⟩
      refine ⟨fun hb => ?_, fun hb => ?_⟩
      · have hb := b2i_n0.mp hb
        refine ⟨_, h.1, _, c_Mo_record h hp hY, ?_⟩
        rintro _ H1 ⟨rfl, ⟨q, f, h', hp'⟩, f1⟩
        have ev : upB B 1 f 0 = Y.1 := hV
        refine ⟨_, h'.1, 1647, _, 8, Or.inl h'.v, rfl, by decide, by decide, ?_⟩
        rw [ev, ey]
        refine ⟨_, c_Mo_ones K H1 (x := y) (by omega), ?_⟩
        rintro _ H1 ⟨rfl, rfl⟩
        refine ⟨_, h'.1, 1647, _, 9, Or.inl h'.v, rfl, by decide, by decide, by decide, ?_⟩
        refine ⟨_, h'.1, 1647, _, 8, Or.inl h'.v, rfl, by decide, by decide, 1647, _, 8, h'.v, rfl, by decide, by decide, fun H2 u2 => ?_⟩
        have h2 := h'.wv u2
        refine ⟨_, h2.1, _, c_Mo_at K H2 k 7, ?_⟩
        rintro _ H2 ⟨rfl, rfl⟩
        refine ⟨1647, _, _, h2.v, rfl, by omega, by decide, fun H3 u3 => ?_⟩
        have h3 := h2.wv u3
        simp only [upB_u, upB_s] at h3
        rw [ev] at h3 ⊢
        rw [ey, shl_1 k (by omega), minus_eq (show y < 4096 by omega), lg_own hk hn] at h3
        have I : lvI (vN Y.1) (Y.1 9) (Y.1 13) (lgV Y.1 y (2 ^ k) 0, dif y (2 ^ k)) := by
          have i0 : lgV Y.1 y (2 ^ k) 0 0 = nI (vN Y.1) := by
            rw [lgV_lo (by decide) (by decide) (by decide)]
            exact wf.1.1
          have i8 : lgV Y.1 y (2 ^ k) 0 8 = nI (dif y (2 ^ k)) := if_pos rfl
          have i9 : lgV Y.1 y (2 ^ k) 0 9 = Y.1 9 := lgV_lo (by decide) (by decide) (by decide)
          have i13 : lgV Y.1 y (2 ^ k) 0 13 = Y.1 13 := lgV_lo (by decide) (by decide) (by decide)
          exact ⟨lgV_n, i0, i8, dif_lt _ _, i9, i13⟩
        refine l_can (H0 := H) (B := upB B 1 f) I hn (fun H4 h4 f4 => ?_) 12 0 _ _ H3 (by decide) (by decide) h3 ((f1.trans (u2.fr' (by omega) (by omega))).trans (u3.fr' (by omega) (by omega)))
        have e0 : lv0 Y.1 y k = (upd (lgV Y.1 y (2 ^ k) 0) 13 (Y.1 13 + 1), dif y (2 ^ k)) := rfl
        have eR : lvR (lv0 Y.1 y k) 12 = (upd (lvR (lgV Y.1 y (2 ^ k) 0, dif y (2 ^ k)) 12).1 13 (Y.1 13 + 1), (lvR (lgV Y.1 y (2 ^ k) 0, dif y (2 ^ k)) 12).2) := by
          rw [e0, lvR_13]
        refine mA h4 (Y2 := yAct Y (lvR (lv0 Y.1 y k) 12).1) ⟨by rw [upB_s, eR]; rfl, hp'.2⟩ f4 ?_ hYeq.rfl
        rw [sp_cancel, if_neg (fun q => q hg), ecl, ek, if_neg (fun q => q.elim (fun q => q h71) (fun q => by rw [hb] at q; cases q)), eR]
      · have hb := b2i_0.mp hb
        exact ⟨trivial, mN h hp (by rw [sp_cancel, if_neg (fun q => q hg), ecl, ek, if_pos (Or.inr hb)])⟩
  · have hg := of_decide_eq_false (b2i_0.mp hq)
    exact ⟨trivial, mN h hp (by rw [sp_cancel, if_pos hg])⟩
end MAh
