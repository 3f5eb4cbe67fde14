/-! THE REFERENCE: fixing -/
def fxI (V : Nat → Int32) (x n : Nat) : Nat → Int32 := fun i => if 15 ≤ i ∧ i < 111 ∧ (i - 15) / 8 < n ∧ inX (vN V) x ((i - 15) / 8) = true then (if (i - 15) % 8 = 3 then 0 else if (i - 15) % 8 = 5 then V i + (vFee V (nI (pop x)) + V (i - 2)) else if (i - 15) % 8 = 7 then nI (cnt (inX (vN V) x) ((i - 15) / 8)) else V i) else V i
theorem fxI_0 (V : Nat → Int32) (x : Nat) : fxI V x 0 = V := funext fun j => if_neg (fun q => by omega)
theorem fxI_o {V : Nat → Int32} {x n i : Nat} (h : ¬ (15 ≤ i ∧ i < 111 ∧ (i - 15) / 8 < n)) : fxI V x n i = V i := if_neg fun q => h ⟨q.1, q.2.1, q.2.2.1⟩
theorem fxI_no {V : Nat → Int32} {x n : Nat} (h : inX (vN V) x n = false) : fxI V x (n + 1) = fxI V x n := by
  funext j
  unfold fxI
  by_cases e : (j - 15) / 8 = n
  · rw [if_neg (fun q => by rw [e, h] at q; exact absurd q.2.2.2 (by decide)), if_neg (fun q => by omega)]
  · by_cases h2 : 15 ≤ j ∧ j < 111 ∧ (j - 15) / 8 < n ∧ inX (vN V) x ((j - 15) / 8) = true
    · rw [if_pos ⟨h2.1, h2.2.1, by omega, h2.2.2.2⟩, if_pos h2]
    · rw [if_neg (fun q => h2 ⟨q.1, q.2.1, by omega, q.2.2.2⟩), if_neg h2]
theorem fxI_yes {V : Nat → Int32} {x n : Nat} (hn : n < 12) (h : inX (vN V) x n = true) : upd (upd (upd (fxI V x n) (15 + 8 * n + 5) (V (15 + 8 * n + 5) + (vFee V (nI (pop x)) + V (15 + 8 * n + 3)))) (15 + 8 * n + 3) 0) (15 + 8 * n + 7) (nI (cnt (inX (vN V) x) n)) = fxI V x (n + 1) := by
  funext j
  by_cases e7 : j = 15 + 8 * n + 7
  · rw [e7, upd_s]
    unfold fxI
    have e1 : (15 + 8 * n + 7 - 15) / 8 = n := by omega
    rw [e1, if_pos ⟨by omega, by omega, by omega, h⟩, if_neg (by omega), if_neg (by omega), if_pos (by omega)]
  · rw [upd_n e7]
    by_cases e3 : j = 15 + 8 * n + 3
    · rw [e3, upd_s]
      unfold fxI
      have e1 : (15 + 8 * n + 3 - 15) / 8 = n := by omega
      rw [e1, if_pos ⟨by omega, by omega, by omega, h⟩, if_pos (by omega)]
    · rw [upd_n e3]
      by_cases e5 : j = 15 + 8 * n + 5
      · rw [e5, upd_s]
        unfold fxI
        have e1 : (15 + 8 * n + 5 - 15) / 8 = n := by omega
        rw [e1, if_pos ⟨by omega, by omega, by omega, h⟩, if_neg (by omega), if_pos (by omega), show 15 + 8 * n + 5 - 2 = 15 + 8 * n + 3 by omega]
      · rw [upd_n e5]
        unfold fxI
        by_cases e : (j - 15) / 8 = n
        · rw [if_neg (fun q => by omega)]
          by_cases hj : 15 ≤ j ∧ j < 111
          · rw [e, if_pos ⟨hj.1, hj.2, by omega, h⟩, if_neg (by omega), if_neg (by omega), if_neg (by omega)]
          · rw [if_neg (fun q => hj ⟨q.1, q.2.1⟩)]
        · by_cases h2 : 15 ≤ j ∧ j < 111 ∧ (j - 15) / 8 < n ∧ inX (vN V) x ((j - 15) / 8) = true
          · rw [if_pos h2, if_pos (show 15 ≤ j ∧ j < 111 ∧ (j - 15) / 8 < n + 1 ∧ inX (vN V) x ((j - 15) / 8) = true from ⟨h2.1, h2.2.1, by omega, h2.2.2.2⟩)]
          · rw [if_neg h2, if_neg (fun q => h2 ⟨q.1, q.2.1, by omega, q.2.2.2⟩)]
theorem fx_eq {V : Nat → Int32} {x : Nat} : upd (upd (upd (upd (upd (fxI V x (vN V)) 7 1) 8 (nI x)) 9 (vFee V (nI (pop x)))) 10 (V 10 + sumI (fxvP V x) 12)) 12 (V 12 + 1) = fxV V x := by
  funext j
  unfold fxV
  by_cases e12 : j = 12
  · rw [e12, upd_s, if_neg (by decide), if_neg (by decide), if_neg (by decide), if_neg (by decide), if_pos rfl]
  · rw [upd_n e12]
    by_cases e10 : j = 10
    · rw [e10, upd_s, if_neg (by decide), if_neg (by decide), if_neg (by decide), if_pos rfl]
    · rw [upd_n e10]
      by_cases e9 : j = 9
      · rw [e9, upd_s, if_neg (by decide), if_neg (by decide), if_pos rfl]
      · rw [upd_n e9]
        by_cases e8 : j = 8
        · rw [e8, upd_s, if_neg (by decide), if_pos rfl]
        · rw [upd_n e8]
          by_cases e7 : j = 7
          · rw [e7, upd_s, if_pos rfl]
          · rw [upd_n e7, if_neg e7, if_neg e8, if_neg e9, if_neg e10, if_neg e12]
            unfold fxI
            by_cases h2 : 15 ≤ j ∧ j < 111 ∧ inX (vN V) x ((j - 15) / 8) = true
            · have hlt : (j - 15) / 8 < vN V := of_decide_eq_true ((Bool.and_eq_true _ _).mp h2.2.2).1
              rw [if_pos h2, if_pos ⟨h2.1, h2.2.1, hlt, h2.2.2⟩]
            · rw [if_neg h2, if_neg (fun q => h2 ⟨q.1, q.2.1, q.2.2.2⟩)]
section MAf
variable {K : hK} {H : hAH} {m : Nat} {c : Nat → Int32} {B : Nat → Nat → Int32} {Y : hY}
set_option maxRecDepth 100000 in
set_option maxHeartbeats 4000000 in
theorem l_fix {Q : hPost} {H0 : hAH} {V : Nat → Int32} (w : WF V) {x : Nat} (hend : ∀ H1, RMo K H1 m c (upB B 0 (fxV V x)) → hFr m (m + 11) H0 H1 → Q (some (.int (sumI (fxvP V x) 12))) H1) : ∀ (d i : Nat) (s t g : Int32) (l6 : Option Value) (H1 : hAH), i + d = vN V → s = sumI (fxvP V x) i → t = nI (cnt (inX (vN V) x) i) → g = nI i → RMo K H1 m c (upB B 0 (fxI V x i)) → hFr m (m + 11) H0 H1 → hJ K M_Mo_fix (0, 0) Q 43 (0, 0) [some (.ref m), some (.int (nI x)), some (.int (vFee V (nI (pop x)))), some (.int s), some (.int t), some (.int g), l6] [] H1 := by
  have hn := w.1.2
  have e0 : ∀ i, fxI V x i 0 = nI (vN V) := fun i => (fxI_o (by omega)).trans w.1.1
  intro d
  induction d with
  | zero =>
    intro i s t g l6 H1 hi hs ht hg h f
    obtain rfl : i = vN V := by omega
    have es : s = sumI (fxvP V x) 12 := by
      rw [hs]
      have e := sumI_ext (p := fxvP V x) (n := vN V) (12 - vN V) (fun k h1 _ => by
        unfold fxvP inX
        rw [decide_eq_false (by omega)]
        rfl)
      rw [show vN V + (12 - vN V) = 12 by omega] at e
      exact e.symm
    have hv := h.v
    rw [upB_s] at hv
    refine hGo_sound (okc_Mo_fix K _ _) [43] 120 _ _ _ _ _ ?_
    refine ⟨_, h.1, 1647, _, 0, Or.inl hv, rfl, by decide, by decide, fun _ => ?_, fun q => absurd (by rw [hg, e0]; exact nI_le (Nat.le_refl _) (by omega)) q⟩
    refine ⟨_, h.1, 1647, _, 7, hv, rfl, by decide, by decide, fun H2 u2 => ?_⟩
    have h2 := h.wv u2
    refine ⟨_, h2.1, 1647, _, 8, h2.v, rfl, by decide, by decide, fun H3 u3 => ?_⟩
    have h3 := h2.wv u3
    refine ⟨_, h3.1, 1647, _, 9, h3.v, rfl, by decide, by decide, fun H4 u4 => ?_⟩
    have h4 := h3.wv u4
    refine ⟨_, h4.1, 1647, _, 10, Or.inl h4.v, rfl, by decide, by decide, 1647, _, 10, h4.v, rfl, by decide, by decide, fun H5 u5 => ?_⟩
    have h5 := h4.wv u5
    refine ⟨_, h5.1, 1647, _, 12, Or.inl h5.v, rfl, by decide, by decide, 1647, _, 12, h5.v, rfl, by decide, by decide, fun H6 u6 => ⟨trivial, ?_⟩⟩
    have h6 := h5.wv u6
    simp only [upB_u, upB_s] at h6
    have t10 : upd (upd (upd (fxI V x (vN V)) 7 1) 8 (nI x)) 9 (vFee V (nI (pop x))) 10 = V 10 := by
      rw [upd_n (by decide), upd_n (by decide), upd_n (by decide), fxI_o (by omega)]
    have t12 : ∀ a, upd (upd (upd (upd (fxI V x (vN V)) 7 1) 8 (nI x)) 9 (vFee V (nI (pop x)))) 10 a 12 = V 12 := fun a => by
      rw [upd_n (by decide), upd_n (by decide), upd_n (by decide), upd_n (by decide), fxI_o (by omega)]
    rw [t10, t12, es, fx_eq] at h6
    rw [es]
    exact hend H6 h6 (((((f.trans (u2.fr' (by omega) (by omega))).trans (u3.fr' (by omega) (by omega))).trans (u4.fr' (by omega) (by omega))).trans (u5.fr' (by omega) (by omega))).trans (u6.fr' (by omega) (by omega)))
  | succ d ih =>
    intro i s t g l6 H1 hi hs ht hg h f
    have hk : i < vN V := by omega
    have hv := h.v
    rw [upB_s] at hv
    have ex : inX (vN V) x i = x.testBit i := by unfold inX; rw [decide_eq_true hk]; rfl
    refine hGo_sound (okc_Mo_fix K _ _) [43] 120 _ _ _ _ _ ?_
    refine ⟨_, h.1, 1647, _, 0, Or.inl hv, rfl, by decide, by decide, fun q => absurd (by rw [hg, e0] at q; exact q) (nI_ge hk (by omega)), fun _ => ⟨_, hg ▸ c_Mo_has K H1 x (k := i) (by omega), ?_⟩⟩
    rintro _ H1 ⟨rfl, rfl⟩
    refine ⟨fun hb => ?_, fun hb => ?_⟩
    · have hb := b2i_0.mp hb
      have hx : inX (vN V) x i = false := ex.trans hb
      refine ih (i + 1) _ _ _ _ H1 (by omega) ?_ ?_ (by rw [hg, nI_1]) (by rw [fxI_no hx]; exact h) f
      · rw [hs, sumI, fxvP, if_neg (by rw [hx]; decide), Int32.add_zero]
      · rw [ht, cnt, hx]; rfl
    · have hb := b2i_n0.mp hb
      have hx : inX (vN V) x i = true := ex.trans hb
      have o : ∀ q, 15 + 8 * i ≤ q → fxI V x i q = V q := fun q hq => fxI_o (by omega)
      refine ⟨_, h.1, _, hg ▸ c_Mo_of h (k := i) (f := 3) (by omega), ?_⟩
      rintro _ H1 ⟨rfl, rfl⟩
      rw [upB_s, o _ (by omega)]
      refine ⟨_, h.1, _, hg ▸ c_Mo_at K H1 i 5, ?_⟩
      rintro _ H1 ⟨rfl, rfl⟩
      refine ⟨1647, _, _, Or.inl hv, rfl, by omega, by decide, 1647, _, _, hv, rfl, by omega, by decide, fun H2 u2 => ?_⟩
      have h2 := h.wv u2
      refine ⟨_, h2.1, _, hg ▸ c_Mo_at K H2 i 3, ?_⟩
      rintro _ H2 ⟨rfl, rfl⟩
      refine ⟨1647, _, _, h2.v, rfl, by omega, by decide, fun H3 u3 => ?_⟩
      have h3 := h2.wv u3
      refine ⟨_, h3.1, _, hg ▸ c_Mo_at K H3 i 7, ?_⟩
      rintro _ H3 ⟨rfl, rfl⟩
      refine ⟨1647, _, _, h3.v, rfl, by omega, by decide, fun H4 u4 => ?_⟩
      have h4 := h3.wv u4
      simp only [upB_u, upB_s] at h4
      rw [o (15 + 8 * i + 5) (by omega), ht, fxI_yes (by omega) hx] at h4
      refine ih (i + 1) _ _ _ _ H4 (by omega) ?_ ?_ (by rw [hg, nI_1]) h4 (((f.trans (u2.fr' (by omega) (by omega))).trans (u3.fr' (by omega) (by omega))).trans (u4.fr' (by omega) (by omega)))
      · rw [hs, sumI, fxvP, if_pos hx]
        rfl
      · rw [ht, cnt, hx, nI_1]; rfl
set_option maxRecDepth 100000 in
set_option maxHeartbeats 4000000 in
theorem c_Mo_fix (h : RMo K H m c B) (hp : MPr c B Y) (hY : YOk Y) : hCT K M_Mo_fix [.ref m] H 0 0 (mPost K m H (sp_fix Y)) := by
  have wf := hY.1
  have hV : B 0 = Y.1 := hp.1
  have h12 := two12 wf.1.2
  have hlt := ch_lt wf
  refine hCT.go (okc_Mo_fix K _ _) [43] 60 (by decide +kernel) rfl rfl ?_
  refine ⟨_, h.1, _, c_Mo_isFixed h, ?_⟩
  rintro _ H ⟨rfl, rfl⟩
  rw [hV]
  refine ⟨fun hz => ?_, fun hz => ?_⟩
  · have h71 := of_decide_eq_false (b2i_0.mp hz)
    refine ⟨_, h.1, _, c_Mo_chosen h (hV ▸ wf), ?_⟩
    rintro _ H0 ⟨rfl, ⟨R, Ro, v, h0⟩, f0⟩
    rw [hV]
    have hp0 : MPr (upd c 5 v) (upB (upB B 8 R) 9 Ro) Y := hp.gr
    refine ⟨fun hc => ?_, fun hc => ?_⟩
    · have hc0 : vCh Y.1 ≠ 0 := fun q => hc (by rw [q]; rfl)
      obtain ⟨k, hk12, hkb⟩ := ne0_bit hc0 (by omega)
      refine ⟨_, h0.1, _, c_Mo_record h0 hp0 hY, ?_⟩
      rintro _ H1 ⟨rfl, ⟨q, f, h', hp'⟩, f1⟩
      have ev : upB (upB (upB B 8 R) 9 Ro) 1 f 0 = Y.1 := hV
      refine ⟨_, c_Mo_ones K H1 (x := vCh Y.1) (by omega), ?_⟩
      rintro _ H1 ⟨rfl, rfl⟩
      refine ⟨_, h'.1, _, c_Mo_feeOf h' (pop_pos hk12 hkb), ?_⟩
      rintro _ H1 ⟨rfl, rfl⟩
      rw [ev]
      refine l_fix (H0 := H) (B := upB (upB (upB B 8 R) 9 Ro) 1 f) wf (fun H2 h2 f2 => ?_) (vN Y.1) 0 _ _ _ _ H1 (Nat.zero_add _) rfl rfl rfl (by rw [fxI_0, ← ev, upB_id]; exact h') (f0.trans f1)
      refine mA h2 (Y2 := yAct Y (fxV Y.1 (vCh Y.1))) ⟨upB_s, hp'.2⟩ f2 ?_ hYeq.rfl
      rw [sp_fix, if_neg h71, if_neg hc0]
    · have hc0 : vCh Y.1 = 0 := nI_inj (by omega) (by decide) hc
      exact ⟨trivial, mA h0 hp0 f0 (by rw [sp_fix, if_neg h71, if_pos hc0]) hYeq.rfl⟩
  · have h71 := of_decide_eq_true (b2i_n0.mp hz)
    exact ⟨trivial, mN h hp (by rw [sp_fix, if_pos h71])⟩
end MAf
