/-! THE REFERENCE: a guest cancels: the walk -/
section MAg
variable {K : hK} {H : hAH} {m : Nat} {c : Nat → Int32} {B : Nat → Nat → Int32} {Y : hY}
abbrev dcP (W : Nat → Int32) (z k : Nat) : Bool := decide (k < vN W) && (z.testBit k && !vMet W k z)
set_option maxRecDepth 100000 in
set_option maxHeartbeats 4000000 in
theorem l_canA {Q : hPost} {W : Nat → Int32} (hw0 : W 0 = nI (vN W)) (hn : vN W ≤ 12) {z : Nat} (h8 : W 8 = nI z) (hz : z < 4096) {ha hf w1 : Int32} {H1 : hAH} (h : RMo K H1 m c (upB B 0 W))
    (hend : ∀ g, hJ K M_Mo_cancel (0, 0) Q 162 (0, 0) [some (.ref m), some (.int w1), some (.int ha), some (.int hf), some (.int (nI (lvDis (W, z)))), some (.int g)] [] H1) : ∀ (d i : Nat) (a g : Int32), i + d = vN W → a = nI (setOf (dcP W z) i) → g = nI i → hJ K M_Mo_cancel (0, 0) Q 101 (0, 0) [some (.ref m), some (.int w1), some (.int ha), some (.int hf), some (.int a), some (.int g)] [] H1 := by
  have hv := h.v
  rw [upB_s] at hv
  intro d
  induction d with
  | zero =>
    intro i a g hi ha hg
    obtain rfl : i = vN W := by omega
    have ea : a = nI (lvDis (W, z)) := by
      rw [ha]
      congr 1
      have e := setOf_ext (p := dcP W z) (n := vN W) (12 - vN W) (fun k h1 _ => by
        show (decide (k < vN W) && _) = false
        rw [decide_eq_false (by omega)]; rfl)
      rw [show vN W + (12 - vN W) = 12 by omega] at e
      exact e.symm
    refine hGo_sound (okc_Mo_cancel K _ _) [101, 162] 120 _ _ _ _ _ ?_
    refine ⟨_, h.1, 1647, _, 0, Or.inl hv, rfl, by decide, by decide, fun _ => ?_, fun q => absurd (by rw [hg, hw0]; exact nI_le (Nat.le_refl _) (by omega)) q⟩
    rw [ea]
    exact hend g
  | succ d ih =>
    intro i a g hi ha hg
    have hk : i < vN W := by omega
    have hp : dcP W z i = (z.testBit i && !vMet W i z) := by
      show (decide (i < vN W) && _) = _
      rw [decide_eq_true hk]; rfl
    have z0' : (0 : Int32) = nI 0 := rfl
    refine hGo_sound (okc_Mo_cancel K _ _) [101, 162] 120 _ _ _ _ _ ?_
    refine ⟨_, h.1, 1647, _, 0, Or.inl hv, rfl, by decide, by decide, fun q => absurd (by rw [hg, hw0] at q; exact q) (nI_ge hk (by omega)), fun _ => ⟨_, h.1, 1647, _, 8, Or.inl hv, rfl, by decide, by decide, ?_⟩⟩
    rw [h8]
    refine ⟨_, hg ▸ c_Mo_has K H1 z (k := i) (by omega), ?_⟩
    rintro _ H1 ⟨rfl, rfl⟩
    refine ⟨fun hb => ?_, fun hb => ?_⟩
    · have hb := b2i_0.mp hb
      refine ih (i + 1) _ _ (by omega) ?_ (by rw [hg, nI_1])
      rw [ha, setOf, hp, hb, z0', nI_or]
      rfl
    · have hb := b2i_n0.mp hb
      refine ⟨_, h.1, 1647, _, 8, Or.inl hv, rfl, by decide, by decide, ?_⟩
      rw [h8]
      refine ⟨_, h.1, _, hg ▸ c_Mo_isMet h (k := i) (x := z) (by omega) hz, ?_⟩
      rintro _ H1 ⟨rfl, rfl⟩
      rw [upB_s]
      refine ⟨fun hm => ?_, fun hm => ?_⟩
      · refine ih (i + 1) _ _ (by omega) ?_ (by rw [hg, nI_1])
        rw [ha, setOf, hp, hb, b2i_n0.mp hm, z0', nI_or]
        rfl
      · refine ih (i + 1) _ _ (by omega) ?_ (by rw [hg, nI_1])
        rw [ha, setOf, hp, hb, b2i_0.mp hm, hg, shl_1 i (by omega), nI_or]
        rfl
set_option maxRecDepth 100000 in
set_option maxHeartbeats 4000000 in
theorem l_canB {Q : hPost} {H0 : hAH} {W : Nat → Int32} (hw0 : W 0 = nI (vN W)) (hn : vN W ≤ 12) {x : Nat} {v : Int32} {ha w1 : Int32}
    (hend : ∀ g H1, RMo K H1 m c (upB B 0 (lgI W x v (vN W))) → hFr m (m + 11) H0 H1 → hJ K M_Mo_cancel (0, 0) Q 247 (0, 0) [some (.ref m), some (.int w1), some (.int ha), some (.int v), some (.int (nI x)), some (.int g)] [] H1) : ∀ (d i : Nat) (g : Int32) (H1 : hAH), i + d = vN W → g = nI i → RMo K H1 m c (upB B 0 (lgI W x v i)) → hFr m (m + 11) H0 H1 → hJ K M_Mo_cancel (0, 0) Q 165 (0, 0) [some (.ref m), some (.int w1), some (.int ha), some (.int v), some (.int (nI x)), some (.int g)] [] H1 := by
  have e0 : ∀ i, lgI W x v i 0 = nI (vN W) := fun i => (lgI_o (by omega)).trans hw0
  intro d
  induction d with
  | zero =>
    intro i g H1 hi hg h f
    obtain rfl : i = vN W := by omega
    have hv := h.v
    rw [upB_s] at hv
    refine hGo_sound (okc_Mo_cancel K _ _) [165, 247] 120 _ _ _ _ _ ?_
    exact ⟨_, h.1, 1647, _, 0, Or.inl hv, rfl, by decide, by decide, fun _ => hend g H1 h f, fun q => absurd (by rw [hg, e0]; exact nI_le (Nat.le_refl _) (by omega)) q⟩
  | succ d ih =>
    intro i g H1 hi hg h f
    have hk : i < vN W := by omega
    have hv := h.v
    rw [upB_s] at hv
    have ex : inX (vN W) x i = x.testBit i := by unfold inX; rw [decide_eq_true hk]; rfl
    have o : ∀ q, 15 + 8 * i ≤ q → lgI W x v i q = W q := fun q hq => lgI_o (by omega)
    have fin : ∀ (p q : Int32) (H2 H3 : hAH), p = (if inX (vN W) x i = true then v else 0) → q = (if inX (vN W) x i = true then -5 else W (15 + 8 * i + 7)) → hUpd H1 (m + 1) (hInts K 0 1647 (upd (lgI W x v i) (15 + 8 * i + 6) (lgI W x v i (15 + 8 * i + 6) + p))) H2 → hUpd H2 (m + 1) (hInts K 0 1647 (upd (upd (lgI W x v i) (15 + 8 * i + 6) (lgI W x v i (15 + 8 * i + 6) + p)) (15 + 8 * i + 7) q)) H3 → hJ K M_Mo_cancel (0, 0) Q 165 (0, 0) [some (.ref m), some (.int w1), some (.int ha), some (.int v), some (.int (nI x)), some (.int (g + 1))] [] H3 := by
      intro p q H2 H3 hp hq u2 u3
      have h3 := (h.wv u2).wv u3
      simp only [upB_u] at h3
      rw [o _ (by omega), hp, hq, lgI_s (by omega)] at h3
      exact ih (i + 1) _ H3 (by omega) (by rw [hg, nI_1]) h3 ((f.trans (u2.fr' (by omega) (by omega))).trans (u3.fr' (by omega) (by omega)))
    refine hGo_sound (okc_Mo_cancel K _ _) [165, 247] 160 _ _ _ _ _ ?_
    refine ⟨_, h.1, 1647, _, 0, Or.inl hv, rfl, by decide, by decide, fun q => absurd (by rw [hg, e0] at q; exact q) (nI_ge hk (by omega)), fun _ => ⟨_, h.1, _, hg ▸ c_Mo_at K H1 i 6, ?_⟩⟩
    rintro _ H1 ⟨rfl, rfl⟩
    refine ⟨1647, _, _, Or.inl hv, rfl, by omega, by decide, _, hg ▸ c_Mo_has K H1 x (k := i) (by omega), ?_⟩
    rintro _ H1 ⟨rfl, rfl⟩
    refine ⟨fun hb => ?_, fun hb => ?_⟩
    · have hx : ¬ inX (vN W) x i = true := fun q => by rw [ex, b2i_0.mp hb] at q; cases q
      refine ⟨1647, _, _, hv, rfl, by omega, by decide, fun H2 u2 => ?_⟩
      have h2 := h.wv u2
      refine ⟨_, h2.1, _, hg ▸ c_Mo_at K H2 i 7, ?_⟩
      rintro _ H2 ⟨rfl, rfl⟩
      refine ⟨_, hg ▸ c_Mo_has K H2 x (k := i) (by omega), ?_⟩
      rintro _ H2 ⟨rfl, rfl⟩
      refine ⟨fun _ => ⟨_, h2.1, _, hg ▸ c_Mo_of h2 (k := i) (f := 7) (by omega), ?_⟩, fun q => absurd (b2i_0.mp hb) (by rw [b2i_n0.mp q]; decide)⟩
      rintro _ H2 ⟨rfl, rfl⟩
      have hv2 := h2.v
      simp only [upB_s] at hv2
      refine ⟨1647, _, _, hv2, rfl, by omega, by decide, fun H3 u3 => ?_⟩
      refine fin 0 _ H2 H3 (if_neg hx).symm ?_ u2 u3
      rw [upB_s, upd_n (by omega), o _ (by omega), if_neg hx]
    · have hx : inX (vN W) x i = true := ex.trans (b2i_n0.mp hb)
      refine ⟨1647, _, _, hv, rfl, by omega, by decide, fun H2 u2 => ?_⟩
      have h2 := h.wv u2
      refine ⟨_, h2.1, _, hg ▸ c_Mo_at K H2 i 7, ?_⟩
      rintro _ H2 ⟨rfl, rfl⟩
      refine ⟨_, hg ▸ c_Mo_has K H2 x (k := i) (by omega), ?_⟩
      rintro _ H2 ⟨rfl, rfl⟩
      have hv2 := h2.v
      simp only [upB_s] at hv2
      refine ⟨fun q => absurd (b2i_0.mp q) (by rw [b2i_n0.mp hb]; decide), fun _ => ⟨1647, _, _, hv2, rfl, by omega, by decide, fun H3 u3 => ?_⟩⟩
      exact fin v (-5) H2 H3 (if_pos hx).symm (if_pos hx).symm u2 u3
end MAg
