/-! WHAT THE LAW NEEDS OF THE NUMBERS BEYOND THEIR RANGES; m calls that may change something lie behind -/
section LI
variable {V V' : Nat → Int32} {k m : Nat}
def vL8 (V : Nat → Int32) : Nat := clp (V 8)
def LG (m : Nat) (x3 x5 x6 : Int32) (inn : Prop) (f : Nat) : Prop := ∃ p g c, p ≤ 1000000 * m ∧ c ≤ 10000 * m ∧ g ≤ p ∧ x5 = nI p ∧ x6 = nI g ∧ x3 = nI c ∧ (inn → g + f ≤ p)
def LK (m n f : Nat) (V : Nat → Int32) (k : Nat) : Prop := vLet V k < 2 ^ n ∧ (V 7 = 1 → (vL8 V).testBit k = true → ∃ s, s < 12 ∧ vG V k 7 = nI s) ∧ LG m (vG V k 3) (vG V k 5) (vG V k 6) (V 7 = 1 ∧ (vL8 V).testBit k = true) f
def LI (m : Nat) (V : Nat → Int32) : Prop := ∃ d f, d ≤ 5 * m ∧ f ≤ 109998 ∧ V 1 = nI d ∧ V 9 = nI f ∧ ∀ k, k < vN V → LK m (vN V) f V k
theorem LG.mono {m m' : Nat} {x3 x5 x6 : Int32} {i i' : Prop} {f : Nat} (h : LG m x3 x5 x6 i f) (hm : m ≤ m') (hi : i' → i) : LG m' x3 x5 x6 i' f := by
  obtain ⟨p, g, c, h1, h2, h3, h4, h5, h6, h7⟩ := h
  exact ⟨p, g, c, by omega, by omega, h3, h4, h5, h6, fun q => h7 (hi q)⟩
theorem LI.mono {m m' : Nat} (h : LI m V) (hm : m ≤ m') : LI m' V := by
  obtain ⟨d, f, h1, h2, h3, h4, h5⟩ := h
  exact ⟨d, f, by omega, h2, h3, h4, fun k hk => ⟨(h5 k hk).1, (h5 k hk).2.1, (h5 k hk).2.2.mono hm id⟩⟩
theorem LI.re {m m' : Nat} (h : LI m V) (hm : m ≤ m') (h0 : V' 0 = V 0) (h1 : ∃ d, d ≤ 5 * m' ∧ V' 1 = nI d) (h7 : V' 7 = V 7) (h8 : V' 8 = V 8) (h9 : V' 9 = V 9) (hg : ∀ k, k < vN V → vLet V' k < 2 ^ vN V ∧ vG V' k 5 = vG V k 5 ∧ vG V' k 6 = vG V k 6 ∧ vG V' k 7 = vG V k 7 ∧ ∃ c, c ≤ 10000 * m' ∧ vG V' k 3 = nI c) : LI m' V' := by
  have hN : vN V' = vN V := by unfold vN; rw [h0]
  obtain ⟨d, f, -, a2, -, a4, a5⟩ := h
  obtain ⟨d', b1, b2⟩ := h1
  refine ⟨d', f, b1, a2, b2, h9.trans a4, fun k hk => ?_⟩
  rw [hN] at hk ⊢
  obtain ⟨g4, g5, g6, g7, c, hc, ec⟩ := hg k hk
  obtain ⟨-, i7, p, g, c0, p1, -, p3, p4, p5, -, p7⟩ := a5 k hk
  unfold LK
  rw [h7, show vL8 V' = vL8 V by unfold vL8; rw [h8], g7]
  exact ⟨g4, i7, p, g, c, by omega, hc, p3, g5.trans p4, g6.trans p5, ec, p7⟩
theorem LI.c3 (h : LI m V) (hk : k < vN V) : ∃ c, c ≤ 10000 * m ∧ vG V k 3 = nI c := by
  obtain ⟨d, f, -, -, -, -, a5⟩ := h
  obtain ⟨-, -, p, g, c, -, p2, -, -, -, p6, -⟩ := a5 k hk
  exact ⟨c, p2, p6⟩
theorem LI.lt (h : LI m V) (hk : k < vN V) : vLet V k < 2 ^ vN V := by
  obtain ⟨d, f, -, -, -, -, a5⟩ := h
  exact (a5 k hk).1
theorem LI.day (h : LI m V) : ∃ d, d ≤ 5 * m ∧ V 1 = nI d := by
  obtain ⟨d, f, h1, h2, h3, h4, h5⟩ := h
  exact ⟨d, h1, h3⟩
/-- one number of a guest that the invariant does not speak of -/
theorem LI.gu {c : Nat} (h : LI m V) (hc : c < 3) (v : Int32) : LI m (upd V (15 + 8 * k + c) v) := by
  have o : ∀ i, i < 15 → upd V (15 + 8 * k + c) v i = V i := fun i hi => upd_n (by omega)
  refine h.re (Nat.le_refl _) (o 0 (by decide)) ?_ (o 7 (by decide)) (o 8 (by decide)) (o 9 (by decide)) fun j hj => ?_
  · rw [o 1 (by decide)]; exact h.day
  · have g : ∀ f, 3 ≤ f → f < 8 → vG (upd V (15 + 8 * k + c) v) j f = vG V j f := fun f h3 hf => by rw [vG_upd (by omega) hf, if_neg (fun q => by omega)]
    refine ⟨?_, g 5 (by decide) (by decide), g 6 (by decide) (by decide), g 7 (by decide) (by decide), ?_⟩
    · unfold vLet
      rw [g 4 (by decide) (by decide)]
      exact h.lt hj
    · rw [g 3 (by decide) (by decide)]; exact h.c3 hj
theorem LI.ch (h : LI m V) (h6 : ∃ e, e ≤ 9999 ∧ V 6 = nI e) : LI (m + 1) (chgV V k) := by
  unfold chgV
  split
  · obtain ⟨e, he, e6⟩ := h6
    have o : ∀ i, i < 15 → upd V (18 + 8 * k) (V (18 + 8 * k) + V 6) i = V i := fun i hi => upd_n (by omega)
    refine h.re (Nat.le_succ m) (o 0 (by decide)) ?_ (o 7 (by decide)) (o 8 (by decide)) (o 9 (by decide)) fun j hj => ?_
    · rw [o 1 (by decide)]
      obtain ⟨d, hd, ed⟩ := h.day
      exact ⟨d, by omega, ed⟩
    · have g : ∀ f, f < 8 → vG (upd V (18 + 8 * k) (V (18 + 8 * k) + V 6)) j f = if j = k ∧ f = 3 then V (18 + 8 * k) + V 6 else vG V j f := fun f hf => by
        rw [show 18 + 8 * k = 15 + 8 * k + 3 by omega]
        exact vG_upd (by decide) hf
      have g' : ∀ f, f < 8 → f ≠ 3 → vG (upd V (18 + 8 * k) (V (18 + 8 * k) + V 6)) j f = vG V j f := fun f hf h3 => by rw [g f hf, if_neg (fun q => h3 q.2)]
      refine ⟨?_, g' 5 (by decide) (by decide), g' 6 (by decide) (by decide), g' 7 (by decide) (by decide), ?_⟩
      · unfold vLet
        rw [g' 4 (by decide) (by decide)]
        exact h.lt hj
      · obtain ⟨c, hc, ec⟩ := h.c3 hj
        rw [g 3 (by decide)]
        by_cases e : j = k
        · subst e
          rw [if_pos ⟨rfl, rfl⟩]
          have e18 : V (18 + 8 * j) = nI c := by
            rw [← ec]
            unfold vG
            rw [show 15 + 8 * j + 3 = 18 + 8 * j by omega]
          rw [e18, e6, nI_add]
          exact ⟨c + e, by omega, rfl⟩
        · rw [if_neg (fun q => e q.1)]
          exact ⟨c, by omega, ec⟩
  · exact h.mono (Nat.le_succ m)
theorem LI.cnd {L : Nat} {p : Nat → Bool} (h : LI m V) (hn : vN V ≤ 12) (hk : k < vN V) (hL : L < 2 ^ vN V) : LI m (cndV V k L p) := by
  have o : ∀ i, i < 15 → cndV V k L p i = V i := fun i hi => cnd_o (by omega) (by omega)
  refine h.re (Nat.le_refl _) (o 0 (by decide)) ?_ (o 7 (by decide)) (o 8 (by decide)) (o 9 (by decide)) fun j hj => ?_
  · rw [o 1 (by decide)]; exact h.day
  · have g : ∀ f, f < 8 → vG (cndV V k L p) j f = if j = k ∧ f = 4 then nI L else vG V j f := fun f hf => cnd_g (by omega) hf
    have h12 := two12 hn
    refine ⟨?_, by rw [g 5 (by decide), if_neg (fun q => absurd q.2 (by decide))], by rw [g 6 (by decide), if_neg (fun q => absurd q.2 (by decide))], by rw [g 7 (by decide), if_neg (fun q => absurd q.2 (by decide))], ?_⟩
    · unfold vLet
      rw [g 4 (by decide)]
      by_cases e : j = k
      · rw [if_pos ⟨e, rfl⟩, nI_clamp (by omega)]; exact hL
      · rw [if_neg (fun q => e q.1)]; exact h.lt hj
    · rw [g 3 (by decide), if_neg (fun q => absurd q.2 (by decide))]; exact h.c3 hj
theorem LI.lo {i : Nat} (h : LI m V) (h1 : 2 ≤ i) (h6 : i < 7) (v : Int32) : LI m (upd V i v) := by
  have o : ∀ j, j ≠ i → upd V i v j = V j := fun j hj => upd_n hj
  have g : ∀ j f, vG (upd V i v) j f = vG V j f := fun j f => o _ (by omega)
  refine h.re (Nat.le_refl _) (o 0 (by omega)) ?_ (o 7 (by omega)) (o 8 (by omega)) (o 9 (by omega)) fun j hj => ⟨?_, g j 5, g j 6, g j 7, ?_⟩
  · rw [o 1 (by omega)]; exact h.day
  · unfold vLet
    rw [g]
    exact h.lt hj
  · rw [g]; exact h.c3 hj
theorem LI.ps (h : LI m V) {e : Nat} (he : e ≤ 5) : LI (m + 1) (upd V 1 (V 1 + nI e)) := by
  have o : ∀ j, j ≠ 1 → upd V 1 (V 1 + nI e) j = V j := fun j hj => upd_n hj
  have g : ∀ j f, vG (upd V 1 (V 1 + nI e)) j f = vG V j f := fun j f => o _ (by omega)
  refine h.re (Nat.le_succ _) (o 0 (by omega)) ?_ (o 7 (by omega)) (o 8 (by omega)) (o 9 (by omega)) fun j hj => ⟨?_, g j 5, g j 6, g j 7, ?_⟩
  · obtain ⟨d, hd, ed⟩ := h.day
    rw [upd_s, ed, nI_add]
    exact ⟨d + e, by omega, rfl⟩
  · unfold vLet
    rw [g]
    exact h.lt hj
  · rw [g]
    obtain ⟨c, hc, ec⟩ := h.c3 hj
    exact ⟨c, by omega, ec⟩
theorem fee_bd (w : WF V) {x : Nat} : ∃ f, f ≤ 109998 ∧ vFee V (nI (pop x)) = nI f := by
  obtain ⟨⟨h, hh, e2⟩, ⟨d, hd, e3⟩, -⟩ := w.2.2.1
  by_cases z : pop x = 0
  · refine ⟨0, by decide, ?_⟩
    rw [z]
    unfold vFee feeC
    rw [if_neg (by decide)]
    rfl
  · have hp := pop_le x
    refine ⟨_, ?_, fee_nat hh hd e2 e3 (by omega) hp⟩
    have : (h + pop x - 1) / pop x ≤ (h + 1 - 1) / 1 := ceil_anti (h := h) (a := 1) (b := pop x) (by decide) (by omega)
    rw [Nat.div_one] at this
    omega
theorem inX_iff {n x k : Nat} : inX n x k = true ↔ k < n ∧ x.testBit k = true := by
  unfold inX
  simp
theorem LI.fx (h : LI m V) (w : WF V) (hf : ¬ V 7 = 1) {x : Nat} (hx : x < 2 ^ vN V) (hm : m ≤ 80) : LI (m + 1) (fxV V x) := by
  obtain ⟨d, f, a1, a2, a3, a4, a5⟩ := h
  obtain ⟨f', b1, b2⟩ := fee_bd w (x := x)
  have hn := w.1.2
  have h12 := two12 hn
  refine ⟨d, f', by omega, b1, ?_, b2, fun k hk => ?_⟩
  · rw [fxV_lo (by decide)]; exact a3
  · rw [fxV_n] at hk ⊢
    obtain ⟨i4, -, p, g, c, p1, p2, p3, p4, p5, p6, -⟩ := a5 k hk
    have e8 : vL8 (fxV V x) = x := clp_nI (by omega)
    have gg : ∀ f, f < 8 → vG (fxV V x) k f = if inX (vN V) x k = true then (if f = 3 then 0 else if f = 5 then vG V k 5 + (vFee V (nI (pop x)) + vG V k 3) else if f = 7 then nI (cnt (inX (vN V) x) k) else vG V k f) else vG V k f := fun f hf => fxV_g (by omega) hf
    unfold LK vLet
    rw [e8, gg 3 (by decide), gg 4 (by decide), gg 5 (by decide), gg 6 (by decide), gg 7 (by decide)]
    by_cases hi : inX (vN V) x k = true
    · simp only [if_pos hi]
      refine ⟨i4, fun _ _ => ⟨_, ?_, rfl⟩, p + (f' + c), g, 0, by omega, by omega, by omega, ?_, p5, rfl, fun _ => by omega⟩
      · have := cnt_le (inX (vN V) x) k
        omega
      · show vG V k 5 + (vFee V (nI (pop x)) + vG V k 3) = _
        rw [p4, p6, b2, nI_add, nI_add]
    · simp only [if_neg hi]
      have hno : ¬ x.testBit k = true := fun q => hi (inX_iff.mpr ⟨hk, q⟩)
      exact ⟨i4, fun _ q => absurd q hno, p, g, c, by omega, by omega, p3, p4, p5, p6, fun q => absurd q.2 hno⟩
theorem LI.lg (h : LI m V) (w : WF V) (h7 : V 7 = 1) {x y e : Nat} {v : Int32} (hy : V 8 = nI y) (hy2 : y < 4096) (hx : ∀ k, x.testBit k = true → y.testBit k = true) (hv : v = nI e) (he : ∀ f, f ≤ 109998 → V 9 = nI f → e ≤ f) : LI m (lgV V y x v) := by
  obtain ⟨d, f, a1, a2, a3, a4, a5⟩ := h
  have hef := he f a2 a4
  have hn := w.1.2
  refine ⟨d, f, a1, a2, ?_, ?_, fun k hk => ?_⟩
  · rw [lgV_lo (by decide) (by decide) (by decide)]; exact a3
  · rw [lgV_lo (by decide) (by decide) (by decide)]; exact a4
  · rw [lgV_n] at hk ⊢
    obtain ⟨i4, i7, p, g, c, p1, p2, p3, p4, p5, p6, p7⟩ := a5 k hk
    have e8 : vL8 (lgV V y x v) = dif y x := by
      have := dif_lt y x
      exact clp_nI (by omega)
    have ey : vL8 V = y := by unfold vL8; rw [hy]; exact clp_nI (by omega)
    have e7 : lgV V y x v 7 = 1 := by rw [lgV_lo (by decide) (by decide) (by decide)]; exact h7
    have gg : ∀ f, f < 8 → vG (lgV V y x v) k f = if inX (vN V) x k = true then (if f = 6 then vG V k 6 + v else if f = 7 then -5 else vG V k f) else vG V k f := fun f hf => lgV_g (by omega) hf
    rw [ey] at i7 p7
    unfold LK vLet
    rw [e8, e7, gg 3 (by decide), gg 4 (by decide), gg 5 (by decide), gg 6 (by decide), gg 7 (by decide), dif_bit, decide_eq_true (show k < 12 by omega), Bool.true_and]
    by_cases hi : inX (vN V) x k = true
    · simp only [if_pos hi]
      have hb := (inX_iff.mp hi).2
      have hyb := hx k hb
      have hgf := p7 ⟨h7, hyb⟩
      rw [hb]
      refine ⟨i4, fun _ q => ?_, p, g + e, c, p1, p2, by omega, p4, ?_, p6, fun q => ?_⟩
      · simp at q
      · show vG V k 6 + v = _
        rw [p5, hv, nI_add]
      · simp at q
    · simp only [if_neg hi]
      have hno : x.testBit k = false := by
        cases hb : x.testBit k
        · rfl
        · exact absurd (inX_iff.mpr ⟨hk, hb⟩) hi
      rw [hno]
      simp only [Bool.not_false, Bool.and_true]
      exact ⟨i4, fun _ q => i7 h7 q, p, g, c, p1, p2, p3, p4, p5, p6, fun q => p7 ⟨h7, q.2⟩⟩
theorem LI.hi {i : Nat} (h : LI m V) (hi : i = 13 ∨ i = 14) (v : Int32) : LI m (upd V i v) := by
  have o : ∀ j, j ≠ i → upd V i v j = V j := fun j hj => upd_n hj
  have g : ∀ j f, vG (upd V i v) j f = vG V j f := fun j f => o _ (by omega)
  refine h.re (Nat.le_refl _) (o 0 (by omega)) ?_ (o 7 (by omega)) (o 8 (by omega)) (o 9 (by omega)) fun j hj => ⟨?_, g j 5, g j 6, g j 7, ?_⟩
  · rw [o 1 (by omega)]; exact h.day
  · unfold vLet
    rw [g]
    exact h.lt hj
  · rw [g]; exact h.c3 hj
theorem half (f : Nat) (hf : f ≤ 109998) : nI f / 2 = nI (f / 2) := pk_div (d := 2) (by omega) (by decide) (by decide)
theorem LI.lv (h : LI m V) (w : WF V) (h7 : V 7 = 1) {y g : Nat} (hy : V 8 = nI y) (hy2 : y < 4096) (hg : g < vN V) (hyg : y.testBit g = true) : ∀ j, LI m (lvR (lv0 V y g) j).1
  | 0 => by
    refine (h.lg w h7 (e := 0) hy hy2 (fun k hk => ?_) rfl fun _ _ _ => Nat.zero_le _).hi (Or.inl rfl) _
    rw [Nat.testBit_two_pow] at hk
    have := of_decide_eq_true hk
    rw [← this]
    exact hyg
  | j + 1 => by
    have i0 := LI.lv h w h7 hy hy2 hg hyg j
    obtain ⟨i1, i2, i3, i4⟩ := w.lv h7 hy hy2 hg j
    have ev : lvR (lv0 V y g) (j + 1) = if lvDis (lvR (lv0 V y g) j) = 0 then lvR (lv0 V y g) j else lvN (lvR (lv0 V y g) j) := rfl
    rw [ev]
    by_cases hz : lvDis (lvR (lv0 V y g) j) = 0
    · rw [if_pos hz]; exact i0
    · rw [if_neg hz]
      obtain ⟨d, f, a1, a2, a3, a4, a5⟩ := id i0
      refine (i0.lg i1 i2 (e := f / 2) i3 i4 (fun k hk => (lvDis_lt hk).2) ?_ fun f' hf' e' => ?_).hi (Or.inr rfl) _
      · rw [a4]; exact half f a2
      · have : f = f' := nI_inj (by omega) (by omega) (a4.symm.trans e')
        omega
theorem LI.ds (h : LI m V) (w : WF V) : LI m (dsV V) := by
  obtain ⟨d, f, a1, a2, a3, a4, a5⟩ := h
  have hn := w.1.2
  refine ⟨d, f, a1, a2, a3, a4, fun k hk => ?_⟩
  rw [dsV_n] at hk ⊢
  obtain ⟨i4, -, p, g, c, p1, p2, p3, p4, p5, p6, -⟩ := a5 k hk
  have gg : ∀ f, f < 8 → f ≠ 7 → vG (dsV V) k f = vG V k f := fun f hf h7 => by rw [dsV_g (by omega) hf, if_neg (fun q => h7 q.2)]
  have e7 : ¬ dsV V 7 = 1 := by
    show ¬ (0 : Int32) = 1
    decide
  unfold LK vLet
  rw [gg 3 (by decide) (by decide), gg 4 (by decide) (by decide), gg 5 (by decide) (by decide), gg 6 (by decide) (by decide)]
  exact ⟨i4, fun q => absurd q e7, p, g, c, p1, p2, p3, p4, p5, p6, fun q => absurd q.1 e7⟩
theorem LI.ad (h : LI m V) (w : WF V) (hf : ¬ V 7 = 1) (hlt : vN V < 12) (a c : Int32) : LI m (addV V (vN V) a c) := by
  obtain ⟨d, f, a1, a2, a3, a4, a5⟩ := h
  have hN : vN (addV V (vN V) a c) = vN V + 1 := nI_clamp (by omega)
  have hz := w.2.2.2.2.2.2 (vN V) (Nat.le_refl _) hlt
  generalize hnn : vN V = n at *
  have o : ∀ i, i ≠ 0 → (i < 15 + 8 * n ∨ 23 + 8 * n ≤ i) → (i < 111 + 128 * n ∨ 239 + 128 * n ≤ i) → addV V n a c i = V i := fun i h1 h2 h3 => by
    unfold addV
    rw [if_neg h1, if_neg (by omega), if_neg (by omega), if_neg (by omega), if_neg (by omega), if_neg (by omega)]
  have ov : ∀ k f, k < 12 → f < 8 → (k ≠ n ∨ (3 ≤ f ∧ f ≤ 6)) → vG (addV V n a c) k f = vG V k f := fun k f hk hf h => by
    unfold vG addV
    rw [if_neg (by omega), if_neg (by omega), if_neg (by omega), if_neg (by omega), if_neg (by omega), if_neg (by omega)]
  have e7 : addV V n a c 7 = V 7 := o 7 (by decide) (by omega) (by omega)
  refine ⟨d, f, a1, a2, ?_, ?_, fun k hk => ?_⟩
  · rw [o 1 (by decide) (by omega) (by omega)]; exact a3
  · rw [o 9 (by decide) (by omega) (by omega)]; exact a4
  · rw [hN] at hk ⊢
    have h2 : 2 ^ n < 2 ^ (n + 1) := by rw [Nat.pow_succ]; have := Nat.two_pow_pos n; omega
    unfold LK vLet
    rw [e7, ov k 3 (by omega) (by decide) (Or.inr (by decide)), ov k 4 (by omega) (by decide) (Or.inr (by decide)), ov k 5 (by omega) (by decide) (Or.inr (by decide)), ov k 6 (by omega) (by decide) (Or.inr (by decide))]
    by_cases e : k = n
    · subst e
      obtain ⟨z3, z4, z5, z6⟩ := hz
      rw [z3, z4, z5, z6]
      exact ⟨Nat.two_pow_pos _, fun q => absurd q hf, 0, 0, 0, by omega, by omega, by omega, rfl, rfl, rfl, fun q => absurd q.1 hf⟩
    · obtain ⟨i4, -, p, g, c, p1, p2, p3, p4, p5, p6, -⟩ := a5 k (by omega)
      exact ⟨Nat.lt_trans i4 h2, fun q => absurd q hf, p, g, c, p1, p2, p3, p4, p5, p6, fun q => absurd q.1 hf⟩
theorem LI.zero : LI 0 V0 := ⟨0, 0, Nat.le_refl _, by decide, rfl, rfl, fun k hk => absurd hk (Nat.not_lt_zero k)⟩
end LI
/-! each call keeps it -/
section LY
variable {Y : hY} {m : Nat}
theorem li_addGuest (h : YOk Y) (i : LI m Y.1) (l w : Int32) : LI m (sp_addGuest Y l w).2.1 := by
  unfold sp_addGuest
  by_cases c1 : ¬ (0 ≤ l ∧ l ≤ 99999) ∨ ¬ (1 ≤ w ∧ w ≤ 9)
  · rw [if_pos c1]; exact i
  · rw [if_neg c1]
    by_cases c2 : Y.1 7 = 1
    · rw [if_pos c2]; exact i
    · rw [if_neg c2]
      by_cases c3 : vN Y.1 = 12
      · rw [if_pos c3]; exact i
      · rw [if_neg c3]
        have := h.1.1.2
        exact i.ad h.1 c2 (by omega) l w
theorem six (w : WF Y.1) {j : Nat} {v : Int32} (hj : 15 ≤ j) : ∃ e, e ≤ 9999 ∧ upd Y.1 j v 6 = nI e := by
  rw [upd_n (by omega)]
  exact w.2.2.1.2.2.2.2
theorem li_setLimit (h : YOk Y) (i : LI m Y.1) (g l : Int32) : LI (m + 1) (sp_setLimit Y g l).2.1 := by
  have i1 := i.mono (Nat.le_succ m)
  unfold sp_setLimit
  by_cases c1 : ¬ gOk Y.1 g
  · rw [if_pos c1]; exact i1
  · rw [if_neg c1]
    by_cases c2 : ¬ (0 ≤ l ∧ l ≤ 99999)
    · rw [if_pos c2]; exact i1
    · rw [if_neg c2]
      by_cases c3 : Y.1 7 = 1
      · rw [if_pos c3]; exact i1
      · rw [if_neg c3]
        by_cases c4 : vG Y.1 (clp g) 0 = l
        · rw [if_pos c4]; exact i1
        · rw [if_neg c4]
          exact (i.gu (c := 0) (by decide) l).ch (six h.1 (by omega))
theorem li_setWeight (i : LI m Y.1) (g l : Int32) : LI (m + 1) (sp_setWeight Y g l).2.1 := by
  have i1 := i.mono (Nat.le_succ m)
  unfold sp_setWeight
  by_cases c1 : ¬ gOk Y.1 g
  · rw [if_pos c1]; exact i1
  · rw [if_neg c1]
    by_cases c2 : ¬ (1 ≤ l ∧ l ≤ 9)
    · rw [if_pos c2]; exact i1
    · rw [if_neg c2]
      by_cases c3 : Y.1 7 = 1
      · rw [if_pos c3]; exact i1
      · rw [if_neg c3]
        by_cases c4 : vG Y.1 (clp g) 1 = l
        · rw [if_pos c4]; exact i1
        · rw [if_neg c4]
          have := i1.gu (k := clp g) (c := 1) (by decide) l
          rw [show 15 + 8 * clp g + 1 = 16 + 8 * clp g by omega] at this
          exact this
theorem li_invite (h : YOk Y) (i : LI m Y.1) (g l : Int32) : LI (m + 1) (sp_invite Y g l).2.1 := by
  have i1 := i.mono (Nat.le_succ m)
  unfold sp_invite
  by_cases c1 : ¬ gOk Y.1 g
  · rw [if_pos c1]; exact i1
  · rw [if_neg c1]
    by_cases c3 : Y.1 7 = 1
    · rw [if_pos c3]; exact i1
    · rw [if_neg c3]
      by_cases c4 : vG Y.1 (clp g) 2 = l
      · rw [if_pos c4]; exact i1
      · rw [if_neg c4]
        have := i.gu (k := clp g) (c := 2) (by decide) l
        rw [show 15 + 8 * clp g + 2 = 17 + 8 * clp g by omega] at this
        exact this.ch (six h.1 (by omega))
theorem li_set (i : LI m Y.1) (x v : Int32) : LI (m + 1) (sp_set Y x v).2.1 := by
  have i1 := i.mono (Nat.le_succ m)
  unfold sp_set
  by_cases c1 : ¬ (0 ≤ x ∧ x ≤ 4)
  · rw [if_pos c1]; exact i1
  · rw [if_neg c1]
    by_cases c2 : ¬ (setLo (clp x) ≤ v ∧ v ≤ setHi (clp x))
    · rw [if_pos c2]; exact i1
    · rw [if_neg c2]
      by_cases c3 : Y.1 7 = 1
      · rw [if_pos c3]; exact i1
      · rw [if_neg c3]
        by_cases c4 : Y.1 (2 + clp x) = v
        · rw [if_pos c4]; exact i1
        · rw [if_neg c4]
          have hx := Classical.not_not.mp c1
          obtain ⟨j, hj, rfl⟩ := rng (M := 4) (by decide) hx.1 hx.2
          rw [clp_nI (by omega)]
          exact i1.lo (by omega) (by omega) v
theorem li_pass (i : LI m Y.1) {e : Nat} (he : e ≤ 5) : LI (m + 1) (sp_pass Y (nI e)).2.1 := by
  have i1 := i.mono (Nat.le_succ m)
  unfold sp_pass
  by_cases c1 : ¬ (1 ≤ nI e ∧ nI e ≤ 60)
  · rw [if_pos c1]; exact i1
  · rw [if_neg c1]
    by_cases c2 : 999 < Y.1 1 + nI e
    · rw [if_pos c2]; exact i1
    · rw [if_neg c2]
      exact i.ps he
theorem li_fix (h : YOk Y) (i : LI m Y.1) (hm : m ≤ 80) : LI (m + 1) (sp_fix Y).2.1 := by
  have i1 := i.mono (Nat.le_succ m)
  unfold sp_fix
  by_cases c1 : Y.1 7 = 1
  · rw [if_pos c1]; exact i1
  · rw [if_neg c1]
    by_cases c2 : vCh Y.1 = 0
    · rw [if_pos c2]; exact i1
    · rw [if_neg c2]
      exact i.fx h.1 c1 (ch_lt h.1) hm
theorem li_cancel (h : YOk Y) (i : LI m Y.1) (g : Int32) : LI m (sp_cancel Y g).2.1 := by
  unfold sp_cancel
  by_cases c1 : ¬ gOk Y.1 g
  · rw [if_pos c1]; exact i
  · rw [if_neg c1]
    by_cases c2 : ¬ Y.1 7 = 1 ∨ (clp (Y.1 8)).testBit (clp g) = false
    · rw [if_pos c2]; exact i
    · rw [if_neg c2]
      have h71 : Y.1 7 = 1 := Classical.not_not.mp fun q => c2 (Or.inl q)
      have hk := gOk_k h (Classical.not_not.mp c1)
      obtain ⟨y, hy, ey, -⟩ := h.1.2.2.2.1.2
      have h12 := two12 h.1.1.2
      have ecl : clp (Y.1 8) = y := by rw [ey]; exact clp_nI (by omega)
      have hb : y.testBit (clp g) = true := by
        rw [← ecl]
        cases hb : (clp (Y.1 8)).testBit (clp g)
        · exact absurd (Or.inr hb) c2
        · rfl
      rw [ecl]
      exact i.lv h.1 h71 ey (by omega) hk hb 12
theorem li_dissolve (h : YOk Y) (i : LI m Y.1) : LI m (sp_dissolve Y).2.1 := by
  unfold sp_dissolve
  by_cases c1 : ¬ Y.1 7 = 1
  · rw [if_pos c1]; exact i
  · rw [if_neg c1]
    exact i.ds h.1
theorem li_type (i : LI m Y.1) (c : Nat) : LI m (sp_type Y c).2.1 := by
  unfold sp_type
  split <;> exact i
theorem li_setCondition (h : YOk Y) (i : LI m Y.1) (g : Int32) : LI (m + 1) (sp_setCondition Y g).2.1 := by
  have i1 := i.mono (Nat.le_succ m)
  unfold sp_setCondition
  by_cases c1 : ¬ gOk Y.1 g
  · rw [if_pos c1]; exact i1
  · rw [if_neg c1]
    by_cases c2 : ¬ tF Y.2.2.2.2.2.2 Y.2.2.2.2.2.1 = -1
    · rw [if_pos c2]; exact i1
    · rw [if_neg c2]
      by_cases c3 : ¬ tL Y.2.2.2.2.2.2 Y.2.2.2.2.2.1 < 2 ^ vN Y.1
      · rw [if_pos c3]; exact i1
      · rw [if_neg c3]
        by_cases c4 : Y.1 7 = 1
        · rw [if_pos c4]; exact i1
        · rw [if_neg c4]
          have hk := gOk_k h (Classical.not_not.mp c1)
          have hn := h.1.1.2
          refine (i.cnd hn hk (Classical.not_not.mp c3)).ch ?_
          rw [cnd_o (by omega) (by omega)]
          exact h.1.2.2.1.2.2.2.2
end LY
