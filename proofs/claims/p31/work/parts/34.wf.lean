/-! THE NUMBERS KEEP TO THEIR RANGES -/
section WW
variable {V V' : Nat → Int32} {k : Nat}
abbrev wfSeat (V : Nat → Int32) (n k : Nat) : Prop := (vG V k 7 = -5 ∨ (V 7 = 1 ∧ ∃ y, V 8 = nI y ∧ y < 4096 ∧ y.testBit k = true)) ∧ ∀ j, j < n → j ≠ k → vG V j 7 = vG V k 7 → vG V k 7 = -5
abbrev wfThree (V : Nat → Int32) (k : Nat) : Prop := (∃ d, d ≤ 99999 ∧ vG V k 0 = nI d) ∧ (∃ d, 1 ≤ d ∧ d ≤ 9 ∧ vG V k 1 = nI d) ∧ (vG V k 2 = 0 ∨ vG V k 2 = 1)
theorem WF.re (w : WF V) (h0 : V' 0 = V 0) (h1 : ∃ d, d ≤ 999 ∧ V' 1 = nI d) (h2 : (∃ d, d ≤ 99999 ∧ V' 2 = nI d) ∧ (∃ d, d ≤ 9999 ∧ V' 3 = nI d) ∧ (∃ d, 1 ≤ d ∧ d ≤ 12 ∧ V' 4 = nI d) ∧ (∃ d, d ≤ 999 ∧ V' 5 = nI d) ∧ ∃ d, d ≤ 9999 ∧ V' 6 = nI d)
    (h3 : (V' 7 = 0 ∨ V' 7 = 1) ∧ ∃ y, y < 2 ^ vN V ∧ V' 8 = nI y ∧ (V' 7 = 0 → y = 0)) (h4 : ∀ k, k < vN V → wfThree V' k ∧ vG V' k 4 = vG V k 4 ∧ wfSeat V' (vN V) k) (hm : ∀ k x, k < 12 → x < 4096 → vMet V' k x = vMet V k x) (h6 : V' 10 = sumI (fun k => vG V' k 5) 12 ∧ V' 11 = sumI (fun k => vG V' k 6) 12) (h7 : ∀ k, vN V ≤ k → k < 12 → ∀ f, 3 ≤ f → f ≤ 6 → vG V' k f = vG V k f) : WF V' := by
  have hN : vN V' = vN V := by unfold vN; rw [h0]
  have hn := w.1.2
  unfold WF
  rw [hN]
  refine ⟨⟨h0.trans w.1.1, hn⟩, h1, h2, h3, fun k hk => ?_, h6, fun k hk hk2 => ?_⟩
  · obtain ⟨⟨a, b, c⟩, d, e, f⟩ := h4 k hk
    obtain ⟨-, -, -, w4, -, -, w7⟩ := w.2.2.2.2.1 k hk
    have el : vLet V' k = vLet V k := by unfold vLet; rw [d]
    refine ⟨a, b, c, by rw [el, d]; exact w4, e, f, fun x y hx hy hs h => ?_⟩
    rw [hm k y (by omega) hy]
    exact w7 x y hx hy hs (by rw [← hm k x (by omega) hx]; exact h)
  · have h := w.2.2.2.2.2.2 k hk hk2
    rw [h7 k hk hk2 3 (by decide) (by decide), h7 k hk hk2 4 (by decide) (by decide), h7 k hk hk2 5 (by decide) (by decide), h7 k hk hk2 6 (by decide) (by decide)]
    exact h
theorem vG_upd {V : Nat → Int32} {k c j f : Nat} {v : Int32} (hc : c < 8) (hf : f < 8) : vG (upd V (15 + 8 * k + c) v) j f = if j = k ∧ f = c then v else vG V j f := by
  unfold vG
  by_cases h : j = k ∧ f = c
  · rw [if_pos h, h.1, h.2, upd_s]
  · rw [if_neg h, upd_n (fun q => h (by omega))]
theorem wfThree_of (h : wfThree V k) (e : ∀ f, f < 3 → vG V' k f = vG V k f) : wfThree V' k := by
  unfold wfThree
  rw [e 0 (by decide), e 1 (by decide), e 2 (by decide)]
  exact h
theorem WF.three (w : WF V) (hk : k < vN V) : wfThree V k := ⟨(w.2.2.2.2.1 k hk).1, (w.2.2.2.2.1 k hk).2.1, (w.2.2.2.2.1 k hk).2.2.1⟩
theorem WF.seat (w : WF V) (hk : k < vN V) : wfSeat V (vN V) k := ⟨(w.2.2.2.2.1 k hk).2.2.2.2.1, (w.2.2.2.2.1 k hk).2.2.2.2.2.1⟩
theorem wfSeat_of {n : Nat} (hk : k < n) (h : wfSeat V n k) (e : ∀ j, j < n → vG V' j 7 = vG V j 7) (e7 : V' 7 = V 7) (e8 : V' 8 = V 8) : wfSeat V' n k := by
  refine ⟨?_, fun j hj hne => ?_⟩
  · rw [e k hk, e7, e8]; exact h.1
  · rw [e j hj, e k hk]; exact h.2 j hj hne
theorem WF.gu (w : WF V) (hk : k < vN V) {c : Nat} (hc : c < 4) {v : Int32} (h0 : c = 0 → ∃ d, d ≤ 99999 ∧ v = nI d) (h1 : c = 1 → ∃ d, 1 ≤ d ∧ d ≤ 9 ∧ v = nI d) (h2 : c = 2 → v = 0 ∨ v = 1) : WF (upd V (15 + 8 * k + c) v) := by
  have hn := w.1.2
  have o : ∀ i, i < 15 → upd V (15 + 8 * k + c) v i = V i := fun i hi => upd_n (by omega)
  have g : ∀ j f, f < 8 → (j ≠ k ∨ f ≠ c) → vG (upd V (15 + 8 * k + c) v) j f = vG V j f := fun j f hf h => by rw [vG_upd (by omega) hf, if_neg (fun q => by omega)]
  have gc : vG (upd V (15 + 8 * k + c) v) k c = v := by rw [vG_upd (by omega) (by omega), if_pos ⟨rfl, rfl⟩]
  refine w.re (o 0 (by decide)) ?_ ?_ ?_ (fun j hj => ⟨?_, g j 4 (by decide) (by omega), ?_⟩) (fun j x hj hx => vMet_n (by omega)) ⟨?_, ?_⟩ (fun j h1 h2 f h3 h4 => g j f (by omega) (by omega))
  · rw [o 1 (by decide)]; exact w.2.1
  · rw [o 2 (by decide), o 3 (by decide), o 4 (by decide), o 5 (by decide), o 6 (by decide)]; exact w.2.2.1
  · rw [o 7 (by decide), o 8 (by decide)]; exact w.2.2.2.1
  · by_cases e : j = k
    · subst e
      obtain ⟨a, b, d⟩ := w.three hj
      refine ⟨?_, ?_, ?_⟩
      · by_cases e : c = 0
        · obtain ⟨z, hz, ez⟩ := h0 e
          subst e
          exact ⟨z, hz, gc.trans ez⟩
        · rw [g j 0 (by decide) (Or.inr (Ne.symm e))]; exact a
      · by_cases e : c = 1
        · obtain ⟨z, hz, hz2, ez⟩ := h1 e
          subst e
          exact ⟨z, hz, hz2, gc.trans ez⟩
        · rw [g j 1 (by decide) (Or.inr (Ne.symm e))]; exact b
      · by_cases e : c = 2
        · have := h2 e
          subst e
          rw [gc]; exact this
        · rw [g j 2 (by decide) (Or.inr (Ne.symm e))]; exact d
    · exact wfThree_of (w.three hj) fun f hf => g j f (by omega) (Or.inl e)
  · exact wfSeat_of hj (w.seat hj) (fun i hi => g i 7 (by decide) (by omega)) (o 7 (by decide)) (o 8 (by decide))
  · rw [o 10 (by decide), w.2.2.2.2.2.1.1]
    exact sumI_cong fun j hj => (g j 5 (by decide) (by omega)).symm
  · rw [o 11 (by decide), w.2.2.2.2.2.1.2]
    exact sumI_cong fun j hj => (g j 6 (by decide) (by omega)).symm
theorem WF.ch (w : WF V) (hk : k < vN V) : WF (chgV V k) := by
  unfold chgV
  split
  · have := w.gu hk (c := 3) (by decide) (v := V (18 + 8 * k) + V 6) (fun q => absurd q (by decide)) (fun q => absurd q (by decide)) (fun q => absurd q (by decide))
    rw [show 15 + 8 * k + 3 = 18 + 8 * k by omega] at this
    exact this
  · exact w
/-- one of the first numbers -/
theorem WF.lo (w : WF V) {i : Nat} {v : Int32} (h1 : 1 ≤ i) (h6 : i < 7) (c1 : i = 1 → ∃ d, d ≤ 999 ∧ v = nI d) (c2 : i = 2 → ∃ d, d ≤ 99999 ∧ v = nI d) (c3 : i = 3 → ∃ d, d ≤ 9999 ∧ v = nI d) (c4 : i = 4 → ∃ d, 1 ≤ d ∧ d ≤ 12 ∧ v = nI d) (c5 : i = 5 → ∃ d, d ≤ 999 ∧ v = nI d) (c6 : i = 6 → ∃ d, d ≤ 9999 ∧ v = nI d) : WF (upd V i v) := by
  have o : ∀ j, j ≠ i → upd V i v j = V j := fun j hj => upd_n hj
  have g : ∀ j f, vG (upd V i v) j f = vG V j f := fun j f => o _ (by omega)
  obtain ⟨-, w1, ⟨w2, w3, w4, w5, w6⟩, w7, -, w10, -⟩ := id w
  have key : ∀ (P : Int32 → Prop) (j : Nat), P (V j) → (i = j → P v) → P (upd V i v j) := fun P j h1 h2 => by
    by_cases e : j = i
    · subst e; rw [upd_s]; exact h2 rfl
    · rw [o j e]; exact h1
  refine w.re (o 0 (by omega)) ?_ ⟨?_, ?_, ?_, ?_, ?_⟩ ?_ (fun j hj => ⟨?_, g j 4, ?_⟩) (fun j x hj hx => vMet_n (by omega)) ⟨?_, ?_⟩ (fun j h1 h2 f h3 h4 => g j f)
  · exact key (fun z => ∃ d, d ≤ 999 ∧ z = nI d) 1 w1 c1
  · exact key (fun z => ∃ d, d ≤ 99999 ∧ z = nI d) 2 w2 c2
  · exact key (fun z => ∃ d, d ≤ 9999 ∧ z = nI d) 3 w3 c3
  · exact key (fun z => ∃ d, 1 ≤ d ∧ d ≤ 12 ∧ z = nI d) 4 w4 c4
  · exact key (fun z => ∃ d, d ≤ 999 ∧ z = nI d) 5 w5 c5
  · exact key (fun z => ∃ d, d ≤ 9999 ∧ z = nI d) 6 w6 c6
  · rw [o 7 (by omega), o 8 (by omega)]; exact w7
  · exact wfThree_of (w.three hj) fun f hf => g j f
  · exact wfSeat_of hj (w.seat hj) (fun i hi => g i 7) (o 7 (by omega)) (o 8 (by omega))
  · rw [o 10 (by omega), w10.1]
    exact sumI_cong fun j hj => (g j 5).symm
  · rw [o 11 (by omega), w10.2]
    exact sumI_cong fun j hj => (g j 6).symm
theorem WF.hi (w : WF V) {i : Nat} {v : Int32} (h : i = 9 ∨ i = 12 ∨ i = 13 ∨ i = 14) : WF (upd V i v) := by
  have o : ∀ j, j ≠ i → upd V i v j = V j := fun j hj => upd_n hj
  have g : ∀ j f, vG (upd V i v) j f = vG V j f := fun j f => o _ (by omega)
  obtain ⟨-, w1, w2, w7, -, w10, -⟩ := id w
  refine w.re (o 0 (by omega)) ?_ ?_ ?_ (fun j hj => ⟨?_, g j 4, ?_⟩) (fun j x hj hx => vMet_n (by omega)) ⟨?_, ?_⟩ (fun j h1 h2 f h3 h4 => g j f)
  · rw [o 1 (by omega)]; exact w1
  · rw [o 2 (by omega), o 3 (by omega), o 4 (by omega), o 5 (by omega), o 6 (by omega)]; exact w2
  · rw [o 7 (by omega), o 8 (by omega)]; exact w7
  · exact wfThree_of (w.three hj) fun f hf => g j f
  · exact wfSeat_of hj (w.seat hj) (fun i hi => g i 7) (o 7 (by omega)) (o 8 (by omega))
  · rw [o 10 (by omega), w10.1]
    exact sumI_cong fun j hj => (g j 5).symm
  · rw [o 11 (by omega), w10.2]
    exact sumI_cong fun j hj => (g j 6).symm
theorem sumI_add (p q : Nat → Int32) : ∀ n, sumI p n + sumI q n = sumI (fun k => p k + q k) n
  | 0 => rfl
  | n + 1 => by
    rw [sumI, sumI, sumI, ← sumI_add p q n, Int32.add_assoc, Int32.add_assoc, ← Int32.add_assoc (p n), Int32.add_comm (p n), Int32.add_assoc]
theorem sumI_cnt (p : Nat → Bool) (v : Int32) : ∀ n, sumI (fun k => if p k = true then v else 0) n = v * nI (cnt p n)
  | 0 => (Int32.mul_zero (a := v)).symm
  | n + 1 => by
    rw [sumI, sumI_cnt p v n, cnt]
    cases p n
    · simp
    · show v * nI (cnt p n) + v = v * nI (cnt p n + 1)
      rw [← nI_1, Int32.mul_add, Int32.mul_one]
theorem cnt_inj {p : Nat → Bool} {j k : Nat} (hj : p j = true) (hlt : j < k) : cnt p j < cnt p k := by
  have h1 : cnt p (j + 1) = cnt p j + 1 := by rw [cnt, hj]; rfl
  have h2 : ∀ m, cnt p (j + 1) ≤ cnt p (j + 1 + m) := fun m => by
    induction m with
    | zero => exact Nat.le_refl _
    | succ m ih => exact Nat.le_trans ih (Nat.le_add_right _ _)
  have := h2 (k - (j + 1))
  rw [show j + 1 + (k - (j + 1)) = k by omega] at this
  omega
theorem WF.fx (w : WF V) (hf : ¬ V 7 = 1) {x : Nat} (hx : x < 2 ^ vN V) : WF (fxV V x) := by
  have hn := w.1.2
  have h12 := two12 hn
  obtain ⟨-, w1, w2, -, -, w10, -⟩ := id w
  have inl : ∀ {k}, inX (vN V) x k = true → k < vN V ∧ x.testBit k = true := fun h => ⟨of_decide_eq_true ((Bool.and_eq_true _ _).mp h).1, ((Bool.and_eq_true _ _).mp h).2⟩
  have g : ∀ k f, k < 12 → f < 8 → f ≠ 3 → f ≠ 5 → f ≠ 7 → vG (fxV V x) k f = vG V k f := fun k f hk hf h3 h5 h7 => by
    rw [fxV_g hk hf, if_neg h3, if_neg h5, if_neg h7]
    exact ite_self _
  have g7 : ∀ k, k < vN V → vG (fxV V x) k 7 = if inX (vN V) x k = true then nI (cnt (inX (vN V) x) k) else -5 := fun k hk => by
    rw [fxV_g (by omega) (by decide)]
    by_cases hi : inX (vN V) x k = true
    · rw [if_pos hi, if_pos hi]; rfl
    · rw [if_neg hi, if_neg hi]
      exact ((w.seat hk).1).resolve_right fun q => hf q.1
  refine w.re (fxV_lo (by decide)) ?_ ?_ ⟨Or.inr rfl, x, hx, rfl, fun q => absurd (show (1 : Int32) = 0 from q) (by decide)⟩ (fun j hj => ⟨?_, g j 4 (by omega) (by decide) (by decide) (by decide) (by decide), ?_, fun i hi hne => ?_⟩) (fun j z hj hz => fxV_met) ⟨?_, ?_⟩ (fun j h1 h2 f h3 h4 => ?_)
  · rw [fxV_lo (by decide)]; exact w1
  · rw [fxV_lo (by decide), fxV_lo (by decide), fxV_lo (by decide), fxV_lo (by decide), fxV_lo (by decide)]; exact w2
  · exact wfThree_of (w.three hj) fun f hf => g j f (by omega) (by omega) (by omega) (by omega) (by omega)
  · rw [g7 j hj]
    by_cases hi : inX (vN V) x j = true
    · exact Or.inr ⟨rfl, x, rfl, by omega, (inl hi).2⟩
    · rw [if_neg hi]; exact Or.inl rfl
  · rw [g7 j hj, g7 i hi]
    by_cases hij : inX (vN V) x j = true
    · rw [if_pos hij]
      have cj := cnt_le (inX (vN V) x) j
      by_cases hii : inX (vN V) x i = true
      · rw [if_pos hii]
        intro q
        have ci := cnt_le (inX (vN V) x) i
        have := nI_inj (by omega) (by omega) q
        rcases Nat.lt_or_gt_of_ne hne with h | h
        · have := cnt_inj hii h; omega
        · have := cnt_inj hij h; omega
      · rw [if_neg hii]
        intro q
        exact q.symm
    · rw [if_neg hij]
      intro _; rfl
  · show V 10 + sumI (fxvP V x) 12 = _
    rw [w10.1, sumI_add]
    refine sumI_cong fun k hk => ?_
    rw [fxV_g hk (by decide)]
    unfold fxvP
    by_cases hi : inX (vN V) x k = true
    · rw [if_pos hi, if_pos hi]; rfl
    · rw [if_neg hi, if_neg hi, Int32.add_zero]
  · rw [fxV_lo (by decide), w10.2]
    exact sumI_cong fun k hk => (g k 6 hk (by decide) (by decide) (by decide) (by decide)).symm
  · rw [fxV_g h2 (by omega), if_neg (fun q => by have := (inl q).1; omega)]
/-- some of the company leave -/
theorem WF.lg (w : WF V) (hf : V 7 = 1) {x y : Nat} {v : Int32} (hy : V 8 = nI y) (hy2 : y < 4096) (hx : ∀ k, x.testBit k = true → k < vN V) : WF (lgV V y x v) := by
  have hn := w.1.2
  have h12 := two12 hn
  obtain ⟨-, w1, w2, w7, -, w10, -⟩ := id w
  obtain ⟨z, hz, ez, -⟩ := w7.2
  have ezy : z = y := nI_inj (by omega) (by omega) (ez.symm.trans hy)
  subst ezy
  have hin : ∀ k, inX (vN V) x k = x.testBit k := fun k => by
    unfold inX
    cases hb : x.testBit k
    · simp
    · rw [decide_eq_true (hx k hb)]; rfl
  have g : ∀ k f, k < 12 → f < 6 → vG (lgV V z x v) k f = vG V k f := fun k f hk hf => by
    rw [lgV_g hk (by omega), if_neg (show ¬ f = 6 by omega), if_neg (show ¬ f = 7 by omega)]
    exact ite_self _
  have g6 : ∀ k, k < 12 → vG (lgV V z x v) k 6 = vG V k 6 + if x.testBit k = true then v else 0 := fun k hk => by
    rw [lgV_g hk (by decide), hin]
    by_cases hb : x.testBit k = true
    · rw [if_pos hb, if_pos hb]; rfl
    · rw [if_neg hb, if_neg hb, Int32.add_zero]
  have g7 : ∀ k, k < 12 → vG (lgV V z x v) k 7 = if x.testBit k = true then -5 else vG V k 7 := fun k hk => by
    rw [lgV_g hk (by decide), hin]
    rfl
  have lo : ∀ i, i ≠ 8 → i ≠ 11 → i < 15 → lgV V z x v i = V i := fun i h8 h11 hi => lgV_lo h8 h11 (Or.inl hi)
  have hdz : dif z x ≤ z := dif_le z x
  refine w.re (lo 0 (by decide) (by decide) (by decide)) ?_ ?_ ⟨?_, dif z x, by omega, rfl, ?_⟩ (fun j hj => ⟨?_, g j 4 (by omega) (by decide), ?_, fun i hi hne => ?_⟩) (fun j q hj hq => lgV_met) ⟨?_, ?_⟩ (fun j h1 h2 f h3 h4 => ?_)
  · rw [lo 1 (by decide) (by decide) (by decide)]; exact w1
  · rw [lo 2 (by decide) (by decide) (by decide), lo 3 (by decide) (by decide) (by decide), lo 4 (by decide) (by decide) (by decide), lo 5 (by decide) (by decide) (by decide), lo 6 (by decide) (by decide) (by decide)]; exact w2
  · rw [lo 7 (by decide) (by decide) (by decide)]; exact w7.1
  · rw [lo 7 (by decide) (by decide) (by decide), hf]; exact fun q => absurd q (by decide)
  · exact wfThree_of (w.three hj) fun f hf => g j f (by omega) (by omega)
  · rw [g7 j (by omega)]
    by_cases hb : x.testBit j = true
    · rw [if_pos hb]; exact Or.inl rfl
    · rw [if_neg hb]
      rcases (w.seat hj).1 with e | ⟨-, u, e1, hu, e2⟩
      · exact Or.inl e
      · have : u = z := nI_inj (by omega) (by omega) (e1.symm.trans hy)
        subst this
        refine Or.inr ⟨by rw [lo 7 (by decide) (by decide) (by decide)]; exact hf, dif u x, rfl, dif_lt _ _, ?_⟩
        rw [dif_bit, e2, decide_eq_true (show j < 12 by omega)]
        simpa using hb
  · rw [g7 i (by omega), g7 j (by omega)]
    by_cases hb : x.testBit j = true
    · rw [if_pos hb]; intro _; rfl
    · rw [if_neg hb]
      by_cases hb2 : x.testBit i = true
      · rw [if_pos hb2]; intro q; exact q.symm
      · rw [if_neg hb2]; exact (w.seat hj).2 i hi hne
  · rw [lo 10 (by decide) (by decide) (by decide), w10.1]
    exact sumI_cong fun k hk => (g k 5 hk (by decide)).symm
  · show V 11 + v * nI (pop x) = _
    rw [w10.2, show pop x = cnt x.testBit 12 from rfl, ← sumI_cnt, sumI_add]
    exact sumI_cong fun k hk => (g6 k hk).symm
  · have hb : ¬ x.testBit j = true := fun q => by have := hx j q; omega
    by_cases f6 : f = 6
    · subst f6
      rw [g6 j h2, if_neg hb, Int32.add_zero]
    · exact g j f h2 (by omega)
theorem lvDis_lt {q : lvQ} {k : Nat} (h : (lvDis q).testBit k = true) : k < vN q.1 ∧ q.2.testBit k = true := by
  unfold lvDis at h
  rw [setOf_bit] at h
  simp only [Bool.and_eq_true, decide_eq_true_eq] at h
  exact ⟨h.2.1, h.2.2.1⟩
theorem WF.lv (w : WF V) (hf : V 7 = 1) {y g : Nat} (hy : V 8 = nI y) (hy2 : y < 4096) (hg : g < vN V) : ∀ j, WF (lvR (lv0 V y g) j).1 ∧ (lvR (lv0 V y g) j).1 7 = 1 ∧ (lvR (lv0 V y g) j).1 8 = nI (lvR (lv0 V y g) j).2 ∧ (lvR (lv0 V y g) j).2 < 4096
  | 0 => by
    refine ⟨(w.lg hf hy hy2 (v := 0) fun k hk => ?_).hi (Or.inr (Or.inr (Or.inl rfl))), hf, rfl, dif_lt _ _⟩
    rw [Nat.testBit_two_pow] at hk
    have := of_decide_eq_true hk
    omega
  | j + 1 => by
    obtain ⟨i1, i2, i3, i4⟩ := WF.lv w hf hy hy2 hg j
    have ev : lvR (lv0 V y g) (j + 1) = if lvDis (lvR (lv0 V y g) j) = 0 then lvR (lv0 V y g) j else lvN (lvR (lv0 V y g) j) := rfl
    rw [ev]
    by_cases hz : lvDis (lvR (lv0 V y g) j) = 0
    · rw [if_pos hz]; exact ⟨i1, i2, i3, i4⟩
    · rw [if_neg hz]
      exact ⟨(i1.lg i2 i3 i4 fun k hk => (lvDis_lt hk).1).hi (Or.inr (Or.inr (Or.inr rfl))), i2, rfl, dif_lt _ _⟩
theorem WF.ds (w : WF V) : WF (dsV V) := by
  have hn := w.1.2
  obtain ⟨-, w1, w2, -, -, w10, -⟩ := id w
  have g : ∀ k f, k < 12 → f < 7 → vG (dsV V) k f = vG V k f := fun k f hk hf => by
    rw [dsV_g hk (by omega), if_neg (fun q => by omega)]
  have g7 : ∀ k, k < vN V → vG (dsV V) k 7 = -5 := fun k hk => by rw [dsV_g (by omega) (by decide), if_pos ⟨hk, rfl⟩]
  refine w.re rfl ?_ ?_ ⟨Or.inl rfl, 0, Nat.two_pow_pos _, rfl, fun _ => rfl⟩ (fun j hj => ⟨?_, g j 4 (by omega) (by decide), Or.inl (g7 j hj), fun i hi hne _ => g7 j hj⟩) (fun j q hj hq => dsV_met) ⟨?_, ?_⟩ (fun j h1 h2 f h3 h4 => g j f h2 (by omega))
  · rw [dsV_lo (by decide) (by decide) (by decide)]; exact w1
  · rw [dsV_lo (by decide) (by decide) (by decide), dsV_lo (by decide) (by decide) (by decide), dsV_lo (by decide) (by decide) (by decide), dsV_lo (by decide) (by decide) (by decide), dsV_lo (by decide) (by decide) (by decide)]; exact w2
  · exact wfThree_of (w.three hj) fun f hf => g j f (by omega) (by omega)
  · rw [dsV_lo (by decide) (by decide) (by decide), w10.1]
    exact sumI_cong fun k hk => (g k 5 hk (by decide)).symm
  · rw [dsV_lo (by decide) (by decide) (by decide), w10.2]
    exact sumI_cong fun k hk => (g k 6 hk (by decide)).symm
theorem WF.ad (w : WF V) (hf : ¬ V 7 = 1) (hlt : vN V < 12) {a c : Nat} (ha : a ≤ 99999) (hc : 1 ≤ c) (hc2 : c ≤ 9) : WF (addV V (vN V) (nI a) (nI c)) := by
  obtain ⟨-, w1, w2, w7, wg, w10, wl⟩ := id w
  have hN : vN (addV V (vN V) (nI a) (nI c)) = vN V + 1 := nI_clamp (by omega)
  have e7 : V 7 = 0 := w7.1.resolve_right hf
  obtain ⟨y, hy, ey, ey0⟩ := w7.2
  have hy0 := ey0 e7
  subst hy0
  generalize hnn : vN V = n at *
  have o : ∀ i, i ≠ 0 → (i < 15 + 8 * n ∨ 23 + 8 * n ≤ i) → (i < 111 + 128 * n ∨ 239 + 128 * n ≤ i) → addV V n (nI a) (nI c) i = V i := fun i h1 h2 h3 => by
    unfold addV
    rw [if_neg h1, if_neg (by omega), if_neg (by omega), if_neg (by omega), if_neg (by omega), if_neg (by omega)]
  have ov : ∀ k f, k < 12 → f < 8 → (k ≠ n ∨ (3 ≤ f ∧ f ≤ 6)) → vG (addV V n (nI a) (nI c)) k f = vG V k f := fun k f hk hf h => by
    unfold vG addV
    rw [if_neg (by omega), if_neg (by omega), if_neg (by omega), if_neg (by omega), if_neg (by omega), if_neg (by omega)]
  have v0 : vG (addV V n (nI a) (nI c)) n 0 = nI a := by
    unfold vG addV
    rw [if_neg (by omega), if_pos (by omega)]
  have v1 : vG (addV V n (nI a) (nI c)) n 1 = nI c := by
    unfold vG addV
    rw [if_neg (by omega), if_neg (by omega), if_pos (by omega)]
  have v2 : vG (addV V n (nI a) (nI c)) n 2 = 1 := by
    unfold vG addV
    rw [if_neg (by omega), if_neg (by omega), if_neg (by omega), if_pos (by omega)]
  have v7 : vG (addV V n (nI a) (nI c)) n 7 = -5 := by
    unfold vG addV
    rw [if_neg (by omega), if_neg (by omega), if_neg (by omega), if_neg (by omega), if_pos (by omega)]
  have seat : ∀ k, k < n → vG V k 7 = -5 := fun k hk => ((wg k hk).2.2.2.2.1).resolve_right fun q => hf q.1
  unfold WF
  rw [hN]
  refine ⟨⟨rfl, by omega⟩, ?_, ?_, ⟨?_, 0, Nat.two_pow_pos _, ?_, fun _ => rfl⟩, fun k hk => ?_, ⟨?_, ?_⟩, fun k h1 h2 => ?_⟩
  · rw [o 1 (by decide) (by omega) (by omega)]; exact w1
  · rw [o 2 (by decide) (by omega) (by omega), o 3 (by decide) (by omega) (by omega), o 4 (by decide) (by omega) (by omega), o 5 (by decide) (by omega) (by omega), o 6 (by decide) (by omega) (by omega)]; exact w2
  · rw [o 7 (by decide) (by omega) (by omega)]; exact w7.1
  · rw [o 8 (by decide) (by omega) (by omega)]; exact ey
  · by_cases e : k = n
    · subst e
      have el : vLet (addV V k (nI a) (nI c)) k = 0 := by
        unfold vLet
        rw [ov k 4 (by omega) (by decide) (Or.inr (by decide)), (wl k (Nat.le_refl _) hlt).2.1]
        rfl
      refine ⟨⟨a, ha, v0⟩, ⟨c, hc, hc2, v1⟩, by rw [v2]; exact Or.inr rfl, ⟨?_, by rw [el]; decide⟩, Or.inl v7, fun _ _ _ _ => v7, fun x z hx hz _ _ => ?_⟩
      · rw [el, ov k 4 (by omega) (by decide) (Or.inr (by decide)), (wl k (Nat.le_refl _) hlt).2.1]; rfl
      · have hx32 : z / 32 < 128 := Nat.div_lt_of_lt_mul (by omega)
        have e1 : addV V k (nI a) (nI c) (111 + 128 * k + z / 32) = -1 := by
          unfold addV
          rw [if_neg (by omega), if_neg (by omega), if_neg (by omega), if_neg (by omega), if_neg (by omega), if_pos (by omega)]
        unfold vMet
        rw [e1]
        exact decide_eq_true (all_ones _ (Nat.mod_lt _ (by decide)))
    · have hk' : k < n := by omega
      have g : ∀ f, f < 8 → vG (addV V n (nI a) (nI c)) k f = vG V k f := fun f hf => ov k f (by omega) hf (Or.inl e)
      have hm : ∀ x, x < 4096 → vMet (addV V n (nI a) (nI c)) k x = vMet V k x := fun x hx => by
        have : x / 32 < 128 := Nat.div_lt_of_lt_mul (by omega)
        unfold vMet
        rw [o _ (by omega) (by omega) (by omega)]
      have el : vLet (addV V n (nI a) (nI c)) k = vLet V k := by
        unfold vLet
        rw [g 4 (by decide)]
      obtain ⟨a1, a2, a3, a4, a5, a6, a7⟩ := wg k hk'
      rw [g 0 (by decide), g 1 (by decide), g 2 (by decide), g 4 (by decide), g 7 (by decide), el]
      refine ⟨a1, a2, a3, a4, Or.inl (seat k hk'), fun _ _ _ _ => seat k hk', fun x z hx hz hs h => ?_⟩
      rw [hm z hz]
      exact a7 x z hx hz hs (by rw [← hm x hx]; exact h)
  · rw [o 10 (by decide) (by omega) (by omega), w10.1]
    exact sumI_cong fun k hk => (ov k 5 hk (by decide) (Or.inr (by decide))).symm
  · rw [o 11 (by decide) (by omega) (by omega), w10.2]
    exact sumI_cong fun k hk => (ov k 6 hk (by decide) (Or.inr (by decide))).symm
  · rw [ov k 3 h2 (by decide) (Or.inr (by decide)), ov k 4 h2 (by decide) (Or.inr (by decide)), ov k 5 h2 (by decide) (Or.inr (by decide)), ov k 6 h2 (by decide) (Or.inr (by decide))]
    exact wl k (by omega) h2
end WW
