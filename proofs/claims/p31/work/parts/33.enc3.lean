/-! a company fixed, left, dissolved -/
section EF
variable {S S' : Nat → Nat → Int32} {V V' : Nat → Int32} {k : Nat}
theorem fxV_lo {V : Nat → Int32} {x i : Nat} (hi : i < 7 ∨ i = 11 ∨ i = 13 ∨ i = 14 ∨ 111 ≤ i) : fxV V x i = V i := by
  unfold fxV
  rw [if_neg (by omega), if_neg (by omega), if_neg (by omega), if_neg (by omega), if_neg (by omega), if_neg (fun q => by omega)]
theorem fxV_g {V : Nat → Int32} {x k f : Nat} (hk : k < 12) (hf : f < 8) : vG (fxV V x) k f = if inX (vN V) x k = true then (if f = 3 then 0 else if f = 5 then vG V k 5 + (vFee V (nI (pop x)) + vG V k 3) else if f = 7 then nI (cnt (inX (vN V) x) k) else vG V k f) else vG V k f := by
  unfold vG fxV
  have e1 : (15 + 8 * k + f - 15) / 8 = k := by omega
  have e2 : (15 + 8 * k + f - 15) % 8 = f := by omega
  rw [if_neg (by omega), if_neg (by omega), if_neg (by omega), if_neg (by omega), if_neg (by omega), e1, e2]
  by_cases hx : inX (vN V) x k = true
  · rw [if_pos ⟨by omega, by omega, hx⟩, if_pos hx]
    by_cases f3 : f = 3
    · rw [if_pos f3, if_pos f3]
    · rw [if_neg f3, if_neg f3]
      by_cases f5 : f = 5
      · subst f5
        rw [if_pos rfl, if_pos rfl, show 15 + 8 * k + 5 - 2 = 15 + 8 * k + 3 by omega]
      · rw [if_neg f5, if_neg f5]
  · rw [if_neg (fun q => hx q.2.2), if_neg hx]
theorem vMet_hi {V V' : Nat → Int32} (h : ∀ i, 111 ≤ i → V' i = V i) {k x : Nat} : vMet V' k x = vMet V k x := by
  unfold vMet
  rw [h _ (by omega)]
theorem fxV_met {V : Nat → Int32} {x k z : Nat} : vMet (fxV V x) k z = vMet V k z := vMet_hi fun i hi => fxV_lo (by omega)
theorem fxV_n {V : Nat → Int32} {x : Nat} : vN (fxV V x) = vN V := by
  unfold vN
  rw [fxV_lo (by omega)]
theorem Enc.fx (h : Enc S V) (hn : vN V ≤ 12) {x : Nat} : Enc (fxS S (vN V) x 12) (fxV V x) := by
  have hfee := h.fee (nI (pop x))
  obtain ⟨⟨h0, h1, h2, h3, h4, h5, h6, h7⟩, h8, h9⟩ := h
  have q0 : fxS S (vN V) x 12 0 = upd (upd (upd (upd (S 0) 2 1) 3 (nI x)) 4 (feeC (S 1) (nI (pop x)))) 5 (S 0 5 + 1) := if_pos rfl
  have q1 : fxS S (vN V) x 12 1 = S 1 := by
    unfold fxS
    rw [if_neg (by decide), if_neg (by omega)]
  have f7 : fxV V x 7 = 1 := if_pos rfl
  have f8 : fxV V x 8 = nI x := rfl
  have f9 : fxV V x 9 = vFee V (nI (pop x)) := rfl
  have f12 : fxV V x 12 = V 12 + 1 := rfl
  refine ⟨⟨?_, ?_, ?_, ?_, ?_, ?_, ?_, ?_⟩, fun j hj => ?_, fun j hj => ?_⟩
  · rw [q0, upd_n (by decide), upd_n (by decide), upd_n (by decide), upd_n (by decide), fxV_lo (by decide), h0]
  · rw [q0, upd_n (by decide), upd_n (by decide), upd_n (by decide), upd_n (by decide), fxV_lo (by decide), h1]
  · rw [q0, upd_n (by decide), upd_n (by decide), upd_n (by decide), upd_s, f7]
  · rw [q0, upd_n (by decide), upd_n (by decide), upd_s, f8]
  · rw [q0, upd_n (by decide), upd_s, f9, hfee]
  · rw [q0, upd_s, f12, h5]
  · rw [q0, upd_n (by decide), upd_n (by decide), upd_n (by decide), upd_n (by decide), fxV_lo (by decide), h6]
  · rw [q0, upd_n (by decide), upd_n (by decide), upd_n (by decide), upd_n (by decide), fxV_lo (by decide), h7]
  · rw [q1, fxV_lo (by omega), h8 j hj]
  · rw [fxV_n] at hj
    have et : fxS S (vN V) x 12 (14 + j) = S (14 + j) := fxS_st (Nat.le_refl _)
    by_cases hx : inX (vN V) x j = true
    · have eg : fxS S (vN V) x 12 (2 + j) = upd (upd (upd (S (2 + j)) 4 (S (2 + j) 4 + (feeC (S 1) (nI (pop x)) + S (2 + j) 3))) 3 0) 6 (nI (cnt (inX (vN V) x) j)) := by
        have ej : 2 + j - 2 = j := by omega
        unfold fxS
        rw [if_neg (by omega), ej, if_pos ⟨by omega, by omega, hx⟩]
      have vg : ∀ f, f < 8 → vG (fxV V x) j f = if f = 3 then 0 else if f = 5 then vG V j 5 + (vFee V (nI (pop x)) + vG V j 3) else if f = 7 then nI (cnt (inX (vN V) x) j) else vG V j f := fun f hf => by rw [fxV_g (by omega) hf, if_pos hx]
      obtain ⟨⟨g0, g1, g2, g3, g4, g5, g6, g7⟩, ⟨g8, g9⟩, g10⟩ := h9 j hj
      have ec : stC (fxS S (vN V) x 12) j = stC S j := by
        unfold stC
        rw [eg]
        rfl
      refine ⟨⟨?_, ?_, ?_, ?_, ?_, ?_, ?_, ?_⟩, ⟨?_, by rw [ec]; exact g9⟩, fun z hz => ?_⟩
      · rw [eg, vg 0 (by decide)]; exact g0
      · rw [eg, vg 1 (by decide)]; exact g1
      · rw [eg, vg 2 (by decide)]; exact g2
      · rw [eg, vg 3 (by decide)]; rfl
      · rw [eg, vg 5 (by decide)]
        show S (2 + j) 4 + (feeC (S 1) (nI (pop x)) + S (2 + j) 3) = vG V j 5 + (vFee V (nI (pop x)) + vG V j 3)
        rw [hfee, g4, g3]
      · rw [eg, vg 6 (by decide)]; exact g5
      · rw [eg, vg 7 (by decide)]; rfl
      · rw [eg, vg 4 (by decide)]; exact g7
      · rw [ec, eg]; exact g8
      · rw [fxV_met, ← g10 z hz]
        unfold sMet
        rw [ec, et]
    · have eg : fxS S (vN V) x 12 (2 + j) = S (2 + j) := by
        have ej : 2 + j - 2 = j := by omega
        unfold fxS
        rw [if_neg (by omega), ej, if_neg (fun q => hx q.2.2)]
      refine (h9 j hj).of (fun i _ => by rw [eg]) (fun i _ => by rw [et]) (fun f hf => ?_) (fun z _ => fxV_met)
      rw [fxV_g (by omega) hf, if_neg hx]
theorem fxP_eq (h : Enc S V) {x : Nat} : sumI (fxP S (vN V) x) 12 = sumI (fxvP V x) 12 := by
  refine sumI_cong fun k _ => ?_
  unfold fxP fxvP
  by_cases hx : inX (vN V) x k = true
  · have hk : k < vN V := of_decide_eq_true ((Bool.and_eq_true _ _).mp hx).1
    rw [if_pos hx, if_pos hx, h.fee, (h.2.2 k hk).1.2.2.2.1]
  · rw [if_neg hx, if_neg hx]
theorem lgV_lo {V : Nat → Int32} {y x i : Nat} {v : Int32} (h8 : i ≠ 8) (h11 : i ≠ 11) (hi : i < 15 ∨ 111 ≤ i) : lgV V y x v i = V i := by
  unfold lgV
  rw [if_neg h8, if_neg h11, if_neg (fun q => by omega)]
theorem lgV_g {V : Nat → Int32} {y x k f : Nat} {v : Int32} (hk : k < 12) (hf : f < 8) : vG (lgV V y x v) k f = if inX (vN V) x k = true then (if f = 6 then vG V k 6 + v else if f = 7 then -5 else vG V k f) else vG V k f := by
  unfold vG lgV
  have e1 : (15 + 8 * k + f - 15) / 8 = k := by omega
  have e2 : (15 + 8 * k + f - 15) % 8 = f := by omega
  rw [if_neg (by omega), if_neg (by omega), e1, e2]
  by_cases hx : inX (vN V) x k = true
  · rw [if_pos ⟨by omega, by omega, hx⟩, if_pos hx]
    by_cases f6 : f = 6
    · subst f6; rw [if_pos rfl]
    · rw [if_neg f6, if_neg f6]
  · rw [if_neg (fun q => hx q.2.2), if_neg hx]
theorem lgV_met {V : Nat → Int32} {y x k z : Nat} {v : Int32} : vMet (lgV V y x v) k z = vMet V k z := vMet_hi fun i hi => lgV_lo (by omega) (by omega) (by omega)
theorem lgV_n {V : Nat → Int32} {y x : Nat} {v : Int32} : vN (lgV V y x v) = vN V := by
  unfold vN
  rw [lgV_lo (by decide) (by decide) (by decide)]
theorem Enc.lg (h : Enc S V) (hn : vN V ≤ 12) {x y : Nat} {v : Int32} (hy : y < 4096) (hl : S 0 3 = nI y) : Enc (lgS S (vN V) x v 12) (lgV V y x v) := by
  obtain ⟨⟨h0, h1, h2, h3, h4, h5, h6, h7⟩, h8, h9⟩ := h
  have q0 : ∀ j, j ≠ 3 → lgS S (vN V) x v 12 0 j = S 0 j := fun j hj => upd_n hj
  have q1 : lgS S (vN V) x v 12 1 = S 1 := by
    unfold lgS
    rw [if_neg (by decide), if_neg (by omega)]
  refine ⟨⟨?_, ?_, ?_, ?_, ?_, ?_, ?_, ?_⟩, fun j hj => ?_, fun j hj => ?_⟩
  · rw [q0 0 (by decide), lgV_lo (by decide) (by decide) (by decide), h0]
  · rw [q0 1 (by decide), lgV_lo (by decide) (by decide) (by decide), h1]
  · rw [q0 2 (by decide), lgV_lo (by decide) (by decide) (by decide), h2]
  · rw [lg_left hy hl]; rfl
  · rw [q0 4 (by decide), lgV_lo (by decide) (by decide) (by decide), h4]
  · rw [q0 5 (by decide), lgV_lo (by decide) (by decide) (by decide), h5]
  · rw [q0 6 (by decide), lgV_lo (by decide) (by decide) (by decide), h6]
  · rw [q0 7 (by decide), lgV_lo (by decide) (by decide) (by decide), h7]
  · rw [q1, lgV_lo (by omega) (by omega) (by omega), h8 j hj]
  · rw [lgV_n] at hj
    have et : lgS S (vN V) x v 12 (14 + j) = S (14 + j) := lgS_st (by decide) hn
    have ej : 2 + j - 2 = j := by omega
    by_cases hx : x.testBit j = true
    · have hxx : inX (vN V) x j = true := by unfold inX; rw [hx, decide_eq_true hj]; rfl
      have eg : lgS S (vN V) x v 12 (2 + j) = upd (upd (S (2 + j)) 6 (-5)) 5 (S (2 + j) 5 + v) := by
        unfold lgS
        rw [if_neg (by omega), ej, if_pos ⟨by omega, by omega, hj, hx⟩]
      have vg : ∀ f, f < 8 → vG (lgV V y x v) j f = if f = 6 then vG V j 6 + v else if f = 7 then -5 else vG V j f := fun f hf => by rw [lgV_g (by omega) hf, if_pos hxx]
      obtain ⟨⟨g0, g1, g2, g3, g4, g5, g6, g7⟩, ⟨g8, g9⟩, g10⟩ := h9 j hj
      have ec : stC (lgS S (vN V) x v 12) j = stC S j := by
        unfold stC
        rw [eg]
        rfl
      refine ⟨⟨?_, ?_, ?_, ?_, ?_, ?_, ?_, ?_⟩, ⟨?_, by rw [ec]; exact g9⟩, fun z hz => ?_⟩
      · rw [eg, vg 0 (by decide)]; exact g0
      · rw [eg, vg 1 (by decide)]; exact g1
      · rw [eg, vg 2 (by decide)]; exact g2
      · rw [eg, vg 3 (by decide)]; exact g3
      · rw [eg, vg 5 (by decide)]; exact g4
      · rw [eg, vg 6 (by decide)]
        show S (2 + j) 5 + v = vG V j 6 + v
        rw [g5]
      · rw [eg, vg 7 (by decide)]; rfl
      · rw [eg, vg 4 (by decide)]; exact g7
      · rw [ec, eg]; exact g8
      · rw [lgV_met, ← g10 z hz]
        unfold sMet
        rw [ec, et]
    · have eg : lgS S (vN V) x v 12 (2 + j) = S (2 + j) := by
        unfold lgS
        rw [if_neg (by omega), ej, if_neg (fun q => hx q.2.2.2)]
      refine (h9 j hj).of (fun i _ => by rw [eg]) (fun i _ => by rw [et]) (fun f hf => ?_) (fun z _ => lgV_met)
      rw [lgV_g (by omega) hf, if_neg (show ¬ inX (vN V) x j = true from fun q => hx ((Bool.and_eq_true _ _).mp q).2)]
/-- one of the counts -/
theorem Enc.ct (h : Enc S V) {j : Nat} (hj : j = 6 ∨ j = 7) (v : Int32) : Enc (sOb S (upd (S 0) j v)) (upd V (7 + j) v) := by
  obtain ⟨⟨h0, h1, h2, h3, h4, h5, h6, h7⟩, h8, h9⟩ := h
  have q : ∀ r, r ≠ 0 → sOb S (upd (S 0) j v) r = S r := fun r hr => if_neg hr
  have q0 : ∀ i, i ≠ j → sOb S (upd (S 0) j v) 0 i = S 0 i := fun i hi => upd_n hi
  refine ⟨⟨?_, ?_, ?_, ?_, ?_, ?_, ?_, ?_⟩, fun i hi => ?_, fun k hk => ?_⟩
  · rw [q0 0 (by omega), upd_n (by omega), h0]
  · rw [q0 1 (by omega), upd_n (by omega), h1]
  · rw [q0 2 (by omega), upd_n (by omega), h2]
  · rw [q0 3 (by omega), upd_n (by omega), h3]
  · rw [q0 4 (by omega), upd_n (by omega), h4]
  · rw [q0 5 (by omega), upd_n (by omega), h5]
  · rcases hj with rfl | rfl
    · rfl
    · rw [q0 6 (by omega), upd_n (by omega), h6]
  · rcases hj with rfl | rfl
    · rw [q0 7 (by omega), upd_n (by omega), h7]
    · rfl
  · rw [q 1 (by decide), upd_n (by omega), h8 i hi]
  · rw [vN_n (by omega)] at hk
    refine (h9 k hk).of (fun i _ => ?_) (fun i _ => ?_) (fun f hf => ?_) (fun x _ => vMet_n (by omega))
    · rw [q _ (by omega)]
    · rw [q _ (by omega)]
    · unfold vG
      rw [upd_n (by omega)]
theorem lgV_ct {V : Nat → Int32} {x y i : Nat} {v a : Int32} (hi : i = 13 ∨ i = 14) : lgV (upd V i a) y x v = upd (lgV V y x v) i a := by
  have hN : vN (upd V i a) = vN V := vN_n (by omega)
  funext r
  by_cases e : r = i
  · subst e
    rw [upd_s, lgV_lo (by omega) (by omega) (by omega), upd_s]
  · rw [upd_n e]
    unfold lgV
    rw [hN, upd_n e, upd_n (show 11 ≠ i by omega)]
theorem lcDis_eq (h : Enc S V) {y : Nat} (hy : y < 4096) : lcDis (vN V) (S, y) = lvDis (V, y) := by
  unfold lcDis lvDis
  refine setOf_cong fun k _ => ?_
  unfold disP
  by_cases hk : k < vN V
  · rw [(h.2.2 k hk).2.2 y hy]
  · simp [hk]
theorem Enc.lc (h : Enc S V) (hn : vN V ≤ 12) {y : Nat} (hy : y < 4096) (hl : S 0 3 = nI y) (g : Nat) : ∀ j, Enc (lcR (vN V) (lc0 S (vN V) y g) j).1 (lvR (lv0 V y g) j).1 ∧ (lcR (vN V) (lc0 S (vN V) y g) j).2 = (lvR (lv0 V y g) j).2 ∧ (lvR (lv0 V y g) j).2 < 4096 ∧ (lcR (vN V) (lc0 S (vN V) y g) j).1 0 3 = nI (lvR (lv0 V y g) j).2 ∧ vN (lvR (lv0 V y g) j).1 = vN V
  | 0 => by
    have e6 : S 0 6 = V 13 := h.1.2.2.2.2.2.2.1
    have h1 := h.ct (Or.inl rfl) (S 0 6 + 1)
    have hl1 : sOb S (upd (S 0) 6 (S 0 6 + 1)) 0 3 = nI y := hl
    have hN1 : vN (upd V 13 (S 0 6 + 1)) = vN V := vN_n (by decide)
    have h2 := h1.lg (x := 2 ^ g) (v := 0) (by rw [hN1]; exact hn) hy hl1
    rw [hN1, lgV_ct (Or.inl rfl), e6] at h2
    refine ⟨?_, rfl, dif_lt _ _, ?_, ?_⟩
    · show Enc (lgS (sOb S (upd (S 0) 6 (S 0 6 + 1))) (vN V) (2 ^ g) 0 12) (upd (lgV V y (2 ^ g) 0) 13 (V 13 + 1))
      rw [e6]
      exact h2
    · exact lg_left (n := vN V) (v := 0) hy hl1
    · show vN (upd (lgV V y (2 ^ g) 0) 13 (V 13 + 1)) = _
      rw [vN_n (by decide), lgV_n]
  | j + 1 => by
    obtain ⟨i1, i2, i3, i4, i5⟩ := Enc.lc h hn hy hl g j
    have hd : lcDis (vN V) (lcR (vN V) (lc0 S (vN V) y g) j) = lvDis (lvR (lv0 V y g) j) := by
      have := lcDis_eq i1 i3
      rw [i5, ← i2] at this
      exact this.trans (by rw [i2])
    have ec : lcR (vN V) (lc0 S (vN V) y g) (j + 1) = if lcDis (vN V) (lcR (vN V) (lc0 S (vN V) y g) j) = 0 then lcR (vN V) (lc0 S (vN V) y g) j else lcN (vN V) (lcR (vN V) (lc0 S (vN V) y g) j) := rfl
    have ev : lvR (lv0 V y g) (j + 1) = if lvDis (lvR (lv0 V y g) j) = 0 then lvR (lv0 V y g) j else lvN (lvR (lv0 V y g) j) := rfl
    rw [ec, ev, hd]
    by_cases hz : lvDis (lvR (lv0 V y g) j) = 0
    · rw [if_pos hz, if_pos hz]
      exact ⟨i1, i2, i3, i4, i5⟩
    · rw [if_neg hz, if_neg hz]
      generalize lcR (vN V) (lc0 S (vN V) y g) j = q at *
      generalize lvR (lv0 V y g) j = p at *
      obtain ⟨q1, q2⟩ := q
      obtain ⟨p1, p2⟩ := p
      dsimp only at i1 i2 i3 i4 i5
      subst i2
      have e7 : q1 0 7 = p1 14 := i1.1.2.2.2.2.2.2.2
      have e4 : q1 0 4 = p1 9 := i1.1.2.2.2.2.1
      unfold lcN lvN
      rw [hd]
      dsimp only
      have h1 := i1.ct (Or.inr rfl) (q1 0 7 + nI (pop (lvDis (p1, q2))))
      have hN1 : vN (upd p1 14 (q1 0 7 + nI (pop (lvDis (p1, q2))))) = vN V := (vN_n (by decide)).trans i5
      have hl1 : sOb q1 (upd (q1 0) 7 (q1 0 7 + nI (pop (lvDis (p1, q2))))) 0 3 = nI q2 := i4
      have h2 := h1.lg (x := lvDis (p1, q2)) (v := q1 0 4 / 2) (by rw [hN1]; exact hn) i3 hl1
      rw [hN1, lgV_ct (Or.inr rfl)] at h2
      refine ⟨?_, rfl, dif_lt _ _, ?_, ?_⟩
      · rw [← e4, ← e7]
        exact h2
      · exact lg_left (n := vN V) (v := q1 0 4 / 2) i3 hl1
      · rw [vN_n (by decide), lgV_n, i5]
theorem dsV_n {V : Nat → Int32} : vN (dsV V) = vN V := rfl
theorem dsV_lo {V : Nat → Int32} {i : Nat} (h7 : i ≠ 7) (h8 : i ≠ 8) (hi : i < 15 ∨ 111 ≤ i) : dsV V i = V i := by
  unfold dsV
  rw [if_neg h7, if_neg h8, if_neg (fun q => by omega)]
theorem dsV_g {V : Nat → Int32} {k f : Nat} (hk : k < 12) (hf : f < 8) : vG (dsV V) k f = if k < vN V ∧ f = 7 then -5 else vG V k f := by
  unfold vG dsV
  have e1 : (15 + 8 * k + f - 15) / 8 = k := by omega
  have e2 : (15 + 8 * k + f - 15) % 8 = f := by omega
  rw [if_neg (by omega), if_neg (by omega), e1, e2]
  by_cases hx : k < vN V ∧ f = 7
  · rw [if_pos ⟨by omega, by omega, hx.1, hx.2⟩, if_pos hx]
  · rw [if_neg (fun q => hx q.2.2), if_neg hx]
theorem dsV_met {V : Nat → Int32} {k z : Nat} : vMet (dsV V) k z = vMet V k z := vMet_hi fun i hi => dsV_lo (by omega) (by omega) (by omega)
theorem dif_self (y : Nat) : dif y y = 0 := by
  refine Nat.eq_of_testBit_eq fun i => ?_
  rw [dif_bit]
  simp
theorem Enc.ds (h : Enc S V) (w : WF V) {y : Nat} (hy : y < 4096) (hl : S 0 3 = nI y) : Enc (dsS S (vN V) y) (dsV V) := by
  have hn := w.1.2
  have hl' := h.lg (x := y) (v := 0) hn hy hl
  have e8 : V 8 = nI y := h.1.2.2.2.1.symm.trans hl
  obtain ⟨⟨h0, h1, h2, h3, h4, h5, h6, h7⟩, h8, h9⟩ := hl'
  have q : ∀ r, r ≠ 0 → dsS S (vN V) y r = lgS S (vN V) y 0 12 r := fun r hr => if_neg hr
  have q0 : ∀ i, i ≠ 2 → dsS S (vN V) y 0 i = lgS S (vN V) y 0 12 0 i := fun i hi => upd_n hi
  have lo : ∀ i, i ≠ 7 → i ≠ 8 → i ≠ 11 → i < 15 → dsV V i = lgV V y y 0 i := fun i h7 h8 h11 hi => by rw [dsV_lo h7 h8 (by omega), lgV_lo h8 h11 (by omega)]
  refine ⟨⟨?_, ?_, ?_, ?_, ?_, ?_, ?_, ?_⟩, fun i hi => ?_, fun k hk => ?_⟩
  · rw [q0 0 (by decide), lo 0 (by decide) (by decide) (by decide) (by decide), h0]
  · rw [q0 1 (by decide), lo 1 (by decide) (by decide) (by decide) (by decide), h1]
  · rfl
  · rw [q0 3 (by decide), h3]
    show nI (dif y y) = 0
    rw [dif_self]
    rfl
  · rw [q0 4 (by decide), lo 9 (by decide) (by decide) (by decide) (by decide), h4]
  · rw [q0 5 (by decide), lo 12 (by decide) (by decide) (by decide) (by decide), h5]
  · rw [q0 6 (by decide), lo 13 (by decide) (by decide) (by decide) (by decide), h6]
  · rw [q0 7 (by decide), lo 14 (by decide) (by decide) (by decide) (by decide), h7]
  · rw [q 1 (by decide), lo (2 + i) (by omega) (by omega) (by omega) (by omega), h8 i hi]
  · rw [dsV_n] at hk
    refine (h9 k (by rw [lgV_n]; exact hk)).of (fun i _ => ?_) (fun i _ => ?_) (fun f hf => ?_) (fun x _ => dsV_met.trans lgV_met.symm)
    · rw [q _ (by omega)]
    · rw [q _ (by omega)]
    · rw [dsV_g (by omega) hf, lgV_g (by omega) hf]
      by_cases f7 : f = 7
      · subst f7
        rw [if_pos ⟨hk, rfl⟩]
        by_cases hx : inX (vN V) y k = true
        · rw [if_pos hx]
          rfl
        · rw [if_neg hx]
          rcases (w.2.2.2.2.1 k hk).2.2.2.2.1 with e | ⟨-, z, e1, hz, e2⟩
          · exact e.symm
          · have : z = y := nI_inj (by omega) (by omega) (e1.symm.trans e8)
            subst this
            exact absurd (by unfold inX; rw [e2, decide_eq_true hk]; rfl) hx
      · rw [if_neg (fun q => f7 q.2)]
        by_cases hx : inX (vN V) y k = true
        · rw [if_pos hx]
          by_cases f6 : f = 6
          · subst f6
            rw [if_pos rfl, Int32.add_zero]
          · rw [if_neg f6, if_neg f7]
        · rw [if_neg hx]
end EF
