/-! the text read from a clean start; what lay in the reader before does not matter -/
def rdS (q r : rdQ) : Prop := (∀ j, j < 4 → q.1 j = r.1 j) ∧ ∀ j, j < q.1 0 → q.2 j = r.2 j
def rdR (q r : rdQ) : Prop := rdS q r ∧ ((q.1 3 = 2 ∨ q.1 3 = 3 ∨ q.1 3 = 5) → q.1 4 = r.1 4 ∧ q.1 5 = r.1 5)
theorem rdS.add {q r : rdQ} (h : rdS q r) (st : Int32) : rdS (pAdd q st) (pAdd r st) := by
  have e0 := h.1 0 (by decide)
  unfold pAdd
  rw [← e0]
  by_cases hl : q.1 0 < 60
  · rw [if_pos hl, if_pos hl]
    refine ⟨fun j hj => ?_, fun j hj => ?_⟩
    · show up q.1 0 (q.1 0 + 1) j = up r.1 0 (q.1 0 + 1) j
      unfold up
      split
      · rfl
      · exact h.1 j hj
    · show upd q.2 (q.1 0) st j = upd r.2 (q.1 0) st j
      have hj' : j < q.1 0 + 1 := hj
      by_cases e : j = q.1 0
      · rw [e, upd_s, upd_s]
      · rw [upd_n e, upd_n e]
        exact h.2 j (by omega)
  · rw [if_neg hl, if_neg hl]
    exact h
theorem rdS.chg {q r : rdQ} (h : rdS q r) (st : Int32) : rdS (pChg q st) (pChg r st) := by
  have e0 := h.1 0 (by decide)
  unfold pChg
  rw [← e0]
  by_cases hl : 0 < q.1 0
  · rw [if_pos hl, if_pos hl]
    refine ⟨h.1, fun j hj => ?_⟩
    show upd q.2 (q.1 0 - 1) st j = upd r.2 (q.1 0 - 1) st j
    by_cases e : j = q.1 0 - 1
    · rw [e, upd_s, upd_s]
    · rw [upd_n e, upd_n e]
      exact h.2 j hj
  · rw [if_neg hl, if_neg hl]
    exact h
theorem rdS.pu {q r : rdQ} (h : rdS q r) {k : Nat} (hk : k ≠ 0) (v : Nat) : rdS (up q.1 k v, q.2) (up r.1 k v, r.2) := by
  refine ⟨fun j hj => ?_, fun j hj => h.2 j ?_⟩
  · show up q.1 k v j = up r.1 k v j
    unfold up
    split
    · rfl
    · exact h.1 j hj
  · have hj' : j < (if 0 = k then v else q.1 0) := hj
    rw [if_neg (Ne.symm hk)] at hj'
    exact hj'
theorem rdR.ok {q r : rdQ} (h : rdR q r) (c : Nat) : rdOk q.1 c = rdOk r.1 c := by
  have e2 := h.1.1 2 (by decide)
  have e3 := h.1.1 3 (by decide)
  unfold rdOk
  rw [e2, e3]
theorem rdR.of {q r : rdQ} (h : rdS q r) {v : Nat} (e : q.1 3 = v) (hv : v ≠ 2 ∧ v ≠ 3 ∧ v ≠ 5) : rdR q r := ⟨h, fun z => by omega⟩
theorem rdR.of4 {q r : rdQ} (h : rdS q r) (h4 : q.1 4 = r.1 4) (h5 : q.1 5 = r.1 5) : rdR q r := ⟨h, fun _ => ⟨h4, h5⟩⟩
theorem rdS.bQ {q r : rdQ} (h : rdS q r) (c : Nat) : rdR (behQ c q.1 q.2) (behQ c r.1 r.2) := by
  have e2 := h.1 2 (by decide)
  unfold behQ
  by_cases c1 : c = 41
  · rw [if_pos c1, if_pos c1]
    unfold clQ
    rw [e2]
    exact rdR.of (((h.pu (k := 2) (by decide) (r.1 2 - 1)).add (-2)).pu (k := 3) (by decide) 4) (v := 4) rfl (by decide)
  · rw [if_neg c1, if_neg c1]
    by_cases c2 : c = 124
    · rw [if_pos c2, if_pos c2]
      exact rdR.of ((h.add (-3)).pu (k := 3) (by decide) 0) (v := 0) rfl (by decide)
    · rw [if_neg c2, if_neg c2]
      exact rdR.of (h.pu (k := 3) (by decide) 0) (v := 0) rfl (by decide)
theorem rdR.lQ {q r : rdQ} (h : rdR q r) (h35 : q.1 3 = 3 ∨ q.1 3 = 5) (c : Nat) : rdR (letQ c q.1 q.2) (letQ c r.1 r.2) := by
  have e1 := h.1.1 1 (by decide)
  obtain ⟨e4, e5⟩ := h.2 (Or.inr h35)
  unfold letQ
  rw [e1, e4, e5]
  refine rdR.of4 ((((h.1.pu (k := 1) (by decide) _).pu (k := 5) (by decide) _).chg _).pu (k := 3) (by decide) 5) ?_ ?_
  · rw [pChg_1, pChg_1]; exact e4
  · rw [pChg_1, pChg_1]; rfl
theorem rdR.step {q r : rdQ} (h : rdR q r) (c : Nat) : rdR (rdStep c q.1 q.2) (rdStep c r.1 r.2) := by
  have e1 := h.1.1 1 (by decide)
  have e2 := h.1.1 2 (by decide)
  have e3 := h.1.1 3 (by decide)
  unfold rdStep
  rw [← e3]
  by_cases s0 : q.1 3 = 0
  · rw [if_pos s0, if_pos s0]
    unfold atomQ
    by_cases c1 : c = 40
    · rw [if_pos c1, if_pos c1, e2]
      refine rdR.of ((h.1.pu (k := 2) (by decide) (r.1 2 + 1)).add (-1)) (v := 0) ?_ (by decide)
      rw [pAdd3]; exact s0
    · rw [if_neg c1, if_neg c1]
      by_cases c2 : c = 42
      · rw [if_pos c2, if_pos c2]
        exact rdR.of ((h.1.add _).pu (k := 3) (by decide) 4) (v := 4) rfl (by decide)
      · rw [if_neg c2, if_neg c2]
        by_cases c3 : c = 35
        · rw [if_pos c3, if_pos c3]
          exact rdR.of (h.1.pu (k := 3) (by decide) 1) (v := 1) rfl (by decide)
        · rw [if_neg c3, if_neg c3]
          by_cases c4 : isLet c = true
          · rw [if_pos c4, if_pos c4, e1]
            exact rdR.of (((h.1.pu (k := 1) (by decide) _).add _).pu (k := 3) (by decide) 4) (v := 4) rfl (by decide)
          · rw [if_neg c4, if_neg c4]
            refine rdR.of4 ((((h.1.pu (k := 4) (by decide) _).pu (k := 5) (by decide) _).add _).pu (k := 3) (by decide) 2) ?_ ?_
            · show (pAdd _ _).1 4 = (pAdd _ _).1 4
              rw [pAdd4, pAdd4]; rfl
            · show (pAdd _ _).1 5 = (pAdd _ _).1 5
              rw [pAdd5, pAdd5]; rfl
  · rw [if_neg s0, if_neg s0]
    by_cases s1 : q.1 3 = 1
    · rw [if_pos s1, if_pos s1]
      unfold numQ
      by_cases c1 : c = 49
      · rw [if_pos c1]
        exact rdR.of ((h.1.add _).pu (k := 3) (by decide) 6) (v := 6) rfl (by decide)
      · rw [if_neg c1]
        exact rdR.of ((h.1.add _).pu (k := 3) (by decide) 4) (v := 4) rfl (by decide)
    · rw [if_neg s1, if_neg s1]
      by_cases s2 : q.1 3 = 2
      · rw [if_pos s2, if_pos s2]
        obtain ⟨e4, e5⟩ := h.2 (Or.inl s2)
        exact rdR.of4 (h.1.pu (k := 3) (by decide) 3) e4 e5
      · rw [if_neg s2, if_neg s2]
        by_cases s3 : q.1 3 = 3
        · rw [if_pos s3, if_pos s3]
          exact h.lQ (Or.inl s3) c
        · rw [if_neg s3, if_neg s3]
          by_cases s5 : q.1 3 = 5
          · rw [if_pos s5, if_pos s5]
            by_cases hl : isLet c = true
            · rw [if_pos hl, if_pos hl]
              exact h.lQ (Or.inr s5) c
            · rw [if_neg hl, if_neg hl]
              exact h.1.bQ c
          · rw [if_neg s5, if_neg s5]
            by_cases s6 : q.1 3 = 6
            · rw [if_pos s6, if_pos s6]
              by_cases hd : isDig c 48 50 = true
              · rw [if_pos hd, if_pos hd]
                exact rdR.of ((h.1.chg _).pu (k := 3) (by decide) 4) (v := 4) rfl (by decide)
              · rw [if_neg hd, if_neg hd]
                exact h.1.bQ c
            · rw [if_neg s6, if_neg s6]
              exact h.1.bQ c
def tR (tx : Nat → Nat) (p : Nat) : rdQ := rdRun tx (fun _ => 0) (fun _ => 0) p
def tF (tx : Nat → Nat) (len : Nat) : Int32 := rdFault tx (fun _ => 0) (fun _ => 0) len len 0
def tL (tx : Nat → Nat) (len : Nat) : Nat := (tR tx len).1 1
def tM (tx : Nat → Nat) (len x : Nat) : Bool := gcMet (tR tx len).2 ((tR tx len).1 0) x
theorem rdR_run (tx : Nat → Nat) (P : Nat → Nat) (T : Nat → Int32) : ∀ p, rdR (rdRun tx P T p) (tR tx p)
  | 0 => rdR.of ⟨fun j hj => by
      match j, hj with
      | 0, _ => rfl
      | 1, _ => rfl
      | 2, _ => rfl
      | 3, _ => rfl, fun j hj => absurd (show j < 0 from hj) (Nat.not_lt_zero _)⟩ (v := 0) rfl (by decide)
  | p + 1 => (rdR_run tx P T p).step (tx p)
theorem rdWhole_eq (tx : Nat → Nat) (P : Nat → Nat) (T : Nat → Int32) (p : Nat) : rdWhole (rdRun tx P T p).1 = rdWhole (tR tx p).1 := by
  unfold rdWhole
  rw [(rdR_run tx P T p).1.1 2 (by decide), (rdR_run tx P T p).1.1 3 (by decide)]
theorem rdFault_eq (tx : Nat → Nat) (P : Nat → Nat) (T : Nat → Int32) (len : Nat) : ∀ m p, rdFault tx P T len m p = rdFault tx (fun _ => 0) (fun _ => 0) len m p
  | 0, p => by
    rw [rdFault, rdFault, rdWhole_eq]
    rfl
  | m + 1, p => by
    rw [rdFault, rdFault, rdFault_eq tx P T len m (p + 1), (rdR_run tx P T p).ok]
    rfl
/-! the steps a guest takes over, and what he says of sets -/
theorem tM_mono {tx : Nat → Nat} {len x y : Nat} (h : subB x y = true) (hm : tM tx len x = true) : tM tx len y = true := gcMet_mono h hm
theorem bits_met {p : Nat → Bool} {V : Nat → Int32} {k L x : Nat} (hk : k < 12) (hx : x < 4096) : vMet (cndV V k L p) k x = p x := by
  have hx32 : x / 32 < 128 := Nat.div_lt_of_lt_mul (by omega)
  have hm : x % 32 < 32 := Nat.mod_lt _ (by decide)
  have e1 : cndV V k L p (111 + 128 * k + x / 32) = bitsW p (x / 32) := by
    unfold cndV
    rw [if_neg (by omega), if_pos (by omega)]
    congr 1
    omega
  unfold vMet
  rw [e1]
  unfold bitsW
  rw [shr_bit hm, setOf_bit, decide_eq_true hm, Bool.true_and]
  congr 1
  omega
theorem cnd_o {V : Nat → Int32} {k L i : Nat} {p : Nat → Bool} (h1 : i ≠ 19 + 8 * k) (h2 : i < 111 + 128 * k ∨ 239 + 128 * k ≤ i) : cndV V k L p i = V i := by
  unfold cndV
  rw [if_neg h1, if_neg (by omega)]
theorem cnd_g {V : Nat → Int32} {k L j f : Nat} {p : Nat → Bool} (hj : j < 12) (hf : f < 8) : vG (cndV V k L p) j f = if j = k ∧ f = 4 then nI L else vG V j f := by
  unfold vG
  by_cases h : j = k ∧ f = 4
  · rw [if_pos h]
    unfold cndV
    rw [if_pos (by omega)]
  · rw [if_neg h, cnd_o (fun q => h (by omega)) (by omega)]
theorem cnd_m {V : Nat → Int32} {k L j x : Nat} {p : Nat → Bool} (hk : k < 12) (hjk : j ≠ k) (hx : x < 4096) : vMet (cndV V k L p) j x = vMet V j x := by
  have hx32 : x / 32 < 128 := Nat.div_lt_of_lt_mul (by omega)
  unfold vMet
  rw [cnd_o (by omega) (by omega)]
theorem cnd_n {V : Nat → Int32} {k L : Nat} {p : Nat → Bool} : vN (cndV V k L p) = vN V := by
  unfold vN
  rw [cnd_o (by omega) (by omega)]
section TC
variable {S : Nat → Nat → Int32} {V : Nat → Int32} {k : Nat}
theorem WF.cnd (w : WF V) (hk : k < vN V) {L : Nat} (hL : L < 4096) {p : Nat → Bool} (hp : ∀ x y, subB x y = true → p x = true → p y = true) : WF (cndV V k L p) := by
  have hn := w.1.2
  have o : ∀ i, i < 15 → cndV V k L p i = V i := fun i hi => cnd_o (by omega) (by omega)
  have g : ∀ j f, j < 12 → f < 8 → (j ≠ k ∨ f ≠ 4) → vG (cndV V k L p) j f = vG V j f := fun j f hj hf h => by rw [cnd_g hj hf, if_neg (by omega)]
  obtain ⟨w0, w1, w2, w7, wg, w10, wl⟩ := id w
  unfold WF
  rw [cnd_n]
  refine ⟨by rw [o 0 (by decide)]; exact w0, by rw [o 1 (by decide)]; exact w1, ?_, ?_, fun j hj => ?_, ⟨?_, ?_⟩, fun j h1 h2 => ?_⟩
  · rw [o 2 (by decide), o 3 (by decide), o 4 (by decide), o 5 (by decide), o 6 (by decide)]; exact w2
  · rw [o 7 (by decide), o 8 (by decide)]; exact w7
  · obtain ⟨a1, a2, a3, a4, a5, a6, a7⟩ := wg j hj
    have es : ∀ i, i < vN V → vG (cndV V k L p) i 7 = vG V i 7 := fun i hi => g i 7 (by omega) (by decide) (Or.inr (by decide))
    rw [g j 0 (by omega) (by decide) (Or.inr (by decide)), g j 1 (by omega) (by decide) (Or.inr (by decide)), g j 2 (by omega) (by decide) (Or.inr (by decide)), o 7 (by decide), o 8 (by decide), es j hj]
    refine ⟨a1, a2, a3, ?_, a5, fun i hi hne => by rw [es i hi]; exact a6 i hi hne, fun x y hx hy hs h => ?_⟩
    · by_cases e : j = k
      · have e4 : vG (cndV V k L p) j 4 = nI L := by rw [cnd_g (by omega) (by decide), if_pos ⟨e, rfl⟩]
        have el : vLet (cndV V k L p) j = L := by
          unfold vLet
          rw [e4]
          exact nI_clamp (by omega)
        rw [el]
        exact ⟨e4, hL⟩
      · have e4 := g j 4 (by omega) (by decide) (Or.inl e)
        have el : vLet (cndV V k L p) j = vLet V j := by unfold vLet; rw [e4]
        rw [el, e4]
        exact a4
    · by_cases e : j = k
      · subst e
        rw [bits_met (by omega) hx] at h
        rw [bits_met (by omega) hy]
        exact hp x y hs h
      · rw [cnd_m (by omega) e hx] at h
        rw [cnd_m (by omega) e hy]
        exact a7 x y hx hy hs h
  · rw [o 10 (by decide), w10.1]
    exact sumI_cong fun j hj => (g j 5 hj (by decide) (Or.inr (by decide))).symm
  · rw [o 11 (by decide), w10.2]
    exact sumI_cong fun j hj => (g j 6 hj (by decide) (Or.inr (by decide))).symm
  · have hne : j ≠ k := by omega
    rw [g j 3 h2 (by decide) (Or.inl hne), g j 4 h2 (by decide) (Or.inl hne), g j 5 h2 (by decide) (Or.inl hne), g j 6 h2 (by decide) (Or.inl hne)]
    exact wl j h1 h2
theorem Enc.cnd (h : Enc S V) (hk : k < vN V) (hn : vN V ≤ 12) {L c : Nat} {T2 : Nat → Int32} (hc : c ≤ 60) {p : Nat → Bool} (hp : ∀ x, x < 4096 → gcMet T2 c x = p x) : Enc (sGu S k (upd (upd (S (2 + k)) 7 (nI L)) 8 (nI c)) (mix T2 (S (14 + k)) c)) (cndV V k L p) := by
  have o : ∀ i, i < 15 → cndV V k L p i = V i := fun i hi => cnd_o (by omega) (by omega)
  have g : ∀ j f, j < 12 → f < 8 → (j ≠ k ∨ f ≠ 4) → vG (cndV V k L p) j f = vG V j f := fun j f hj hf h => by rw [cnd_g hj hf, if_neg (by omega)]
  obtain ⟨⟨h0, h1, h2, h3, h4, h5, h6, h7⟩, h8, h9⟩ := h
  refine ⟨⟨?_, ?_, ?_, ?_, ?_, ?_, ?_, ?_⟩, fun j hj => ?_, fun j hj => ?_⟩
  · rw [sGu_o (by omega) (by omega), o 0 (by decide), h0]
  · rw [sGu_o (by omega) (by omega), o 1 (by decide), h1]
  · rw [sGu_o (by omega) (by omega), o 7 (by decide), h2]
  · rw [sGu_o (by omega) (by omega), o 8 (by decide), h3]
  · rw [sGu_o (by omega) (by omega), o 9 (by decide), h4]
  · rw [sGu_o (by omega) (by omega), o 12 (by decide), h5]
  · rw [sGu_o (by omega) (by omega), o 13 (by decide), h6]
  · rw [sGu_o (by omega) (by omega), o 14 (by decide), h7]
  · rw [sGu_o (by omega) (by omega), o (2 + j) (by omega), h8 j hj]
  · rw [cnd_n] at hj
    by_cases e : j = k
    · subst e
      obtain ⟨⟨g0, g1, g2, g3, g4, g5, g6, g7⟩, ⟨g8, g9⟩, g10⟩ := h9 j hj
      have lo : ∀ i, i < 7 → sGu S j (upd (upd (S (2 + j)) 7 (nI L)) 8 (nI c)) (mix T2 (S (14 + j)) c) (2 + j) i = S (2 + j) i := fun i hi => by rw [sGu_g, upd_n (by omega), upd_n (by omega)]
      have ec : stC (sGu S j (upd (upd (S (2 + j)) 7 (nI L)) 8 (nI c)) (mix T2 (S (14 + j)) c)) j = c := by
        unfold stC
        rw [sGu_g, upd_s]
        exact nI_clamp (by omega)
      refine ⟨⟨?_, ?_, ?_, ?_, ?_, ?_, ?_, ?_⟩, ⟨?_, by rw [ec]; exact hc⟩, fun x hx => ?_⟩
      · rw [lo 0 (by decide), g j 0 (by omega) (by decide) (Or.inr (by decide)), g0]
      · rw [lo 1 (by decide), g j 1 (by omega) (by decide) (Or.inr (by decide)), g1]
      · rw [lo 2 (by decide), g j 2 (by omega) (by decide) (Or.inr (by decide)), g2]
      · rw [lo 3 (by decide), g j 3 (by omega) (by decide) (Or.inr (by decide)), g3]
      · rw [lo 4 (by decide), g j 5 (by omega) (by decide) (Or.inr (by decide)), g4]
      · rw [lo 5 (by decide), g j 6 (by omega) (by decide) (Or.inr (by decide)), g5]
      · rw [lo 6 (by decide), g j 7 (by omega) (by decide) (Or.inr (by decide)), g6]
      · rw [sGu_g, upd_n (by decide), upd_s, cnd_g (by omega) (by decide), if_pos ⟨rfl, rfl⟩]
      · rw [ec, sGu_g, upd_s]
      · rw [bits_met (by omega) hx, ← hp x hx]
        unfold sMet
        rw [ec, sGu_t]
        exact gcMet_cong fun i hi => if_pos hi
    · refine (h9 j hj).of (fun i _ => ?_) (fun i _ => ?_) (fun f hf => g j f (by omega) hf (Or.inl e)) (fun x hx => cnd_m (by omega) e hx)
      · rw [sGu_o (by omega) (by omega)]
      · rw [sGu_o (by omega) (by omega)]
end TC
