/-! THE LAW: the party in numbers, told by its first 1647 places alone; what holds between two calls -/
section LA
variable {V V' : Nat → Int32}
theorem c_vN (h : ∀ i, i < 1647 → V i = V' i) : vN V' = vN V := by
  unfold vN
  rw [h 0 (by decide)]
theorem c_vG (h : ∀ i, i < 1647 → V i = V' i) {k f : Nat} (hk : k < 12) (hf : f < 8) : vG V' k f = vG V k f := (h _ (by omega)).symm
theorem c_vMet (h : ∀ i, i < 1647 → V i = V' i) {k x : Nat} (hk : k < 12) (hx : x < 4096) : vMet V' k x = vMet V k x := by
  have hq : x / 32 < 128 := Nat.div_lt_of_lt_mul (by omega)
  unfold vMet
  rw [h (111 + 128 * k + x / 32) (by omega)]
theorem WF.cong (w : WF V) (h : ∀ i, i < 1647 → V i = V' i) : WF V' := by
  obtain ⟨w0, w1, w2, w7, wg, ws, wl⟩ := w
  have hn := w0.2
  have en := c_vN h
  have e : ∀ i, i < 1647 → V' i = V i := fun i hi => (h i hi).symm
  have g : ∀ {k f}, k < 12 → f < 8 → vG V' k f = vG V k f := fun hk hf => c_vG h hk hf
  refine ⟨?_, ?_, ?_, ?_, fun k hk => ?_, ⟨?_, ?_⟩, fun k h1 h2 => ?_⟩
  · rw [en, e 0 (by decide)]; exact w0
  · rw [e 1 (by decide)]; exact w1
  · rw [e 2 (by decide), e 3 (by decide), e 4 (by decide), e 5 (by decide), e 6 (by decide)]; exact w2
  · rw [en, e 7 (by decide), e 8 (by decide)]; exact w7
  · rw [en] at hk
    obtain ⟨a1, a2, a3, a4, a5, a6, a7⟩ := wg k hk
    have hk12 : k < 12 := by omega
    have el : vLet V' k = vLet V k := by
      unfold vLet
      rw [g hk12 (by decide)]
    rw [en, el, g hk12 (show 0 < 8 by decide), g hk12 (show 1 < 8 by decide), g hk12 (show 2 < 8 by decide), g hk12 (show 4 < 8 by decide), g hk12 (show 7 < 8 by decide), e 7 (by decide), e 8 (by decide)]
    refine ⟨a1, a2, a3, a4, a5, fun j hj hne => ?_, fun x y hx hy hs => ?_⟩
    · rw [g (show j < 12 by omega) (show 7 < 8 by decide)]
      exact a6 j hj hne
    · rw [c_vMet h hk12 hx, c_vMet h hk12 hy]
      exact a7 x y hx hy hs
  · rw [e 10 (by decide), ws.1]
    exact sumI_cong fun j hj => (g hj (by decide)).symm
  · rw [e 11 (by decide), ws.2]
    exact sumI_cong fun j hj => (g hj (by decide)).symm
  · rw [en] at h1
    rw [g h2 (show 3 < 8 by decide), g h2 (show 4 < 8 by decide), g h2 (show 5 < 8 by decide), g h2 (show 6 < 8 by decide)]
    exact wl k h1 h2
theorem Enc.cong {S : Nat → Nat → Int32} (w : vN V ≤ 12) (h : ∀ i, i < 1647 → V i = V' i) (E : Enc S V) : Enc S V' := by
  have e : ∀ i, i < 1647 → V' i = V i := fun i hi => (h i hi).symm
  obtain ⟨a, b, d⟩ := E
  refine ⟨?_, fun j hj => ?_, fun k hk => ?_⟩
  · rw [e 0 (by decide), e 1 (by decide), e 7 (by decide), e 8 (by decide), e 9 (by decide), e 12 (by decide), e 13 (by decide), e 14 (by decide)]
    exact a
  · rw [e (2 + j) (by omega)]
    exact b j hj
  · rw [c_vN h] at hk
    have hk12 : k < 12 := by omega
    obtain ⟨p, q, r⟩ := d k hk
    refine ⟨?_, q, fun x hx => ?_⟩
    · rw [c_vG h hk12 (show 0 < 8 by decide), c_vG h hk12 (show 1 < 8 by decide), c_vG h hk12 (show 2 < 8 by decide), c_vG h hk12 (show 3 < 8 by decide), c_vG h hk12 (show 5 < 8 by decide), c_vG h hk12 (show 6 < 8 by decide), c_vG h hk12 (show 7 < 8 by decide), c_vG h hk12 (show 4 < 8 by decide)]
      exact p
    · rw [c_vMet h hk12 hx]
      exact r x hx
end LA
section LB
variable {K : hK} {H H1 H2 : hAH} {b : Nat} {Y Y' : hY}
theorem YOk.cong (h : YOk Y) (q : hYeq Y Y') : YOk Y' := by
  rcases Y with ⟨V, r⟩
  rcases Y' with ⟨V', r'⟩
  obtain ⟨q1, q2⟩ := q
  have q2 : r = r' := q2
  subst q2
  exact ⟨WF.cong h.1 q1, h.2⟩
theorem CP.cong (h : CP K H b Y) (w : vN Y.1 ≤ 12) (q : hYeq Y Y') : CP K H b Y' := by
  rcases Y with ⟨V, r⟩
  rcases Y' with ⟨V', r'⟩
  obtain ⟨q1, q2⟩ := q
  have q2 : r = r' := q2
  subst q2
  obtain ⟨S, N, π, D, C, P, T, lr, Z, h1, ⟨h2, h3⟩, h4, h5⟩ := h
  exact ⟨S, N, π, D, C, P, T, lr, Z, h1, ⟨h2, h3.cong w q1⟩, h4, h5⟩
theorem MPx.fr {m lo hi : Nat} (h : MPx K H m Y) (f : hFr lo hi H H1) (hd : hi ≤ m ∨ m + 11 ≤ lo) : MPx K H1 m Y := by
  obtain ⟨c, B, h1, h2⟩ := h
  exact ⟨c, B, h1.fr f hd, h2⟩
/-- between two calls: the class, and behind it the reference, stand for one party -/
def lwI (K : hK) (H : hAH) (b : Nat) (Y : hY) : Prop := CP K H b Y ∧ MPx K H (b + 175) Y ∧ YOk Y
/-- behind a call of both -/
theorem lwI.next {a : hY} (ok : YOk a) (cp : CP K H1 b a) (q : ∃ Y', hYeq a Y' ∧ MPx K H2 (b + 175) Y') (f : hFr (b + 175) (b + 175 + 11) H1 H2) : ∃ Y', lwI K H2 b Y' := by
  obtain ⟨Y', q, mp⟩ := q
  exact ⟨Y', (cp.fr f (by omega)).cong ok.1.1.2 q, mp, ok.cong q⟩
end LB
