/-! THE REFERENCE: its loops over the guests -/
theorem setOf_ext {p : Nat → Bool} {n : Nat} : ∀ d, (∀ k, n ≤ k → k < n + d → p k = false) → setOf p (n + d) = setOf p n
  | 0, _ => rfl
  | d + 1, h => by
    show setOf p (n + d) ||| (if p (n + d) then 2 ^ (n + d) else 0) = _
    rw [h (n + d) (by omega) (by omega), setOf_ext d (fun k h1 h2 => h k h1 (by omega))]
    exact Nat.or_zero _
theorem allB_ext {p : Nat → Bool} {n : Nat} : ∀ d, (∀ k, n ≤ k → k < n + d → p k = true) → allB p (n + d) = allB p n
  | 0, _ => rfl
  | d + 1, h => by
    show (allB p (n + d) && p (n + d)) = _
    rw [h (n + d) (by omega) (by omega), allB_ext d (fun k h1 h2 => h k h1 (by omega)), Bool.and_true]
theorem sumI_ext {p : Nat → Int32} {n : Nat} : ∀ d, (∀ k, n ≤ k → k < n + d → p k = 0) → sumI p (n + d) = sumI p n
  | 0, _ => rfl
  | d + 1, h => by
    show sumI p (n + d) + p (n + d) = _
    rw [h (n + d) (by omega) (by omega), sumI_ext d (fun k h1 h2 => h k h1 (by omega)), Int32.add_zero]
theorem big_bit2 {x n k : Nat} (hx : x < 2 ^ n) (hk : n ≤ k) : x.testBit k = false := Nat.testBit_lt_two_pow (Nat.lt_of_lt_of_le hx (Nat.pow_le_pow_right (by decide) hk))
theorem pop_pos {x k : Nat} (hk : k < 12) (h : x.testBit k = true) : (0 : Int32) < nI (pop x) := by
  have h1 := bit_pos hk h
  have h2 := pop_le x
  exact nI_lt (a := 0) (by omega) (by omega)
abbrev vInvP (V : Nat → Int32) (k : Nat) : Bool := decide (k < vN V) && !decide (vG V k 2 = 0)
section MO2
variable {K : hK} {H : hAH} {m : Nat} {c : Nat → Int32} {B : Nat → Nat → Int32}
set_option maxRecDepth 100000 in
set_option maxHeartbeats 4000000 in
theorem l_Mo_invited (h : RMo K H m c B) (w : WF (B 0)) : ∀ (d i : Nat) (a g : Int32), i + d = vN (B 0) → a = nI (setOf (vInvP (B 0)) i) → g = nI i → hJ K M_Mo_invited (0, 0) (fun r H' => r = some (.int (nI (vInv (B 0)))) ∧ H' = H) 4 (0, 0) [some (.ref m), some (.int a), some (.int g)] [] H := by
  have hn := w.1.2
  intro d
  induction d with
  | zero =>
    intro i a g hi ha hg
    obtain rfl : i = vN (B 0) := by omega
    refine hGo_sound (okc_Mo_invited K _ _) [4] 60 _ _ _ _ _ ?_
    refine ⟨_, h.1, 1647, _, 0, Or.inl h.v, rfl, by decide, by decide, fun _ => ⟨trivial, ?_, rfl⟩, fun q => absurd (by rw [hg, w.1.1]; exact nI_le (Nat.le_refl _) (by omega)) q⟩
    rw [ha]
    congr 3
    have e := setOf_ext (p := vInvP (B 0)) (n := vN (B 0)) (12 - vN (B 0)) (fun k h1 _ => by
      show (decide (k < vN (B 0)) && _) = false
      rw [decide_eq_false (by omega)]; rfl)
    rw [show vN (B 0) + (12 - vN (B 0)) = 12 by omega] at e
    exact e.symm
  | succ d ih =>
    intro i a g hi ha hg
    have hk : i < vN (B 0) := by omega
    refine hGo_sound (okc_Mo_invited K _ _) [4] 60 _ _ _ _ _ ?_
    refine ⟨_, h.1, 1647, _, 0, Or.inl h.v, rfl, by decide, by decide, fun q => absurd (by rw [hg, w.1.1] at q; exact q) (nI_ge hk (by omega)), fun _ => ⟨_, h.1, _, hg ▸ c_Mo_of h (k := i) (f := 2) (by omega), ?_⟩⟩
    rintro _ H ⟨rfl, rfl⟩
    refine ih (i + 1) _ _ (by omega) ?_ (by rw [hg, nI_1])
    rw [ha, hg, setOf]
    have hp : vInvP (B 0) i = !decide (vG (B 0) i 2 = 0) := by
      show (decide (i < vN (B 0)) && _) = _
      rw [decide_eq_true hk]; rfl
    rw [hp]
    show nI (setOf (vInvP (B 0)) i) ||| (vG (B 0) i 2) <<< (nI i &&& 31) = _
    rcases (w.2.2.2.2.1 i hk).2.2.1 with e | e
    · rw [e]
      have z : (0 : Int32) <<< (nI i &&& 31) = nI 0 := by
        have hz : ∀ k, k < 12 → (0 : Int32) <<< (nI k &&& 31) = nI 0 := by decide +kernel
        exact hz i (by omega)
      rw [z, nI_or]
      rfl
    · rw [e, shl_1 i (by omega), nI_or]
      rfl
set_option maxRecDepth 100000 in
set_option maxHeartbeats 4000000 in
theorem c_Mo_invited (h : RMo K H m c B) (w : WF (B 0)) : hCT K M_Mo_invited [.ref m] H 0 0 (fun r H' => r = some (.int (nI (vInv (B 0)))) ∧ H' = H) := by
  refine hCT.go (okc_Mo_invited K _ _) [4] 60 (by decide +kernel) rfl rfl ?_
  exact l_Mo_invited h w (vN (B 0)) 0 _ _ (Nat.zero_add _) rfl rfl
set_option maxRecDepth 100000 in
set_option maxHeartbeats 4000000 in
theorem l_Mo_weights (h : RMo K H m c B) (w : WF (B 0)) (x : Nat) : ∀ (d i : Nat) (a g : Int32), i + d = vN (B 0) → a = sumI (fun k => if k < vN (B 0) ∧ x.testBit k = true then vG (B 0) k 1 else 0) i → g = nI i → hJ K M_Mo_weights (0, 0) (fun r H' => r = some (.int (vWs (B 0) x)) ∧ H' = H) 4 (0, 0) [some (.ref m), some (.int (nI x)), some (.int a), some (.int g)] [] H := by
  have hn := w.1.2
  intro d
  induction d with
  | zero =>
    intro i a g hi ha hg
    obtain rfl : i = vN (B 0) := by omega
    refine hGo_sound (okc_Mo_weights K _ _) [4] 60 _ _ _ _ _ ?_
    refine ⟨_, h.1, 1647, _, 0, Or.inl h.v, rfl, by decide, by decide, fun _ => ⟨trivial, ?_, rfl⟩, fun q => absurd (by rw [hg, w.1.1]; exact nI_le (Nat.le_refl _) (by omega)) q⟩
    rw [ha]
    congr 2
    have e := sumI_ext (p := fun k => if k < vN (B 0) ∧ x.testBit k = true then vG (B 0) k 1 else 0) (n := vN (B 0)) (12 - vN (B 0)) (fun k h1 _ => if_neg (fun q => by omega))
    rw [show vN (B 0) + (12 - vN (B 0)) = 12 by omega] at e
    exact e.symm
  | succ d ih =>
    intro i a g hi ha hg
    have hk : i < vN (B 0) := by omega
    refine hGo_sound (okc_Mo_weights K _ _) [4] 60 _ _ _ _ _ ?_
    refine ⟨_, h.1, 1647, _, 0, Or.inl h.v, rfl, by decide, by decide, fun q => absurd (by rw [hg, w.1.1] at q; exact q) (nI_ge hk (by omega)), fun _ => ⟨_, hg ▸ c_Mo_has K H x (k := i) (by omega), ?_⟩⟩
    rintro _ H ⟨rfl, rfl⟩
    refine ⟨fun hb => ?_, fun hb => ?_⟩
    · have hb := b2i_0.mp hb
      refine ih (i + 1) _ _ (by omega) ?_ (by rw [hg, nI_1])
      rw [ha, sumI, if_neg (fun q => by rw [hb] at q; exact absurd q.2 (by decide))]
    · have hb := b2i_n0.mp hb
      refine ⟨_, h.1, _, hg ▸ c_Mo_of h (k := i) (f := 1) (by omega), ?_⟩
      rintro _ H ⟨rfl, rfl⟩
      refine ih (i + 1) _ _ (by omega) ?_ (by rw [hg, nI_1])
      rw [ha, sumI, if_pos ⟨hk, hb⟩]
      rfl
set_option maxRecDepth 100000 in
set_option maxHeartbeats 4000000 in
theorem c_Mo_weights (h : RMo K H m c B) (w : WF (B 0)) (x : Nat) : hCT K M_Mo_weights [.ref m, .int (nI x)] H 0 0 (fun r H' => r = some (.int (vWs (B 0) x)) ∧ H' = H) := by
  refine hCT.go (okc_Mo_weights K _ _) [4] 60 (by decide +kernel) rfl rfl ?_
  exact l_Mo_weights h w x (vN (B 0)) 0 _ _ (Nat.zero_add _) rfl rfl
set_option maxRecDepth 100000 in
set_option maxHeartbeats 4000000 in
theorem l_Mo_isStable (h : RMo K H m c B) (w : WF (B 0)) {x : Nat} (hx : x < 2 ^ vN (B 0)) : ∀ (d i : Nat) (a g : Int32), i + d = vN (B 0) → a = b2i (allB (vOkG (B 0) x (vFee (B 0) (nI (pop x)))) i) → g = nI i → hJ K M_Mo_isStable (0, 0) (fun r H' => r = some (.int (b2i (vStb (B 0) x))) ∧ H' = H) 4 (0, 0) [some (.ref m), some (.int (nI x)), some (.int a), some (.int g)] [] H := by
  have hn := w.1.2
  have h12 := two12 hn
  intro d
  induction d with
  | zero =>
    intro i a g hi ha hg
    obtain rfl : i = vN (B 0) := by omega
    refine hGo_sound (okc_Mo_isStable K _ _) [4] 60 _ _ _ _ _ ?_
    refine ⟨_, h.1, 1647, _, 0, Or.inl h.v, rfl, by decide, by decide, fun _ => ⟨by rw [ha]; exact b2i_01 _, ?_, rfl⟩, fun q => absurd (by rw [hg, w.1.1]; exact nI_le (Nat.le_refl _) (by omega)) q⟩
    rw [ha]
    congr 3
    have e := allB_ext (p := vOkG (B 0) x (vFee (B 0) (nI (pop x)))) (n := vN (B 0)) (12 - vN (B 0)) (fun k h1 _ => by
      unfold vOkG
      rw [big_bit2 hx h1]; rfl)
    rw [show vN (B 0) + (12 - vN (B 0)) = 12 by omega] at e
    exact e.symm
  | succ d ih =>
    intro i a g hi ha hg
    have hk : i < vN (B 0) := by omega
    have key : ∀ (b : Int32) (q : Bool), q = vOkG (B 0) x (vFee (B 0) (nI (pop x))) i → b = b2i (allB (vOkG (B 0) x (vFee (B 0) (nI (pop x)))) i && q) → b = b2i (allB (vOkG (B 0) x (vFee (B 0) (nI (pop x)))) (i + 1)) := fun b q h1 h2 => by
      rw [h2, h1]; rfl
    have eg : g + 1 = nI (i + 1) := by rw [hg, nI_1]
    have ginv := (w.2.2.2.2.1 i hk).2.2.1
    refine hGo_sound (okc_Mo_isStable K _ _) [4] 90 _ _ _ _ _ ?_
    refine ⟨_, h.1, 1647, _, 0, Or.inl h.v, rfl, by decide, by decide, fun q => absurd (by rw [hg, w.1.1] at q; exact q) (nI_ge hk (by omega)), fun _ => ⟨fun hz => ?_, fun hz => ?_⟩⟩
    · rw [ha] at hz
      refine ih (i + 1) _ _ (by omega) (key _ _ rfl ?_) eg
      rw [b2i_0.mp hz]; rfl
    · rw [ha] at hz
      have hal := b2i_n0.mp hz
      refine ⟨_, hg ▸ c_Mo_has K H x (k := i) (by omega), ?_⟩
      rintro _ H ⟨rfl, rfl⟩
      refine ⟨fun hb => ?_, fun hb => ?_⟩
      · have hb := b2i_0.mp hb
        refine ih (i + 1) _ _ (by omega) (key _ true (by unfold vOkG; rw [hb]; rfl) ?_) eg
        rw [hal]; rfl
      · have hb := b2i_n0.mp hb
        refine ⟨_, h.1, _, hg ▸ c_Mo_of h (k := i) (f := 2) (by omega), ?_⟩
        rintro _ H ⟨rfl, rfl⟩
        refine ⟨fun h2 => ?_, fun h2 => ?_⟩
        · have e0 : vG (B 0) i 2 = 0 := ginv.resolve_right h2
          refine ih (i + 1) _ _ (by omega) (key _ false (by unfold vOkG; rw [hb, decide_eq_true e0]; simp) ?_) eg
          rw [Bool.and_false]; rfl
        · have e0 : ¬ vG (B 0) i 2 = 0 := fun q => by
            have : (1 : Int32) = 0 := h2.symm.trans q
            exact absurd this (by decide)
          refine ⟨_, h.1, _, hg ▸ c_Mo_isMet h (k := i) (x := x) (by omega) (by omega), ?_⟩
          rintro _ H ⟨rfl, rfl⟩
          refine ⟨fun h3 => ?_, fun h3 => ?_⟩
          · have h3 := b2i_0.mp h3
            refine ih (i + 1) _ _ (by omega) (key _ false (by unfold vOkG; rw [hb, h3]; simp) ?_) eg
            rw [Bool.and_false]; rfl
          · have h3 := b2i_n0.mp h3
            refine ⟨_, c_Mo_ones K H (x := x) (by omega), ?_⟩
            rintro _ H ⟨rfl, rfl⟩
            refine ⟨_, h.1, _, c_Mo_feeOf h (pop_pos (k := i) (by omega) hb), ?_⟩
            rintro _ H ⟨rfl, rfl⟩
            refine ⟨_, h.1, _, hg ▸ c_Mo_of h (k := i) (f := 0) (by omega), ?_⟩
            rintro _ H ⟨rfl, rfl⟩
            refine ⟨fun h4 => ?_, fun h4 => ?_⟩
            · refine ih (i + 1) _ _ (by omega) (key _ false ?_ ?_) eg
              · unfold vOkG
                have h5 : ¬ vFee (B 0) (nI (pop x)) ≤ vG (B 0) i 0 := Int32.not_le.mpr h4
                rw [hb, h3, decide_eq_false h5]
                simp
              · rw [Bool.and_false]; rfl
            · refine ih (i + 1) _ _ (by omega) (key _ true ?_ ?_) eg
              · unfold vOkG
                have h5 : vFee (B 0) (nI (pop x)) ≤ vG (B 0) i 0 := Int32.not_lt.mp h4
                rw [hb, h3, decide_eq_true h5, decide_eq_true hk, decide_eq_false e0]
                rfl
              · rw [hal]; rfl
set_option maxRecDepth 100000 in
set_option maxHeartbeats 4000000 in
theorem c_Mo_isStable (h : RMo K H m c B) (w : WF (B 0)) {x : Nat} (hx : x < 2 ^ vN (B 0)) : hCT K M_Mo_isStable [.ref m, .int (nI x)] H 0 0 (fun r H' => r = some (.int (b2i (vStb (B 0) x))) ∧ H' = H) := by
  refine hCT.go (okc_Mo_isStable K _ _) [4] 60 (by decide +kernel) rfl rfl ?_
  exact l_Mo_isStable h w hx (vN (B 0)) 0 _ _ (Nat.zero_add _) rfl rfl
end MO2
