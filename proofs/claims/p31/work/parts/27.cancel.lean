/-! a guest of the fixed company cancels, others follow -/
theorem lgS_in {S : Nat → Nat → Int32} {n x i k j : Nat} {v : Int32} (hj : j ≠ 5) (hj6 : j ≠ 6) (hn : n ≤ 12) (hk : k < n) : lgS S n x v i (2 + k) j = S (2 + k) j := by
  unfold lgS
  rw [if_neg (by omega)]
  split
  · rw [upd_n hj, upd_n hj6]
  · rfl
theorem SOk.lg {S : Nat → Nat → Int32} {n x : Nat} {v : Int32} (h : SOk S n) : SOk (lgS S n x v 12) n := by
  obtain ⟨h0, hn, h2, h3⟩ := h
  refine ⟨h0, hn, h2, fun k hk => ?_⟩
  have e8 : lgS S n x v 12 (2 + k) 8 = S (2 + k) 8 := lgS_in (by decide) (by decide) hn hk
  have e2 : lgS S n x v 12 (2 + k) 2 = S (2 + k) 2 := lgS_in (by decide) (by decide) hn hk
  obtain ⟨a, b, c⟩ := h3 k hk
  have ec : stC (lgS S n x v 12) k = stC S k := by unfold stC; rw [e8]
  exact ⟨by rw [e2]; exact a, by rw [e8, ec]; exact b, by rw [ec]; exact c⟩
theorem SOk.ob {S : Nat → Nat → Int32} {n j : Nat} {v : Int32} (h : SOk S n) (h0 : j ≠ 0) (h2 : j ≠ 2) : SOk (sOb S (upd (S 0) j v)) n := by
  obtain ⟨a0, hn, a2, a3⟩ := h
  have e : ∀ k, sOb S (upd (S 0) j v) (2 + k) = S (2 + k) := fun k => by unfold sOb; rw [if_neg (by omega)]
  refine ⟨?_, hn, ?_, fun k hk => ?_⟩
  · show upd (S 0) j v 0 = _
    rw [upd_n (Ne.symm h0)]; exact a0
  · show upd (S 0) j v 2 = 0 ∨ upd (S 0) j v 2 = 1
    rw [upd_n (Ne.symm h2)]; exact a2
  · unfold stC
    rw [e]
    exact a3 k hk
abbrev lcQ : Type := (Nat → Nat → Int32) × Nat
def lcDis (n : Nat) (q : lcQ) : Nat := setOf (disP q.1 n q.2) 12
def lcN (n : Nat) (q : lcQ) : lcQ := (lgS (sOb q.1 (upd (q.1 0) 7 (q.1 0 7 + nI (pop (lcDis n q))))) n (lcDis n q) (q.1 0 4 / 2) 12, dif q.2 (lcDis n q))
def lc0 (S : Nat → Nat → Int32) (n y g : Nat) : lcQ := (lgS (sOb S (upd (S 0) 6 (S 0 6 + 1))) n (2 ^ g) 0 12, dif y (2 ^ g))
def lcR (n : Nat) (q : lcQ) : Nat → lcQ
  | 0 => q
  | j + 1 => if lcDis n (lcR n q j) = 0 then lcR n q j else lcN n (lcR n q j)
theorem lcR_stop {n : Nat} {q : lcQ} {j : Nat} (h : lcDis n (lcR n q j) = 0) : ∀ m, lcR n q (j + m) = lcR n q j
  | 0 => rfl
  | m + 1 => by
    have := lcR_stop h m
    show (if lcDis n (lcR n q (j + m)) = 0 then lcR n q (j + m) else lcN n (lcR n q (j + m))) = _
    rw [this, if_pos h]
theorem lg_left {S : Nat → Nat → Int32} {n y x : Nat} {v : Int32} (hy : y < 4096) (hl : S 0 3 = nI y) : lgS S n x v 12 0 3 = nI (dif y x) := by
  show upd (S 0) 3 (S 0 3 &&& (nI x ^^^ (-1))) 3 = _
  rw [upd_s, hl, minus_eq hy]
set_option maxRecDepth 100000 in
set_option maxHeartbeats 4000000 in
theorem l_letCancel {K : hK} {H : hAH} {s n : Nat} {q0 : lcQ} {w1 b0 : Int32} : ∀ (m j : Nat) (w d : Int32) (Hc : hAH), j + m = 12 → w = nI j → d = nI (lcDis n (lcR n q0 j)) → RSt K Hc s (lcR n q0 j).1 → SOk (lcR n q0 j).1 n → (lcR n q0 j).2 < 4096 → (lcR n q0 j).1 0 3 = nI (lcR n q0 j).2 → hFr s (s + 27) H Hc →
    hJ K M_St_letCancel (0, 0) (fun r H' => r = some (.int (b0 - nI (pop (lcR n q0 12).2))) ∧ RSt K H' s (lcR n q0 12).1 ∧ hFr s (s + 27) H H') 35 (0, 0) [some (.ref s), some (.int w1), some (.int b0), some (.int d), some (.int w)] [] Hc := by
  intro m
  induction m with
  | zero =>
    intro j w d Hc hj hw hd hR hS hy hl hf
    have e : j = 12 := by omega
    subst e
    refine hGo_sound (okc_St_letCancel K _ _) [35] 60 _ _ _ _ _ ?_
    refine ⟨fun _ => ⟨_, hR.1, _, hl ▸ c_pop K Hc hy, ?_⟩, fun h => absurd (by rw [hw]; exact nI_le (a := 12) (by omega) (by omega)) h⟩
    rintro _ Hc ⟨rfl, rfl⟩
    exact ⟨trivial, rfl, hR, hf⟩
  | succ m ih =>
    intro j w d Hc hj hw hd hR hS hy hl hf
    refine hGo_sound (okc_St_letCancel K _ _) [35] 60 _ _ _ _ _ ?_
    refine ⟨fun h => absurd (by rw [hw] at h; exact h) (nI_ge (b := 12) (by omega) (by omega)), fun _ => ⟨fun h0 => ?_, fun h0 => ?_⟩⟩
    · have hz : lcDis n (lcR n q0 j) = 0 := nI_inj (Nat.lt_trans (setOf_12 _) (by decide)) (by decide) (hd.symm.trans h0)
      have e12 : lcR n q0 12 = lcR n q0 j := by
        have := lcR_stop hz (12 - j)
        rwa [show j + (12 - j) = 12 by omega] at this
      refine ⟨_, hR.1, _, hl ▸ c_pop K Hc hy, ?_⟩
      rintro _ Hc ⟨rfl, rfl⟩
      exact ⟨trivial, by rw [e12], by rw [e12]; exact hR, hf⟩
    · have hnz : ¬ lcDis n (lcR n q0 j) = 0 := fun q => h0 (by rw [hd, q]; rfl)
      have hdl : lcDis n (lcR n q0 j) < 4096 := setOf_12 _
      refine ⟨_, hR.1, _, hd ▸ c_pop K Hc hdl, ?_⟩
      rintro _ Hc ⟨rfl, rfl⟩
      refine ⟨_, hR.1, trivial, fun H1 u1 => ?_⟩
      have hR1 := hR.ob (A := upd ((lcR n q0 j).1 0) 7 ((lcR n q0 j).1 0 7 + nI (pop (lcDis n (lcR n q0 j))))) u1 rfl
      have hS1 := hS.ob (j := 7) (v := (lcR n q0 j).1 0 7 + nI (pop (lcDis n (lcR n q0 j)))) (by decide) (by decide)
      refine ⟨_, hR1.1, by decide, _, hR1.1, _, hd ▸ c_letGo (lcDis n (lcR n q0 j)) _ hR1 hS1.1 hS1.2.1, ?_⟩
      rintro _ H2 ⟨rfl, hR2, f2⟩
      have eN : lcR n q0 (j + 1) = lcN n (lcR n q0 j) := by
        show (if lcDis n (lcR n q0 j) = 0 then lcR n q0 j else lcN n (lcR n q0 j)) = _
        rw [if_neg hnz]
      have hRn : RSt K H2 s (lcR n q0 (j + 1)).1 := by rw [eN]; exact hR2
      have hSn : SOk (lcR n q0 (j + 1)).1 n := by rw [eN]; exact hS1.lg
      have hyn : (lcR n q0 (j + 1)).2 < 4096 := by rw [eN]; exact dif_lt _ _
      have hln : (lcR n q0 (j + 1)).1 0 3 = nI (lcR n q0 (j + 1)).2 := by
        rw [eN]
        exact lg_left (n := n) (v := (lcR n q0 j).1 0 4 / 2) (S := sOb (lcR n q0 j).1 (upd ((lcR n q0 j).1 0) 7 ((lcR n q0 j).1 0 7 + nI (pop (lcDis n (lcR n q0 j)))))) hy hl
      refine ⟨_, hRn.1, _, c_discontent hRn hSn hyn hln, ?_⟩
      rintro _ H2 ⟨rfl, rfl⟩
      exact ih (j + 1) _ _ _ (by omega) (by rw [hw, nI_1]) rfl hRn hSn hyn hln ((hf.trans (u1.fr' (by omega) (by omega))).trans f2)
set_option maxRecDepth 100000 in
set_option maxHeartbeats 4000000 in
theorem c_letCancel {K : hK} {H : hAH} {s n y g : Nat} {S : Nat → Nat → Int32} (hR : RSt K H s S) (hS : SOk S n) (hy : y < 4096) (hl : S 0 3 = nI y) (hg : g < 12) : hCT K M_St_letCancel [.ref s, .int (nI g)] H 0 0 (fun r H' => r = some (.int (nI (pop y) - nI (pop (lcR n (lc0 S n y g) 12).2))) ∧ RSt K H' s (lcR n (lc0 S n y g) 12).1 ∧ hFr s (s + 27) H H') := by
  refine hCT.go (okc_St_letCancel K _ _) [35] 60 (by decide +kernel) rfl rfl ?_
  refine ⟨_, hR.1, _, hl ▸ c_pop K H hy, ?_⟩
  rintro _ H ⟨rfl, rfl⟩
  refine ⟨_, hR.1, _, hR.1, trivial, fun H1 u1 => ?_⟩
  have hR1 := hR.ob (A := upd (S 0) 6 (S 0 6 + 1)) u1 rfl
  have hS1 := hS.ob (j := 6) (v := S 0 6 + 1) (by decide) (by decide)
  refine ⟨_, c_bitOf K H1 (k := g) (by omega), ?_⟩
  rintro _ H1 ⟨rfl, rfl⟩
  refine ⟨_, hR1.1, _, c_letGo (2 ^ g) 0 hR1 hS1.1 hS1.2.1, ?_⟩
  rintro _ H2 ⟨rfl, hR2, f2⟩
  have hl2 : lgS (sOb S (upd (S 0) 6 (S 0 6 + 1))) n (2 ^ g) 0 12 0 3 = nI (dif y (2 ^ g)) := lg_left (n := n) (v := 0) (S := sOb S (upd (S 0) 6 (S 0 6 + 1))) hy hl
  refine ⟨_, hR2.1, _, c_discontent hR2 hS1.lg (dif_lt _ _) hl2, ?_⟩
  rintro _ H2 ⟨rfl, rfl⟩
  exact l_letCancel (q0 := lc0 S n y g) 12 0 _ _ _ (by omega) rfl rfl hR2 hS1.lg (dif_lt _ _) hl2 ((u1.fr' (by omega) (by omega)).trans f2)
set_option maxRecDepth 100000 in
set_option maxHeartbeats 4000000 in
theorem c_takeCondition {K : hK} {H : hAH} {g a c : Nat} {G T T2 : Nat → Int32} {P : Nat → Nat} (hR : RGu K H g G T) (hP : RRe K H a P T2) (hd : a + 2 ≤ g ∨ g + 2 ≤ a) (hc : P 0 = c) (hc2 : c ≤ 60) : hCT K M_Gu_takeCondition [.ref g, .ref a] H 0 0 (fun r H' => r = none ∧ RGu K H' g (upd (upd G 7 (nI (P 1))) 8 (nI c)) (mix T2 T c) ∧ hFr g (g + 2) H H') := by
  subst hc
  refine hCT.go (okc_Gu_takeCondition K _ _) [] 60 (by decide +kernel) rfl rfl ?_
  refine ⟨_, hP.1, _, hP.1, _, hP.1, _, hR.1, _, c_Gu_copyCondition (nI (P 1)) hR hP.2 (by omega) hc2, ?_⟩
  rintro _ H1 ⟨rfl, h1, h2⟩
  exact ⟨rfl, h1, h2⟩
