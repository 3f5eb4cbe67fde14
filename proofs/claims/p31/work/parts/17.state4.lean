/-! a state: a company is fixed, a guest cancels, one state is copied from another, a guest is added -/
def inX (n x k : Nat) : Bool := decide (k < n) && x.testBit k
def fxS (S : Nat → Nat → Int32) (n x i : Nat) : Nat → Nat → Int32 := fun r =>
  if r = 0 then upd (upd (upd (upd (S 0) 2 1) 3 (nI x)) 4 (feeC (S 1) (nI (pop x)))) 5 (S 0 5 + 1)
  else if 2 ≤ r ∧ r < 2 + i ∧ inX n x (r - 2) = true then upd (upd (upd (S r) 4 (S r 4 + (feeC (S 1) (nI (pop x)) + S r 3))) 3 0) 6 (nI (cnt (inX n x) (r - 2)))
  else S r
def fxP (S : Nat → Nat → Int32) (n x k : Nat) : Int32 := if inX n x k = true then feeC (S 1) (nI (pop x)) + S (2 + k) 3 else 0
theorem fxS_no {S : Nat → Nat → Int32} {n x i : Nat} (h : inX n x i = false) : fxS S n x (i + 1) = fxS S n x i := by
  funext r
  unfold fxS
  by_cases r0 : r = 0
  · rw [if_pos r0, if_pos r0]
  · rw [if_neg r0, if_neg r0]
    by_cases e : r = 2 + i
    · subst e
      have e1 : 2 + i - 2 = i := by omega
      rw [if_neg (fun q => by rw [e1, h] at q; exact absurd q.2.2 (by decide)), if_neg (fun q => by rw [e1, h] at q; exact absurd q.2.2 (by decide))]
    · have : (2 ≤ r ∧ r < 2 + (i + 1) ∧ inX n x (r - 2) = true) ↔ (2 ≤ r ∧ r < 2 + i ∧ inX n x (r - 2) = true) := by
        constructor
        · rintro ⟨a, b, c⟩; exact ⟨a, by omega, c⟩
        · rintro ⟨a, b, c⟩; exact ⟨a, by omega, c⟩
      simp only [this]
theorem fxS_yes {S : Nat → Nat → Int32} {n x i : Nat} (hi : i < 12) (h : inX n x i = true) : sGu (fxS S n x i) i (upd (upd (upd (S (2 + i)) 4 (S (2 + i) 4 + (feeC (S 1) (nI (pop x)) + S (2 + i) 3))) 3 0) 6 (nI (cnt (inX n x) i))) (S (14 + i)) = fxS S n x (i + 1) := by
  funext r
  unfold sGu fxS
  by_cases e : r = 2 + i
  · subst e
    have e1 : 2 + i - 2 = i := by omega
    rw [if_pos rfl, if_neg (by omega), if_pos ⟨by omega, by omega, by rw [e1]; exact h⟩, e1]
  · rw [if_neg e]
    by_cases e2 : r = 14 + i
    · subst e2
      rw [if_pos rfl, if_neg (by omega), if_neg (by omega)]
    · rw [if_neg e2]
      by_cases r0 : r = 0
      · rw [if_pos r0, if_pos r0]
      · rw [if_neg r0, if_neg r0]
        have : (2 ≤ r ∧ r < 2 + (i + 1) ∧ inX n x (r - 2) = true) ↔ (2 ≤ r ∧ r < 2 + i ∧ inX n x (r - 2) = true) := by
          constructor
          · rintro ⟨a, b, c⟩; exact ⟨a, by omega, c⟩
          · rintro ⟨a, b, c⟩; exact ⟨a, by omega, c⟩
        simp only [this]
theorem fxS_0 (S : Nat → Nat → Int32) (n x : Nat) : sOb S (upd (upd (upd (upd (S 0) 2 1) 3 (nI x)) 4 (feeC (S 1) (nI (pop x)))) 5 (S 0 5 + 1)) = fxS S n x 0 := by
  funext r
  unfold sOb fxS
  by_cases r0 : r = 0
  · rw [if_pos r0, if_pos r0]
  · rw [if_neg r0, if_neg r0, if_neg (by omega)]
theorem fxS_gu {S : Nat → Nat → Int32} {n x i : Nat} : fxS S n x i (2 + i) = S (2 + i) := by
  unfold fxS
  rw [if_neg (by omega), if_neg (by omega)]
theorem fxS_st {S : Nat → Nat → Int32} {n x i k : Nat} (hi : i ≤ 12) : fxS S n x i (14 + k) = S (14 + k) := by
  unfold fxS
  rw [if_neg (by omega), if_neg (by omega)]
set_option maxRecDepth 100000 in
set_option maxHeartbeats 4000000 in
theorem l_fixCompany {K : hK} {H : hAH} {s n x : Nat} {S : Nat → Nat → Int32} (h0 : S 0 0 = nI n) (hn : n ≤ 12) : ∀ (m i : Nat) (w a b : Int32) (l5 l6 : Option Value) (Hc : hAH), i + m = 12 → w = nI i → a = sumI (fxP S n x) i → b = nI (cnt (inX n x) i) → RSt K Hc s (fxS S n x i) → hFr s (s + 27) H Hc → hJ K M_St_fixCompany (0, 0) (fun r H' => r = some (.int (sumI (fxP S n x) 12)) ∧ RSt K H' s (fxS S n x 12) ∧ hFr s (s + 27) H H') 39 (0, 0) [some (.ref s), some (.int (nI x)), some (.int a), some (.int b), some (.int w), l5, l6] [] Hc := by
  intro m
  induction m with
  | zero =>
    intro i w a b l5 l6 Hc hi hw ha hb hR hf
    refine hGo_sound (okc_St_fixCompany K _ _) [39] 60 _ _ _ _ _ ?_
    refine ⟨fun _ => ⟨trivial, by rw [ha, show i = 12 by omega], by rw [show i = 12 by omega] at hR; exact hR, hf⟩, fun h => ?_⟩
    exact absurd (by rw [hw]; exact nI_le (a := 12) (by omega) (by omega)) h
  | succ m ih =>
    intro i w a b l5 l6 Hc hi hw ha hb hR hf
    refine hGo_sound (okc_St_fixCompany K _ _) [39] 80 _ _ _ _ _ ?_
    refine ⟨fun h => absurd (by rw [hw] at h; exact h) (nI_ge (b := 12) (by omega) (by omega)), fun _ => ?_⟩
    have no : inX n x i = false → a = sumI (fxP S n x) (i + 1) ∧ b = nI (cnt (inX n x) (i + 1)) ∧ RSt K Hc s (fxS S n x (i + 1)) := fun h => by
      refine ⟨?_, ?_, ?_⟩
      · rw [sumI, fxP, if_neg (by rw [h]; decide), Int32.add_zero]; exact ha
      · rw [cnt, h]; simpa using hb
      · rw [fxS_no h]; exact hR
    by_cases hk : i < n
    · refine ⟨_, hR.1, _, hw ▸ c_find_lt hR h0 hn hk, ?_⟩
      rintro _ _ ⟨rfl, rfl⟩
      refine ⟨_, hw ▸ c_isIn K _ x (k := i) (by omega), ?_⟩
      rintro _ _ ⟨rfl, rfl⟩
      refine ⟨fun h => ?_, fun h => ?_⟩
      · obtain ⟨n1, n2, n3⟩ := no (by rw [inX, b2i_0.mp h, Bool.and_false])
        exact ih (i + 1) _ _ _ _ _ _ (by omega) (by rw [hw, nI_1]) n1 n2 n3 hf
      · have hX : inX n x i = true := by rw [inX, b2i_n0.mp h, decide_eq_true hk]; rfl
        have hg := hR.2.2.2 i (by omega)
        rw [fxS_gu, fxS_st (by omega)] at hg
        refine ⟨_, hR.1, _, hg.1, _, hg.1, _, hg.1, trivial, fun H1 u1 => ⟨_, u1.2.1, trivial, fun H2 u2 => ⟨_, u2.2.1, trivial, fun H3 u3 => ?_⟩⟩⟩
        have f := (u1.fr.trans u2.fr).trans u3.fr
        refine ih (i + 1) _ _ _ _ _ _ (by omega) (by rw [hw, nI_1]) ?_ ?_ ?_ (hf.trans (f.wide (by omega) (by omega)))
        · rw [sumI, fxP, if_pos hX, ha]; rfl
        · rw [cnt, hX, hb, nI_1]; rfl
        · rw [← fxS_yes (by omega) hX]
          refine hR.gu (by omega) ⟨?_, (f.2 _ (by omega)).trans hg.2⟩ (f.wide (by omega) (by omega))
          rw [u3.2.1, ← hb]
          rfl
    · refine ⟨_, hR.1, _, hw ▸ c_find_ge hR h0 hn (Nat.le_of_not_lt hk) (by omega), ?_⟩
      rintro _ _ ⟨rfl, rfl⟩
      obtain ⟨n1, n2, n3⟩ := no (by rw [inX, decide_eq_false hk, Bool.false_and])
      exact ih (i + 1) _ _ _ _ _ _ (by omega) (by rw [hw, nI_1]) n1 n2 n3 hf
set_option maxRecDepth 100000 in
set_option maxHeartbeats 4000000 in
theorem c_fixCompany {K : hK} {H : hAH} {s n x : Nat} {S : Nat → Nat → Int32} (hR : RSt K H s S) (h0 : S 0 0 = nI n) (hn : n ≤ 12) (hx : x < 4096) : hCT K M_St_fixCompany [.ref s, .int (nI x)] H 0 0 (fun r H' => r = some (.int (sumI (fxP S n x) 12)) ∧ RSt K H' s (fxS S n x 12) ∧ hFr s (s + 27) H H') := by
  refine hCT.go (okc_St_fixCompany K _ _) [39] 60 (by decide +kernel) rfl rfl ?_
  refine ⟨_, hR.1, Or.inr rfl, fun H1 u1 => ⟨_, u1.2.1, trivial, fun H2 u2 => ⟨_, c_pop K H2 hx, ?_⟩⟩⟩
  rintro _ _ ⟨rfl, rfl⟩
  have hR1 := hR.ob (A := upd (S 0) 2 1) u1 rfl
  have hR2 := hR1.ob (A := upd (upd (S 0) 2 1) 3 (nI x)) u2 rfl
  refine ⟨_, u2.2.1, _, c_feeOf hR2 _, ?_⟩
  rintro _ _ ⟨rfl, rfl⟩
  refine ⟨_, u2.2.1, trivial, fun H3 u3 => ⟨_, u3.2.1, _, u3.2.1, trivial, fun H4 u4 => ?_⟩⟩
  have f : hFr s (s + 27) H H4 := (((u1.fr.trans u2.fr).trans u3.fr).trans u4.fr).wide (by omega) (by omega)
  have hR4 : RSt K H4 s (fxS S n x 0) := by
    rw [← fxS_0 S n x]
    refine ⟨?_, ?_, ?_, fun j hj => ?_⟩
    · exact u4.2.1
    · have f' := ((u1.fr.trans u2.fr).trans u3.fr).trans u4.fr
      rw [f'.2 _ (by omega)]; exact hR.2.1
    · have f' := ((u1.fr.trans u2.fr).trans u3.fr).trans u4.fr
      rw [f'.2 _ (by omega), hR.2.2.1]; rfl
    · have f' := ((u1.fr.trans u2.fr).trans u3.fr).trans u4.fr
      unfold sOb
      rw [if_neg (by omega), if_neg (by omega)]
      exact (hR.2.2.2 j hj).fr f' (by omega)
  refine (l_fixCompany h0 hn 12 0 _ _ _ _ _ _ (by omega) rfl rfl rfl hR4 hFr.rfl : hJ _ _ _ (fun r H' => r = some (.int (sumI (fxP S n x) 12)) ∧ RSt K H' s (fxS S n x 12) ∧ hFr s (s + 27) H4 H') _ _ _ _ _).imp ?_
  exact fun r H' ⟨a1, a2, a3⟩ => ⟨a1, a2, f.trans a3⟩
/-! adding a guest -/
def adS (S : Nat → Nat → Int32) (n : Nat) (l w : Int32) : Nat → Nat → Int32 := sGu (sOb S (upd (S 0) 0 (nI (n + 1)))) n (gBegin l w) (upd (S (14 + n)) 0 0)
set_option maxRecDepth 100000 in
set_option maxHeartbeats 4000000 in
theorem c_add {K : hK} {H : hAH} {s n : Nat} {S : Nat → Nat → Int32} (l w : Int32) (hR : RSt K H s S) (h0 : S 0 0 = nI n) (hn : n < 12) : hCT K M_St_add [.ref s, .int l, .int w] H 0 0 (fun r H' => r = some (.int (nI n)) ∧ RSt K H' s (adS S n l w) ∧ hFr s (s + 27) H H') := by
  refine hCT.go (okc_St_add K _ _) [] 60 (by decide +kernel) rfl rfl ?_
  refine ⟨_, hR.1, _, hR.1, _, hR.1, trivial, fun H1 u1 => ?_⟩
  have hR1 := hR.ob (A := upd (S 0) 0 (S 0 0 + 1)) u1 rfl
  have h1 : sOb S (upd (S 0) 0 (S 0 0 + 1)) 0 0 = nI (n + 1) := by show S 0 0 + 1 = _; rw [h0, nI_1]
  refine ⟨_, hR1.1, _, h0 ▸ c_find_lt hR1 h1 (by omega) (k := n) (by omega), ?_⟩
  rintro _ _ ⟨rfl, rfl⟩
  have hg := hR1.2.2.2 n (by omega)
  refine ⟨_, hg.1, _, c_Gu_begin hg l w, ?_⟩
  rintro _ H2 ⟨rfl, hg2, f2⟩
  refine ⟨trivial, by rw [h0], ?_, (u1.fr' (by omega) (by omega)).trans (f2.wide (by omega) (by omega))⟩
  have hR2 := hR1.gu (by omega) hg2 f2
  have e : sGu (sOb S (upd (S 0) 0 (S 0 0 + 1))) n (gBegin l w) (upd (sOb S (upd (S 0) 0 (S 0 0 + 1)) (14 + n)) 0 0) = adS S n l w := by
    unfold adS
    rw [h0, nI_1]
    congr 1
    unfold sOb
    rw [if_neg (by omega)]
  rw [e] at hR2
  exact hR2
/-! copying -/
def relG (S2 S' : Nat → Nat → Int32) (k : Nat) : Prop := (∀ j, j < 9 → S' (2 + k) j = S2 (2 + k) j) ∧ ∀ j, j < stC S2 k → S' (14 + k) j = S2 (14 + k) j
def cpRel (S2 : Nat → Nat → Int32) (n : Nat) (S' : Nat → Nat → Int32) : Prop := (∀ j, j < 8 → S' 0 j = S2 0 j) ∧ (∀ j, j < 5 → S' 1 j = S2 1 j) ∧ ∀ k, k < n → relG S2 S' k
theorem relG_sOb {S2 S' : Nat → Nat → Int32} {A : Nat → Int32} {k : Nat} (h : relG S2 S' k) : relG S2 (sOb S' A) k := by
  unfold relG sOb
  rw [if_neg (by omega), if_neg (by omega)]
  exact h
theorem relG_sSe {S2 S' : Nat → Nat → Int32} {A : Nat → Int32} {k : Nat} (h : relG S2 S' k) : relG S2 (sSe S' A) k := by
  unfold relG sSe
  rw [if_neg (by omega), if_neg (by omega)]
  exact h
set_option maxRecDepth 100000 in
set_option maxHeartbeats 4000000 in
theorem l_copyFromA {K : hK} {H : hAH} {s o n : Nat} {S2 : Nat → Nat → Int32} {Q : hPost} (hO : RSt K H o S2) (hS2 : SOk S2 n) (hd : o + 27 ≤ s ∨ s + 27 ≤ o)
    (kk : ∀ (Hc : hAH) (Si : Nat → Nat → Int32) (w : Int32) (l3 l4 : Option Value), RSt K Hc s Si → Si 0 0 = nI n → (∀ k, k < n → relG S2 Si k) → hFr s (s + 27) H Hc → hGo (code_St_copyFrom K (0, 0) Q) [10, 52] (hJ K M_St_copyFrom (0, 0) Q) 60 50 (0, 0) [some (.ref s), some (.ref o), some (.int w), l3, l4] [] Hc) :
    ∀ (m i : Nat) (w : Int32) (l3 l4 : Option Value) (Hc : hAH) (Si : Nat → Nat → Int32), i + m = 12 → w = nI i → RSt K Hc s Si → Si 0 0 = nI n → (∀ k, k < i → k < n → relG S2 Si k) → hFr s (s + 27) H Hc → hJ K M_St_copyFrom (0, 0) Q 10 (0, 0) [some (.ref s), some (.ref o), some (.int w), l3, l4] [] Hc := by
  obtain ⟨h0, hn, -, hg2⟩ := hS2
  intro m
  induction m with
  | zero =>
    intro i w l3 l4 Hc Si hi hw hR hs0 hrel hf
    refine hGo_sound (okc_St_copyFrom K _ _) [10, 52] 63 _ _ _ _ _ ?_
    refine ⟨fun _ => ?_, fun h => ?_⟩
    · exact kk Hc Si w l3 l4 hR hs0 (fun k hk => hrel k (by omega) hk) hf
    · exact absurd (by rw [hw]; exact nI_le (a := 12) (by omega) (by omega)) h
  | succ m ih =>
    intro i w l3 l4 Hc Si hi hw hR hs0 hrel hf
    have hO' := hO.fr hf (by omega)
    refine hGo_sound (okc_St_copyFrom K _ _) [10, 52] 63 _ _ _ _ _ ?_
    refine ⟨fun h => absurd (by rw [hw] at h; exact h) (nI_ge (b := 12) (by omega) (by omega)), fun _ => ?_⟩
    by_cases hk : i < n
    · refine ⟨_, hR.1, _, hw ▸ c_find_lt hR hs0 hn hk, ?_⟩
      rintro _ _ ⟨rfl, rfl⟩
      refine ⟨_, hO'.1, _, hw ▸ c_find_lt hO' h0 hn hk, ?_⟩
      rintro _ _ ⟨rfl, rfl⟩
      have hg := hR.2.2.2 i (by omega)
      have hgo := hO'.2.2.2 i (by omega)
      obtain ⟨b1, b2, b3⟩ := hg2 i hk
      refine ⟨_, hg.1, _, c_Gu_copyFrom hg hgo (by omega) b1 b2 b3, ?_⟩
      rintro _ H1 ⟨rfl, ⟨G', hg', hG'⟩, f1⟩
      refine ih (i + 1) _ _ _ _ _ (by omega) (by rw [hw, nI_1]) (hR.gu (by omega) hg' f1) ?_ ?_ (hf.trans (f1.wide (by omega) (by omega)))
      · unfold sGu; rw [if_neg (by omega), if_neg (by omega)]; exact hs0
      · intro k hk1 hk2
        by_cases e : k = i
        · subst e
          unfold relG sGu
          rw [if_pos rfl, if_neg (by omega), if_pos rfl]
          exact ⟨hG', fun j hj => if_pos hj⟩
        · unfold relG sGu
          rw [if_neg (by omega), if_neg (by omega), if_neg (by omega), if_neg (by omega)]
          exact hrel k (by omega) hk2
    · refine ⟨_, hR.1, _, hw ▸ c_find_ge hR hs0 hn (Nat.le_of_not_lt hk) (by omega), ?_⟩
      rintro _ _ ⟨rfl, rfl⟩
      refine ⟨_, hO'.1, _, hw ▸ c_find_ge hO' h0 hn (Nat.le_of_not_lt hk) (by omega), ?_⟩
      rintro _ _ ⟨rfl, rfl⟩
      exact ih (i + 1) _ _ _ _ _ (by omega) (by rw [hw, nI_1]) hR hs0 (fun k h1 h2 => hrel k (by omega) h2) hf
set_option maxRecDepth 100000 in
set_option maxHeartbeats 4000000 in
theorem l_copyFromB {K : hK} {H : hAH} {s o n : Nat} {S2 : Nat → Nat → Int32} (hO : RSt K H o S2) (hS2 : SOk S2 n) (hd : o + 27 ≤ s ∨ s + 27 ≤ o) :
    ∀ (m i : Nat) (w : Int32) (l3 l4 : Option Value) (Hc : hAH) (Si : Nat → Nat → Int32), i + m = 5 → w = nI i → RSt K Hc s Si → Si 0 0 = nI n → (∀ k, k < n → relG S2 Si k) → (∀ j, j < i → Si 1 j = S2 1 j) → hFr s (s + 27) H Hc → hJ K M_St_copyFrom (0, 0) (fun r H' => r = none ∧ (∃ S', RSt K H' s S' ∧ cpRel S2 n S') ∧ hFr s (s + 27) H H') 52 (0, 0) [some (.ref s), some (.ref o), some (.int w), l3, l4] [] Hc := by
  obtain ⟨h0, hn, hb, hg2⟩ := hS2
  intro m
  induction m with
  | zero =>
    intro i w l3 l4 Hc Si hi hw hR hs0 hrel hset hf
    have hO' := hO.fr hf (by omega)
    refine hGo_sound (okc_St_copyFrom K _ _) [10, 52] 63 _ _ _ _ _ ?_
    refine ⟨fun _ => ?_, fun h => ?_⟩
    · refine ⟨_, hO'.1, _, hR.1, trivial, fun H1 u1 => ?_⟩
      have f1 := u1.fr
      refine ⟨_, (f1.2 o (by omega)).trans hO'.1, _, u1.2.1, hb, fun H2 u2 => ?_⟩
      have f2 := f1.trans u2.fr
      refine ⟨_, (f2.2 o (by omega)).trans hO'.1, _, u2.2.1, trivial, fun H3 u3 => ?_⟩
      have f3 := f2.trans u3.fr
      refine ⟨_, (f3.2 o (by omega)).trans hO'.1, _, u3.2.1, trivial, fun H4 u4 => ?_⟩
      have f4 := f3.trans u4.fr
      refine ⟨_, (f4.2 o (by omega)).trans hO'.1, _, u4.2.1, trivial, fun H5 u5 => ?_⟩
      have f5 := f4.trans u5.fr
      refine ⟨_, (f5.2 o (by omega)).trans hO'.1, _, u5.2.1, trivial, fun H6 u6 => ?_⟩
      have f6 := f5.trans u6.fr
      refine ⟨_, (f6.2 o (by omega)).trans hO'.1, _, u6.2.1, trivial, fun H7 u7 => ?_⟩
      have f7 := f6.trans u7.fr
      refine ⟨rfl, ⟨sOb Si (fun j => if j = 0 then Si 0 0 else S2 0 j), ⟨u7.2.1, ?_, ?_, fun j hj => ?_⟩, ?_, ?_, ?_⟩, hf.trans (f7.wide (by omega) (by omega))⟩
      · rw [f7.2 _ (by omega)]; exact hR.2.1
      · rw [f7.2 _ (by omega), hR.2.2.1]; rfl
      · unfold sOb
        rw [if_neg (by omega), if_neg (by omega)]
        exact (hR.2.2.2 j hj).fr f7 (by omega)
      · intro j hj
        unfold sOb
        rw [if_pos rfl]
        by_cases e : j = 0
        · subst e; rw [if_pos rfl, hs0, h0]
        · rw [if_neg e]
      · intro j hj
        exact hset j (by omega)
      · exact fun k hk => relG_sOb (hrel k hk)
    · exact absurd (by rw [hw]; exact nI_le (a := 5) (by omega) (by omega)) h
  | succ m ih =>
    intro i w l3 l4 Hc Si hi hw hR hs0 hrel hset hf
    have hO' := hO.fr hf (by omega)
    refine hGo_sound (okc_St_copyFrom K _ _) [10, 52] 63 _ _ _ _ _ ?_
    refine ⟨fun h => absurd (by rw [hw] at h; exact h) (nI_ge (b := 5) (by omega) (by omega)), fun _ => ?_⟩
    refine ⟨_, hR.1, _, hO'.1, 5, _, i, Or.inl hO'.2.2.1, hw, by omega, by decide, 5, _, i, hR.2.2.1, hw, by omega, by decide, fun H1 u1 => ?_⟩
    refine ih (i + 1) _ _ _ _ _ (by omega) (by rw [hw, nI_1]) (hR.se u1) hs0 (fun k hk => relG_sSe (hrel k hk)) ?_ (hf.trans (u1.fr' (by omega) (by omega)))
    intro j hj
    unfold sSe
    rw [if_pos rfl]
    unfold upd
    by_cases e : j = i
    · rw [if_pos e, e]
    · rw [if_neg e]; exact hset j (by omega)
set_option maxRecDepth 100000 in
set_option maxHeartbeats 4000000 in
theorem c_copyFrom {K : hK} {H : hAH} {s o n : Nat} {S S2 : Nat → Nat → Int32} (hR : RSt K H s S) (hO : RSt K H o S2) (hS2 : SOk S2 n) (hd : o + 27 ≤ s ∨ s + 27 ≤ o) : hCT K M_St_copyFrom [.ref s, .ref o] H 0 0 (fun r H' => r = none ∧ (∃ S', RSt K H' s S' ∧ cpRel S2 n S') ∧ hFr s (s + 27) H H') := by
  refine hCT.go (okc_St_copyFrom K _ _) [10, 52] 60 (by decide +kernel) rfl rfl ?_
  refine ⟨_, hO.1, _, hR.1, trivial, fun H1 u1 => ?_⟩
  refine l_copyFromA hO hS2 hd (fun Hc Si w l3 l4 g1 g2 g3 g4 => ?_) 12 0 _ _ _ H1 _ (by omega) rfl (hR.ob (A := upd (S 0) 0 (S2 0 0)) u1 rfl) hS2.1 (fun k hk => absurd hk (Nat.not_lt_zero k)) (u1.fr' (by omega) (by omega))
  exact l_copyFromB hO hS2 hd 5 0 _ _ _ Hc Si (by omega) rfl g1 g2 g3 (fun j hj => absurd hj (Nat.not_lt_zero j)) g4
