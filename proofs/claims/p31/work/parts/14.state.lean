/-! a state: its picture, and what it tells -/
set_option maxRecDepth 100000 in
set_option maxHeartbeats 4000000 in
theorem c_Gu_copyFrom {K : hK} {H : hAH} {g o c : Nat} {G T G2 T2 : Nat → Int32} (hR : RGu K H g G T) (hO : RGu K H o G2 T2) (hd : o + 2 ≤ g ∨ g + 2 ≤ o) (hb : G2 2 = 0 ∨ G2 2 = 1) (hc : G2 8 = nI c) (hc2 : c ≤ 60) : hCT K M_Gu_copyFrom [.ref g, .ref o] H 0 0 (fun r H' => r = none ∧ (∃ G', RGu K H' g G' (mix T2 T c) ∧ ∀ j, j < 9 → G' j = G2 j) ∧ hFr g (g + 2) H H') := by
  refine hCT.go (okc_Gu_copyFrom K _ _) [] 90 (by decide +kernel) rfl rfl ?_
  refine ⟨_, hO.1, _, hR.1, trivial, fun H1 u1 => ?_⟩
  have f1 := u1.fr
  refine ⟨_, (f1.2 o (by omega)).trans hO.1, _, u1.2.1, trivial, fun H2 u2 => ?_⟩
  have f2 := f1.trans u2.fr
  refine ⟨_, (f2.2 o (by omega)).trans hO.1, _, u2.2.1, hb, fun H3 u3 => ?_⟩
  have f3 := f2.trans u3.fr
  refine ⟨_, (f3.2 o (by omega)).trans hO.1, _, u3.2.1, trivial, fun H4 u4 => ?_⟩
  have f4 := f3.trans u4.fr
  refine ⟨_, (f4.2 o (by omega)).trans hO.1, _, u4.2.1, trivial, fun H5 u5 => ?_⟩
  have f5 := f4.trans u5.fr
  refine ⟨_, (f5.2 o (by omega)).trans hO.1, _, u5.2.1, trivial, fun H6 u6 => ?_⟩
  have f6 := f5.trans u6.fr
  refine ⟨_, (f6.2 o (by omega)).trans hO.1, _, u6.2.1, trivial, fun H7 u7 => ?_⟩
  have f7 := f6.trans u7.fr
  have e1 := (f7.2 o (by omega)).trans hO.1
  have hR7 : RGu K H7 g (fun j => if j = 7 then G 7 else if j = 8 then G 8 else G2 j) T := ⟨u7.2.1, (f7.2 (g + 1) (by omega)).trans hR.2⟩
  refine ⟨_, e1, _, e1, _, e1, _, u7.2.1, _, hc ▸ c_Gu_copyCondition (G2 7) hR7 ((f7.2 (o + 1) (by omega)).trans hO.2) (by omega) hc2, ?_⟩
  rintro _ H8 ⟨rfl, a2, a3⟩
  refine ⟨rfl, ⟨_, a2, fun j hj => ?_⟩, (f7.wide (Nat.le_refl _) (by omega)).trans a3⟩
  unfold upd
  by_cases h8 : j = 8
  · rw [if_pos h8, h8, hc]
  · by_cases h7 : j = 7
    · rw [if_neg h8, if_pos h7, h7]
    · simp only [if_neg h7, if_neg h8]
def stCell (s : Nat) (A : Nat → Int32) : va_E := hObj 4 [.ref (s + 1), .int (A 0), .ref (s + 2), .int (A 1), .int (A 2), .int (A 3), .int (A 4), .int (A 5), .int (A 6), .int (A 7)]
def gref (s : Nat) : Nat → Option Nat := fun j => if j < 12 then some (s + 3 + 2 * j) else none
def RSt (K : hK) (H : hAH) (s : Nat) (S : Nat → Nat → Int32) : Prop := H.2 s = some (stCell s (S 0)) ∧ H.2 (s + 1) = some (hRefs K 3 12 (gref s)) ∧ H.2 (s + 2) = some (hInts K 0 5 (S 1)) ∧ ∀ k, k < 12 → RGu K H (s + 3 + 2 * k) (S (2 + k)) (S (14 + k))
theorem RSt.fr {K : hK} {H H' : hAH} {s lo hi : Nat} {S : Nat → Nat → Int32} (h : RSt K H s S) (f : hFr lo hi H H') (hd : hi ≤ s ∨ s + 27 ≤ lo) : RSt K H' s S :=
  ⟨(f.2 _ (by omega)).trans h.1, (f.2 _ (by omega)).trans h.2.1, (f.2 _ (by omega)).trans h.2.2.1, fun k hk => (h.2.2.2 k hk).fr f (by omega)⟩
/-- guest k's row and steps anew -/
def sGu (S : Nat → Nat → Int32) (k : Nat) (G T : Nat → Int32) : Nat → Nat → Int32 := fun i => if i = 2 + k then G else if i = 14 + k then T else S i
def sOb (S : Nat → Nat → Int32) (A : Nat → Int32) : Nat → Nat → Int32 := fun i => if i = 0 then A else S i
def sSe (S : Nat → Nat → Int32) (A : Nat → Int32) : Nat → Nat → Int32 := fun i => if i = 1 then A else S i
theorem RSt.gu {K : hK} {H H' : hAH} {s k : Nat} {S : Nat → Nat → Int32} {G T : Nat → Int32} (h : RSt K H s S) (hk : k < 12) (hg : RGu K H' (s + 3 + 2 * k) G T) (f : hFr (s + 3 + 2 * k) (s + 3 + 2 * k + 2) H H') : RSt K H' s (sGu S k G T) := by
  refine ⟨?_, ?_, ?_, fun j hj => ?_⟩
  · rw [f.2 _ (by omega), h.1]; unfold sGu; rw [if_neg (by omega), if_neg (by omega)]
  · rw [f.2 _ (by omega), h.2.1]
  · rw [f.2 _ (by omega), h.2.2.1]; unfold sGu; rw [if_neg (by omega), if_neg (by omega)]
  · by_cases e : j = k
    · subst e
      unfold sGu
      rw [if_pos rfl, if_neg (by omega), if_pos rfl]
      exact hg
    · unfold sGu
      rw [if_neg (by omega), if_neg (by omega), if_neg (by omega), if_neg (by omega)]
      exact (h.2.2.2 j hj).fr f (by omega)
theorem RSt.ob {K : hK} {H H' : hAH} {s : Nat} {S : Nat → Nat → Int32} {A : Nat → Int32} {c : va_E} (h : RSt K H s S) (u : hUpd H s c H') (hc : c = stCell s A) : RSt K H' s (sOb S A) := by
  subst hc
  refine ⟨u.2.1, ?_, ?_, fun j hj => ?_⟩
  · rw [u.2.2 _ (by omega)]; exact h.2.1
  · rw [u.2.2 _ (by omega), h.2.2.1]; rfl
  · unfold sOb
    rw [if_neg (by omega), if_neg (by omega)]
    exact (h.2.2.2 j hj).fr u.fr (by omega)
theorem RSt.se {K : hK} {H H' : hAH} {s : Nat} {S : Nat → Nat → Int32} {A : Nat → Int32} (h : RSt K H s S) (u : hUpd H (s + 2) (hInts K 0 5 A) H') : RSt K H' s (sSe S A) := by
  refine ⟨?_, ?_, u.2.1, fun j hj => ?_⟩
  · rw [u.2.2 _ (by omega)]; exact h.1
  · rw [u.2.2 _ (by omega)]; exact h.2.1
  · unfold sSe
    rw [if_neg (by omega), if_neg (by omega)]
    exact (h.2.2.2 j hj).fr u.fr (by omega)
/-- the number of guests, and what each of them keeps to -/
def stC (S : Nat → Nat → Int32) (k : Nat) : Nat := (S (2 + k) 8).toNatClampNeg
def SOk (S : Nat → Nat → Int32) (n : Nat) : Prop := S 0 0 = nI n ∧ n ≤ 12 ∧ (S 0 2 = 0 ∨ S 0 2 = 1) ∧ ∀ k, k < n → (S (2 + k) 2 = 0 ∨ S (2 + k) 2 = 1) ∧ S (2 + k) 8 = nI (stC S k) ∧ stC S k ≤ 60
def sMet (S : Nat → Nat → Int32) (k x : Nat) : Bool := gcMet (S (14 + k)) (stC S k) x
set_option maxRecDepth 100000 in
set_option maxHeartbeats 4000000 in
theorem c_find_lt {K : hK} {H : hAH} {s n k : Nat} {S : Nat → Nat → Int32} (hR : RSt K H s S) (h0 : S 0 0 = nI n) (hn : n ≤ 12) (hk : k < n) : hCT K M_St_find [.ref s, .int (nI k)] H 0 0 (fun r H' => r = some (.ref (s + 3 + 2 * k)) ∧ H' = H) := by
  refine hCT.go (okc_St_find K _ _) [] 60 (by decide +kernel) rfl rfl ?_
  refine ⟨fun h => absurd h (nI_pos (by omega)), fun _ => ⟨_, hR.1, fun h => ?_, fun _ => ⟨_, hR.1, 12, Or.inl ⟨3, _, by decide, hR.2.1⟩, fun h => ?_, fun _ => ⟨fun h => absurd h (by decide), fun _ => ?_⟩⟩⟩⟩
  · exact absurd (by rw [h0] at h; exact h) (nI_ge (by omega) (by omega))
  · exact absurd h (nI_ge (b := 12) (by omega) (by omega))
  · refine ⟨_, hR.1, 12, _, k, some (s + 3 + 2 * k), hR.2.1, rfl, by omega, by decide, if_pos (by omega), ?_⟩
    exact ⟨rfl, rfl⟩
set_option maxRecDepth 100000 in
set_option maxHeartbeats 4000000 in
theorem c_find_no {K : hK} {H : hAH} {s n : Nat} {S : Nat → Nat → Int32} (hR : RSt K H s S) (h0 : S 0 0 = nI n) (hn : n ≤ 12) {w : Int32} (hw : ∀ k, k < n → w ≠ nI k) : hCT K M_St_find [.ref s, .int w] H 0 0 (fun r H' => r = some .null ∧ H' = H) := by
  refine hCT.go (okc_St_find K _ _) [] 60 (by decide +kernel) rfl rfl ?_
  refine ⟨fun h => ⟨fun _ => ⟨rfl, rfl⟩, fun h => absurd rfl h⟩, fun h1 => ⟨_, hR.1, fun h => ⟨fun _ => ⟨rfl, rfl⟩, fun h => absurd rfl h⟩, fun h2 => ?_⟩⟩
  exfalso
  obtain ⟨j, hj, rfl⟩ := nI_of h1
  rw [h0] at h2
  have : j < n := by
    refine Nat.lt_of_not_le fun q => h2 ?_
    exact nI_le q hj
  exact hw j this rfl
theorem c_find_ge {K : hK} {H : hAH} {s n k : Nat} {S : Nat → Nat → Int32} (hR : RSt K H s S) (h0 : S 0 0 = nI n) (hn : n ≤ 12) (hk : n ≤ k) (hk2 : k < 100) : hCT K M_St_find [.ref s, .int (nI k)] H 0 0 (fun r H' => r = some .null ∧ H' = H) :=
  c_find_no hR h0 hn fun j hj e => by have := nI_inj (by omega) (by omega) e; omega
set_option maxRecDepth 100000 in
set_option maxHeartbeats 4000000 in
theorem c_everybody {K : hK} {H : hAH} {s n : Nat} {S : Nat → Nat → Int32} (hR : RSt K H s S) (h0 : S 0 0 = nI n) (hn : n ≤ 12) : hCT K M_St_everybody [.ref s] H 0 0 (fun r H' => r = some (.int (nI (2 ^ n - 1))) ∧ H' = H) := by
  refine hCT.go (okc_St_everybody K _ _) [] 60 (by decide +kernel) rfl rfl ?_
  refine ⟨_, hR.1, _, h0 ▸ c_bitOf K H (k := n) (by omega), ?_⟩
  rintro _ _ ⟨rfl, rfl⟩
  refine ⟨trivial, ?_, rfl⟩
  have : 2 ^ n = (2 ^ n - 1) + 1 := by have := Nat.two_pow_pos n; omega
  rw [← nI_pred (2 ^ n - 1), ← this]
set_option maxRecDepth 100000 in
set_option maxHeartbeats 4000000 in
theorem c_hasAll {K : hK} {H : hAH} {s n : Nat} {S : Nat → Nat → Int32} (hR : RSt K H s S) (h0 : S 0 0 = nI n) (hn : n ≤ 12) (w : Int32) : hCT K M_St_hasAll [.ref s, .int w] H 0 0 (fun r H' => r = some (.int (b2i (decide (0 ≤ w ∧ w ≤ nI (2 ^ n - 1))))) ∧ H' = H) := by
  refine hCT.go (okc_St_hasAll K _ _) [] 60 (by decide +kernel) rfl rfl ?_
  refine ⟨_, hR.1, _, c_everybody hR h0 hn, ?_⟩
  rintro _ _ ⟨rfl, rfl⟩
  refine ⟨_, c_Pa_isWithin K _ _ _ _, ?_⟩
  rintro _ _ ⟨rfl, rfl⟩
  refine ⟨?_, by rw [b2i_if], rfl⟩
  rw [b2i_if]
  exact b2i_01 _
/-- the set of those that satisfy p -/
def setOf (p : Nat → Bool) : Nat → Nat
  | 0 => 0
  | k + 1 => setOf p k ||| (if p k then 2 ^ k else 0)
theorem setOf_lt (p : Nat → Bool) : ∀ n, setOf p n < 2 ^ n
  | 0 => by simp [setOf]
  | n + 1 => by
    unfold setOf
    refine Nat.or_lt_two_pow (Nat.lt_of_lt_of_le (setOf_lt p n) (Nat.pow_le_pow_right (by decide) (Nat.le_succ n))) ?_
    split
    · exact Nat.pow_lt_pow_right (by decide) (Nat.lt_succ_self n)
    · exact Nat.two_pow_pos _
theorem setOf_bit (p : Nat → Bool) : ∀ n j, (setOf p n).testBit j = (decide (j < n) && p j)
  | 0, j => by simp [setOf]
  | n + 1, j => by
    unfold setOf
    rw [Nat.testBit_or, setOf_bit p n j]
    by_cases e : j = n
    · subst e
      cases h : p j <;> simp [Nat.testBit_two_pow]
    · have h1 : decide (j < n + 1) = decide (j < n) := by by_cases h : j < n <;> simp [h] <;> omega
      rw [h1]
      cases h : p n
      · simp
      · simp [Nat.testBit_two_pow, Ne.symm e]
theorem setOf_12 (p : Nat → Bool) : setOf p 12 < 4096 := setOf_lt p 12
theorem setOf_step (p : Nat → Bool) (k : Nat) : nI (setOf p k) ||| nI (2 ^ k) = nI (setOf (fun j => if j = k then true else p j) (k + 1)) := by
  rw [nI_or]
  congr 1
  apply Nat.eq_of_testBit_eq
  intro j
  rw [Nat.testBit_or, setOf_bit, setOf_bit, Nat.testBit_two_pow]
  by_cases e : j = k
  · subst e; simp
  · have h1 : decide (j < k + 1) = decide (j < k) := by by_cases h : j < k <;> simp [h] <;> omega
    simp [e, Ne.symm e, h1]
theorem setOf_yes {p : Nat → Bool} {k : Nat} (h : p k = true) : setOf p (k + 1) = setOf p k ||| 2 ^ k := by rw [setOf, h]; rfl
theorem setOf_no {p : Nat → Bool} {k : Nat} (h : p k = false) : setOf p (k + 1) = setOf p k := by rw [setOf, h]; simp
def sInv (S : Nat → Nat → Int32) (n k : Nat) : Bool := decide (k < n) && !decide (S (2 + k) 2 = 0)
set_option maxRecDepth 100000 in
set_option maxHeartbeats 4000000 in
theorem l_invitedGuests {K : hK} {H : hAH} {s n : Nat} {S : Nat → Nat → Int32} (hR : RSt K H s S) (h0 : S 0 0 = nI n) (hn : n ≤ 12) : ∀ (m i : Nat) (w a : Int32) (l3 : Option Value), i + m = 12 → w = nI i → a = nI (setOf (sInv S n) i) → hJ K M_St_invitedGuests (0, 0) (fun r H' => r = some (.int (nI (setOf (sInv S n) 12))) ∧ H' = H) 4 (0, 0) [some (.ref s), some (.int a), some (.int w), l3] [] H := by
  intro m
  induction m with
  | zero =>
    intro i w a l3 hi hw ha
    refine hGo_sound (okc_St_invitedGuests K _ _) [4] 60 _ _ _ _ _ ?_
    refine ⟨fun _ => ?_, fun h => ?_⟩
    · exact ⟨trivial, by rw [ha, show i = 12 by omega], rfl⟩
    · exact absurd (by rw [hw]; exact nI_le (a := 12) (by omega) (by omega)) h
  | succ m ih =>
    intro i w a l3 hi hw ha
    refine hGo_sound (okc_St_invitedGuests K _ _) [4] 60 _ _ _ _ _ ?_
    refine ⟨fun h => ?_, fun _ => ?_⟩
    · exact absurd (by rw [hw] at h; exact h) (nI_ge (b := 12) (by omega) (by omega))
    · by_cases hk : i < n
      · refine ⟨_, hR.1, _, hw ▸ c_find_lt hR h0 hn hk, ?_⟩
        rintro _ _ ⟨rfl, rfl⟩
        refine ⟨_, (hR.2.2.2 i (by omega)).1, fun h => ?_, fun h => ?_⟩
        · refine ih (i + 1) _ _ _ (by omega) (by rw [hw, nI_1]) ?_
          rw [ha, setOf_no]
          rw [sInv, decide_eq_true h]; simp
        · refine ⟨_, hw ▸ c_bitOf K _ (k := i) (by omega), ?_⟩
          rintro _ _ ⟨rfl, rfl⟩
          refine ih (i + 1) _ _ _ (by omega) (by rw [hw, nI_1]) ?_
          rw [ha, nI_or, setOf_yes]
          rw [sInv, decide_eq_false h, decide_eq_true hk]; rfl
      · refine ⟨_, hR.1, _, hw ▸ c_find_ge hR h0 hn (Nat.le_of_not_lt hk) (by omega), ?_⟩
        rintro _ _ ⟨rfl, rfl⟩
        refine ih (i + 1) _ _ _ (by omega) (by rw [hw, nI_1]) ?_
        rw [ha, setOf_no]
        rw [sInv, decide_eq_false hk]; rfl
set_option maxRecDepth 100000 in
set_option maxHeartbeats 4000000 in
theorem c_invitedGuests {K : hK} {H : hAH} {s n : Nat} {S : Nat → Nat → Int32} (hR : RSt K H s S) (h0 : S 0 0 = nI n) (hn : n ≤ 12) : hCT K M_St_invitedGuests [.ref s] H 0 0 (fun r H' => r = some (.int (nI (setOf (sInv S n) 12))) ∧ H' = H) := by
  refine hCT.go (okc_St_invitedGuests K _ _) [4] 60 (by decide +kernel) rfl rfl ?_
  exact l_invitedGuests hR h0 hn 12 0 _ _ _ rfl rfl rfl
/-- the fee of so many -/
def feeC (A : Nat → Int32) (m : Int32) : Int32 := if 0 < m then (A 0 + m - 1) / m + A 1 else 0
set_option maxRecDepth 100000 in
set_option maxHeartbeats 4000000 in
theorem c_feeOf {K : hK} {H : hAH} {s : Nat} {S : Nat → Nat → Int32} (hR : RSt K H s S) (m : Int32) : hCT K M_St_feeOf [.ref s, .int m] H 0 0 (fun r H' => r = some (.int (feeC (S 1) m)) ∧ H' = H) := by
  refine hCT.go (okc_St_feeOf K _ _) [] 60 (by decide +kernel) rfl rfl ?_
  refine ⟨fun h => ?_, fun h => ⟨trivial, by rw [feeC, if_neg h], rfl⟩⟩
  refine ⟨_, hR.1, 5, _, 0, Or.inl hR.2.2.1, rfl, by decide, by decide, fun e => ?_, _, hR.1, 5, _, 1, Or.inl hR.2.2.1, rfl, by decide, by decide, trivial, by rw [feeC, if_pos h], rfl⟩
  rw [e] at h
  exact absurd h (by decide)
