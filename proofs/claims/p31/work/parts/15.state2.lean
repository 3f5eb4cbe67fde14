/-! a state's questions: stable sets and their parts -/
def allB (p : Nat → Bool) : Nat → Bool
  | 0 => true
  | k + 1 => allB p k && p k
theorem allB_iff (p : Nat → Bool) : ∀ n, allB p n = true ↔ ∀ k, k < n → p k = true
  | 0 => by simp [allB]
  | n + 1 => by
    rw [allB, Bool.and_eq_true, allB_iff p n]
    exact ⟨fun h k hk => by
      by_cases e : k = n
      · subst e; exact h.2
      · exact h.1 k (by omega), fun h => ⟨fun k hk => h k (by omega), h n (by omega)⟩⟩
theorem allB_no {p : Nat → Bool} {n k : Nat} (hk : k < n) (h : p k = false) : allB p n = false := by
  cases e : allB p n
  · rfl
  · rw [(allB_iff p n).mp e k hk] at h; cases h
/-- guest k of a set stands by it, with this fee -/
def okG (S : Nat → Nat → Int32) (n x : Nat) (fe : Int32) (k : Nat) : Bool := !x.testBit k || (decide (k < n) && !decide (S (2 + k) 2 = 0) && decide (fe ≤ S (2 + k) 0) && sMet S k x)
def stb (S : Nat → Nat → Int32) (n x : Nat) : Bool := allB (okG S n x (feeC (S 1) (nI (pop x)))) 12
set_option maxRecDepth 100000 in
set_option maxHeartbeats 4000000 in
theorem l_isStable {K : hK} {H : hAH} {s n x : Nat} {S : Nat → Nat → Int32} (hR : RSt K H s S) (hS : SOk S n) (hx : x < 4096) {fe : Int32} (hfe : fe = feeC (S 1) (nI (pop x))) : ∀ (m i : Nat) (w : Int32) (l4 : Option Value), i + m = 12 → w = nI i → allB (okG S n x fe) i = true → hJ K M_St_isStable (0, 0) (fun r H' => r = some (.int (b2i (stb S n x))) ∧ H' = H) 11 (0, 0) [some (.ref s), some (.int (nI x)), some (.int fe), some (.int w), l4] [] H := by
  obtain ⟨h0, hn, -, hg⟩ := hS
  subst hfe
  intro m
  induction m with
  | zero =>
    intro i w l4 hi hw ha
    refine hGo_sound (okc_St_isStable K _ _) [11] 60 _ _ _ _ _ ?_
    refine ⟨fun _ => ?_, fun h => ?_⟩
    · refine ⟨Or.inr rfl, ?_, rfl⟩
      rw [show i = 12 by omega] at ha
      rw [stb, ha]; rfl
    · exact absurd (by rw [hw]; exact nI_le (a := 12) (by omega) (by omega)) h
  | succ m ih =>
    intro i w l4 hi hw ha
    refine hGo_sound (okc_St_isStable K _ _) [11] 60 _ _ _ _ _ ?_
    have no : okG S n x (feeC (S 1) (nI (pop x))) i = false → b2i (stb S n x) = 0 := fun h => by rw [stb, allB_no (by omega) h]; rfl
    refine ⟨fun h => ?_, fun _ => ?_⟩
    · exact absurd (by rw [hw] at h; exact h) (nI_ge (b := 12) (by omega) (by omega))
    · refine ⟨_, hw ▸ c_isIn K H x (k := i) (by omega), ?_⟩
      rintro _ _ ⟨rfl, rfl⟩
      refine ⟨fun hb => ?_, fun hb => ?_⟩
      · refine ih (i + 1) _ _ (by omega) (by rw [hw, nI_1]) ?_
        rw [allB, ha, okG, b2i_0.mp hb]; rfl
      · have hb := b2i_n0.mp hb
        by_cases hk : i < n
        · refine ⟨_, hR.1, _, hw ▸ c_find_lt hR h0 hn hk, ?_⟩
          rintro _ _ ⟨rfl, rfl⟩
          have hRg := hR.2.2.2 i (by omega)
          refine ⟨_, hRg.1, fun h1 => ?_, fun h1 => ⟨_, hRg.1, fun h2 => ?_, fun h2 => ?_⟩⟩
          · refine ⟨Or.inl rfl, ?_, rfl⟩
            rw [no]
            rw [okG, hb, decide_eq_true h1]; simp
          · refine ⟨Or.inl rfl, ?_, rfl⟩
            rw [no]
            rw [okG, hb, decide_eq_false (Int32.not_le.mpr h2)]; simp
          · refine ⟨_, hRg.1, _, c_isContentWith hRg (hg i hk).2.1 (hg i hk).2.2 hx, ?_⟩
            rintro _ _ ⟨rfl, rfl⟩
            refine ⟨fun h3 => ?_, fun h3 => ?_⟩
            · have h3 := b2i_n0.mp h3
              refine ih (i + 1) _ _ (by omega) (by rw [hw, nI_1]) ?_
              rw [allB, ha, okG, hb, decide_eq_true hk, decide_eq_false h1, decide_eq_true (Int32.not_lt.mp h2), sMet, h3]; rfl
            · have h3 := b2i_0.mp h3
              refine ⟨Or.inl rfl, ?_, rfl⟩
              rw [no]
              rw [okG, hb, sMet, h3]; simp
        · refine ⟨_, hR.1, _, hw ▸ c_find_ge hR h0 hn (Nat.le_of_not_lt hk) (by omega), ?_⟩
          rintro _ _ ⟨rfl, rfl⟩
          refine ⟨Or.inl rfl, ?_, rfl⟩
          rw [no]
          rw [okG, hb, decide_eq_false hk]; simp
set_option maxRecDepth 100000 in
set_option maxHeartbeats 4000000 in
theorem c_isStable {K : hK} {H : hAH} {s n x : Nat} {S : Nat → Nat → Int32} (hR : RSt K H s S) (hS : SOk S n) (hx : x < 4096) : hCT K M_St_isStable [.ref s, .int (nI x)] H 0 0 (fun r H' => r = some (.int (b2i (stb S n x))) ∧ H' = H) := by
  refine hCT.go (okc_St_isStable K _ _) [11] 60 (by decide +kernel) rfl rfl ?_
  refine ⟨_, c_pop K H hx, ?_⟩
  rintro _ _ ⟨rfl, rfl⟩
  refine ⟨_, hR.1, _, c_feeOf hR _, ?_⟩
  rintro _ _ ⟨rfl, rfl⟩
  exact l_isStable hR hS hx rfl 12 0 _ _ rfl rfl rfl
/-- x is a part of y -/
def subB (x y : Nat) : Bool := decide (x &&& y = x)
theorem subB_iff {x y : Nat} : subB x y = true ↔ ∀ k, x.testBit k = true → y.testBit k = true := by
  rw [subB, decide_eq_true_eq]
  constructor
  · intro h k hk
    rw [← h, Nat.testBit_and] at hk
    exact (Bool.and_eq_true _ _ ▸ hk).2
  · intro h
    apply Nat.eq_of_testBit_eq
    intro k
    rw [Nat.testBit_and]
    cases hk : x.testBit k
    · rfl
    · rw [h k hk]; rfl
theorem andnot {x y : Nat} : nI x &&& (nI y ^^^ (-1)) = 0 ↔ (BitVec.ofNat 32 x) &&& ~~~(BitVec.ofNat 32 y) = 0#32 := by
  rw [← Int32.toBitVec_inj, Int32.toBitVec_and, Int32.toBitVec_xor]
  show BitVec.ofNat 32 x &&& (BitVec.ofNat 32 y ^^^ (BitVec.allOnes 32)) = 0#32 ↔ _
  rw [BitVec.xor_allOnes]
theorem part_iff {x y : Nat} (hx : x < 4096) (hy : y < 4096) : nI x &&& (nI y ^^^ (-1)) = 0 ↔ subB x y = true := by
  rw [andnot, subB_iff]
  constructor
  · intro h k hk
    have hk32 : k < 32 := by
      by_cases q : k < 32
      · exact q
      · rw [Nat.testBit_lt_two_pow (Nat.lt_of_lt_of_le hx (Nat.le_trans (by decide : 4096 ≤ 2 ^ 32) (Nat.pow_le_pow_right (by decide) (by omega))))] at hk
        cases hk
    have h1 := congrArg (fun b => BitVec.getLsbD b k) h
    simp only [BitVec.getLsbD_and, BitVec.getLsbD_not, BitVec.getLsbD_ofNat, BitVec.getLsbD_zero, hk32, decide_true, Bool.true_and, hk] at h1
    cases hb : y.testBit k
    · rw [hb] at h1; simp at h1
    · rfl
  · intro h
    apply BitVec.eq_of_getLsbD_eq
    intro k hk
    simp only [BitVec.getLsbD_and, BitVec.getLsbD_not, BitVec.getLsbD_ofNat, BitVec.getLsbD_zero, hk, decide_true, Bool.true_and]
    cases hb : x.testBit k
    · simp
    · rw [h k hb]; simp
theorem c_isPart (K : hK) (H : hAH) {x y : Nat} (hx : x < 4096) (hy : y < 4096) : hCT K M_Pa_isPart [.int (nI x), .int (nI y)] H 0 0 (fun r H' => r = some (.int (b2i (subB x y))) ∧ H' = H) :=
  (c_Pa_isPart K H (nI x) (nI y)).mono fun r H' h => ⟨by
    rw [h.1, b2i_if]
    congr 3
    cases hb : subB x y
    · exact decide_eq_false fun q => by rw [(part_iff hx hy).mp q] at hb; cases hb
    · exact decide_eq_true ((part_iff hx hy).mpr hb), h.2⟩
set_option maxRecDepth 100000 in
set_option maxHeartbeats 4000000 in
theorem l_countParts {K : hK} {H : hAH} {s n y : Nat} {S : Nat → Nat → Int32} (hR : RSt K H s S) (hS : SOk S n) (hy : y < 4096) : ∀ (m i : Nat) (w a : Int32), i + m = y + 1 → w = nI i → a = nI (cnt (fun x => subB x y && stb S n x) i) → hJ K M_St_countParts (0, 0) (fun r H' => r = some (.int (nI (cnt (fun x => subB x y && stb S n x) (y + 1)))) ∧ H' = H) 4 (0, 0) [some (.ref s), some (.int (nI y)), some (.int a), some (.int w)] [] H := by
  intro m
  induction m with
  | zero =>
    intro i w a hi hw ha
    refine hGo_sound (okc_St_countParts K _ _) [4] 60 _ _ _ _ _ ?_
    refine ⟨fun _ => ⟨trivial, by rw [ha, show i = y + 1 by omega], rfl⟩, fun h => ?_⟩
    exact absurd (by rw [hw]; exact nI_lt (by omega) (by omega)) h
  | succ m ih =>
    intro i w a hi hw ha
    refine hGo_sound (okc_St_countParts K _ _) [4] 60 _ _ _ _ _ ?_
    refine ⟨fun h => ?_, fun _ => ?_⟩
    · exact absurd (by rw [hw] at h; exact h) (nI_nlt (by omega) (by omega))
    · refine ⟨_, hw ▸ c_isPart K H (x := i) (y := y) (by omega) hy, ?_⟩
      rintro _ _ ⟨rfl, rfl⟩
      refine ⟨fun h => ?_, fun h => ?_⟩
      · refine ih (i + 1) _ _ (by omega) (by rw [hw, nI_1]) ?_
        rw [ha, cnt, b2i_0.mp h]; simp
      · refine ⟨_, hR.1, _, hw ▸ c_isStable hR hS (x := i) (by omega), ?_⟩
        rintro _ _ ⟨rfl, rfl⟩
        refine ⟨fun h2 => ?_, fun h2 => ?_⟩
        · refine ih (i + 1) _ _ (by omega) (by rw [hw, nI_1]) ?_
          rw [ha, cnt, b2i_0.mp h2]; simp
        · refine ih (i + 1) _ _ (by omega) (by rw [hw, nI_1]) ?_
          rw [ha, cnt, b2i_n0.mp h, b2i_n0.mp h2, nI_1]; rfl
set_option maxRecDepth 100000 in
set_option maxHeartbeats 4000000 in
theorem c_countParts {K : hK} {H : hAH} {s n y : Nat} {S : Nat → Nat → Int32} (hR : RSt K H s S) (hS : SOk S n) (hy : y < 4096) : hCT K M_St_countParts [.ref s, .int (nI y)] H 0 0 (fun r H' => r = some (.int (nI (cnt (fun x => subB x y && stb S n x) (y + 1)))) ∧ H' = H) := by
  refine hCT.go (okc_St_countParts K _ _) [4] 60 (by decide +kernel) rfl rfl ?_
  exact l_countParts hR hS hy (y + 1) 0 _ _ (by omega) rfl rfl
/-- the smallest of the sets 1 .. j that satisfy p: the set and how many -/
def smRun (p : Nat → Bool) : Nat → Int32 × Int32
  | 0 => (-5, 13)
  | j + 1 => if p (j + 1) && decide (nI (pop (j + 1)) < (smRun p j).2) then (nI (j + 1), nI (pop (j + 1))) else smRun p j
set_option maxRecDepth 100000 in
set_option maxHeartbeats 4000000 in
theorem l_smallestPart {K : hK} {H : hAH} {s n y : Nat} {S : Nat → Nat → Int32} (hR : RSt K H s S) (hS : SOk S n) (hy : y < 4096) : ∀ (m i : Nat) (w a b : Int32) (l5 : Option Value), i + m = y → w = nI (i + 1) → (a, b) = smRun (fun x => subB x y && stb S n x) i → hJ K M_St_smallestPart (0, 0) (fun r H' => r = some (.int (smRun (fun x => subB x y && stb S n x) y).1) ∧ H' = H) 9 (0, 0) [some (.ref s), some (.int (nI y)), some (.int a), some (.int b), some (.int w), l5] [] H := by
  intro m
  induction m with
  | zero =>
    intro i w a b l5 hi hw hab
    refine hGo_sound (okc_St_smallestPart K _ _) [9] 60 _ _ _ _ _ ?_
    refine ⟨fun _ => ⟨trivial, by rw [show y = i by omega]; rw [show i = y by omega] at hab ⊢; rw [← hab], rfl⟩, fun h => ?_⟩
    exact absurd (by rw [hw]; exact nI_lt (by omega) (by omega)) h
  | succ m ih =>
    intro i w a b l5 hi hw hab
    have e1 : (smRun (fun x => subB x y && stb S n x) i).1 = a := by rw [← hab]
    have e2 : (smRun (fun x => subB x y && stb S n x) i).2 = b := by rw [← hab]
    refine hGo_sound (okc_St_smallestPart K _ _) [9] 60 _ _ _ _ _ ?_
    refine ⟨fun h => ?_, fun _ => ?_⟩
    · exact absurd (by rw [hw] at h; exact h) (nI_nlt (by omega) (by omega))
    · refine ⟨_, hw ▸ c_pop K H (x := i + 1) (by omega), ?_⟩
      rintro _ _ ⟨rfl, rfl⟩
      refine ⟨_, hw ▸ c_isPart K _ (x := i + 1) (y := y) (by omega) hy, ?_⟩
      rintro _ _ ⟨rfl, rfl⟩
      refine ⟨fun h => ?_, fun h => ⟨fun h2 => ?_, fun h2 => ?_⟩⟩
      · refine ih (i + 1) _ _ _ _ (by omega) (by rw [hw, nI_1]) ?_
        rw [smRun, b2i_0.mp h]; simpa using hab
      · refine ih (i + 1) _ _ _ _ (by omega) (by rw [hw, nI_1]) ?_
        rw [smRun, e2, decide_eq_false (Int32.not_lt.mpr h2)]; simpa using hab
      · refine ⟨_, hR.1, _, hw ▸ c_isStable hR hS (x := i + 1) (by omega), ?_⟩
        rintro _ _ ⟨rfl, rfl⟩
        refine ⟨fun h3 => ?_, fun h3 => ?_⟩
        · refine ih (i + 1) _ _ _ _ (by omega) (by rw [hw, nI_1]) ?_
          rw [smRun, b2i_0.mp h3]; simpa using hab
        · refine ih (i + 1) _ _ _ _ (by omega) (by rw [hw, nI_1]) ?_
          rw [smRun, e2, b2i_n0.mp h, b2i_n0.mp h3, decide_eq_true (Int32.not_le.mp h2), hw]; rfl
set_option maxRecDepth 100000 in
set_option maxHeartbeats 4000000 in
theorem c_smallestPart {K : hK} {H : hAH} {s n y : Nat} {S : Nat → Nat → Int32} (hR : RSt K H s S) (hS : SOk S n) (hy : y < 4096) : hCT K M_St_smallestPart [.ref s, .int (nI y)] H 0 0 (fun r H' => r = some (.int (smRun (fun x => subB x y && stb S n x) y).1) ∧ H' = H) := by
  refine hCT.go (okc_St_smallestPart K _ _) [9] 60 (by decide +kernel) rfl rfl ?_
  exact l_smallestPart hR hS hy y 0 _ _ _ _ (by omega) rfl rfl
def sumI (f : Nat → Int32) : Nat → Int32
  | 0 => 0
  | k + 1 => sumI f k + f k
def wOf (S : Nat → Nat → Int32) (n x k : Nat) : Int32 := if k < n ∧ x.testBit k = true then S (2 + k) 1 else 0
set_option maxRecDepth 100000 in
set_option maxHeartbeats 4000000 in
theorem l_sumOfWeights {K : hK} {H : hAH} {s n x : Nat} {S : Nat → Nat → Int32} (hR : RSt K H s S) (h0 : S 0 0 = nI n) (hn : n ≤ 12) : ∀ (m i : Nat) (w a : Int32) (l4 : Option Value), i + m = 12 → w = nI i → a = sumI (wOf S n x) i → hJ K M_St_sumOfWeights (0, 0) (fun r H' => r = some (.int (sumI (wOf S n x) 12)) ∧ H' = H) 4 (0, 0) [some (.ref s), some (.int (nI x)), some (.int a), some (.int w), l4] [] H := by
  intro m
  induction m with
  | zero =>
    intro i w a l4 hi hw ha
    refine hGo_sound (okc_St_sumOfWeights K _ _) [4] 60 _ _ _ _ _ ?_
    refine ⟨fun _ => ⟨trivial, by rw [ha, show i = 12 by omega], rfl⟩, fun h => ?_⟩
    exact absurd (by rw [hw]; exact nI_le (a := 12) (by omega) (by omega)) h
  | succ m ih =>
    intro i w a l4 hi hw ha
    refine hGo_sound (okc_St_sumOfWeights K _ _) [4] 60 _ _ _ _ _ ?_
    refine ⟨fun h => absurd (by rw [hw] at h; exact h) (nI_ge (b := 12) (by omega) (by omega)), fun _ => ?_⟩
    by_cases hk : i < n
    · refine ⟨_, hR.1, _, hw ▸ c_find_lt hR h0 hn hk, ?_⟩
      rintro _ _ ⟨rfl, rfl⟩
      refine ⟨_, hw ▸ c_isIn K _ x (k := i) (by omega), ?_⟩
      rintro _ _ ⟨rfl, rfl⟩
      refine ⟨fun h => ?_, fun h => ⟨_, (hR.2.2.2 i (by omega)).1, ?_⟩⟩
      · refine ih (i + 1) _ _ _ (by omega) (by rw [hw, nI_1]) ?_
        rw [sumI, wOf, if_neg (by rw [b2i_0.mp h]; simp), ha, Int32.add_zero]
      · refine ih (i + 1) _ _ _ (by omega) (by rw [hw, nI_1]) ?_
        rw [sumI, wOf, if_pos ⟨hk, b2i_n0.mp h⟩, ha]
    · refine ⟨_, hR.1, _, hw ▸ c_find_ge hR h0 hn (Nat.le_of_not_lt hk) (by omega), ?_⟩
      rintro _ _ ⟨rfl, rfl⟩
      refine ih (i + 1) _ _ _ (by omega) (by rw [hw, nI_1]) ?_
      rw [sumI, wOf, if_neg (fun q => hk q.1), ha, Int32.add_zero]
set_option maxRecDepth 100000 in
set_option maxHeartbeats 4000000 in
theorem c_sumOfWeights {K : hK} {H : hAH} {s n : Nat} {S : Nat → Nat → Int32} (hR : RSt K H s S) (h0 : S 0 0 = nI n) (hn : n ≤ 12) (x : Nat) : hCT K M_St_sumOfWeights [.ref s, .int (nI x)] H 0 0 (fun r H' => r = some (.int (sumI (wOf S n x) 12)) ∧ H' = H) := by
  refine hCT.go (okc_St_sumOfWeights K _ _) [4] 60 (by decide +kernel) rfl rfl ?_
  exact l_sumOfWeights hR h0 hn 12 0 _ _ _ (by omega) rfl rfl
/-- x is better than z: more guests, or as many and more weight -/
def betB (S : Nat → Nat → Int32) (n x z : Nat) : Bool := decide (pop z < pop x) || (decide (pop z = pop x) && decide (sumI (wOf S n z) 12 < sumI (wOf S n x) 12))
set_option maxRecDepth 100000 in
set_option maxHeartbeats 4000000 in
theorem c_isBetter {K : hK} {H : hAH} {s n x z : Nat} {S : Nat → Nat → Int32} (hR : RSt K H s S) (h0 : S 0 0 = nI n) (hn : n ≤ 12) (hx : x < 4096) (hz : z < 4096) : hCT K M_St_isBetter [.ref s, .int (nI x), .int (nI z)] H 0 0 (fun r H' => r = some (.int (b2i (betB S n x z))) ∧ H' = H) := by
  refine hCT.go (okc_St_isBetter K _ _) [] 60 (by decide +kernel) rfl rfl ?_
  refine ⟨_, c_pop K H hx, ?_⟩
  rintro _ _ ⟨rfl, rfl⟩
  refine ⟨_, c_pop K _ hz, ?_⟩
  rintro _ _ ⟨rfl, rfl⟩
  have hd : ∀ a, a < 13 → ∀ b, b < 13 → (0 < nI a - nI b ↔ b < a) ∧ (nI a - nI b = 0 ↔ b = a) := by decide +kernel
  obtain ⟨d1, d2⟩ := hd (pop x) (by have := pop_le x; omega) (pop z) (by have := pop_le z; omega)
  refine ⟨fun h => ?_, fun h => ⟨fun h2 => ?_, fun h2 => ?_⟩⟩
  · refine ⟨Or.inr rfl, ?_, rfl⟩
    rw [betB, decide_eq_true (d1.mp h)]; rfl
  · refine ⟨Or.inl rfl, ?_, rfl⟩
    rw [betB, decide_eq_false (fun q => h (d1.mpr q)), decide_eq_false (fun q => h2 (d2.mpr q))]; rfl
  · refine ⟨_, hR.1, _, c_sumOfWeights hR h0 hn x, ?_⟩
    rintro _ _ ⟨rfl, rfl⟩
    refine ⟨_, hR.1, _, c_sumOfWeights hR h0 hn z, ?_⟩
    rintro _ _ ⟨rfl, rfl⟩
    refine ⟨fun h3 => ?_, fun h3 => ?_⟩
    · refine ⟨Or.inl rfl, ?_, rfl⟩
      rw [betB, decide_eq_false (fun q => h (d1.mpr q)), decide_eq_false (Int32.not_lt.mpr h3)]; simp [b2i]
    · refine ⟨Or.inr rfl, ?_, rfl⟩
      rw [betB, decide_eq_true (d2.mp h2), decide_eq_true (Int32.not_le.mp h3)]; simp [b2i]
/-- the best of the sets 1 .. j that satisfy p -/
def bpRun (p : Nat → Nat → Bool) : Nat → Nat
  | 0 => 0
  | j + 1 => if p (j + 1) (bpRun p j) then j + 1 else bpRun p j
theorem bpRun_le (p : Nat → Nat → Bool) : ∀ j, bpRun p j ≤ j
  | 0 => Nat.le_refl _
  | j + 1 => by
    have := bpRun_le p j
    unfold bpRun
    split <;> omega
def bpP (S : Nat → Nat → Int32) (n y x z : Nat) : Bool := subB x y && decide (nI (pop x) ≤ S 1 2) && betB S n x z && stb S n x
set_option maxRecDepth 100000 in
set_option maxHeartbeats 4000000 in
theorem l_bestPart {K : hK} {H : hAH} {s n y : Nat} {S : Nat → Nat → Int32} (hR : RSt K H s S) (hS : SOk S n) (hy : y < 4096) : ∀ (m i : Nat) (w a : Int32), i + m = y → w = nI (i + 1) → a = nI (bpRun (bpP S n y) i) → hJ K M_St_bestPart (0, 0) (fun r H' => r = some (.int (nI (bpRun (bpP S n y) y))) ∧ H' = H) 4 (0, 0) [some (.ref s), some (.int (nI y)), some (.int a), some (.int w)] [] H := by
  intro m
  induction m with
  | zero =>
    intro i w a hi hw ha
    refine hGo_sound (okc_St_bestPart K _ _) [4] 60 _ _ _ _ _ ?_
    refine ⟨fun _ => ⟨trivial, by rw [ha, show i = y by omega], rfl⟩, fun h => ?_⟩
    exact absurd (by rw [hw]; exact nI_lt (by omega) (by omega)) h
  | succ m ih =>
    intro i w a hi hw ha
    have hle := bpRun_le (bpP S n y) i
    refine hGo_sound (okc_St_bestPart K _ _) [4] 60 _ _ _ _ _ ?_
    refine ⟨fun h => ?_, fun _ => ?_⟩
    · exact absurd (by rw [hw] at h; exact h) (nI_nlt (by omega) (by omega))
    · refine ⟨_, hw ▸ c_isPart K H (x := i + 1) (y := y) (by omega) hy, ?_⟩
      rintro _ _ ⟨rfl, rfl⟩
      refine ⟨fun h => ?_, fun h => ?_⟩
      · refine ih (i + 1) _ _ (by omega) (by rw [hw, nI_1]) ?_
        rw [bpRun, bpP, b2i_0.mp h, ha]; simp
      · refine ⟨_, hw ▸ c_pop K _ (x := i + 1) (by omega), ?_⟩
        rintro _ _ ⟨rfl, rfl⟩
        refine ⟨_, hR.1, 5, _, 2, Or.inl hR.2.2.1, rfl, by decide, by decide, fun h2 => ?_, fun h2 => ?_⟩
        · refine ih (i + 1) _ _ (by omega) (by rw [hw, nI_1]) ?_
          rw [bpRun, bpP, decide_eq_false (Int32.not_le.mpr h2), ha]; simp
        · refine ⟨_, hR.1, _, hw ▸ ha ▸ c_isBetter hR hS.1 hS.2.1 (x := i + 1) (z := bpRun (bpP S n y) i) (by omega) (by omega), ?_⟩
          rintro _ _ ⟨rfl, rfl⟩
          refine ⟨fun h3 => ?_, fun h3 => ?_⟩
          · refine ih (i + 1) _ _ (by omega) (by rw [hw, nI_1]) ?_
            rw [bpRun, bpP, b2i_0.mp h3, ha]; simp
          · refine ⟨_, hR.1, _, hw ▸ c_isStable hR hS (x := i + 1) (by omega), ?_⟩
            rintro _ _ ⟨rfl, rfl⟩
            refine ⟨fun h4 => ?_, fun h4 => ?_⟩
            · refine ih (i + 1) _ _ (by omega) (by rw [hw, nI_1]) ?_
              rw [bpRun, bpP, b2i_0.mp h4, ha]; simp
            · refine ih (i + 1) _ _ (by omega) (by rw [hw, nI_1]) ?_
              rw [bpRun, bpP, b2i_n0.mp h, b2i_n0.mp h3, b2i_n0.mp h4, decide_eq_true (Int32.not_lt.mp h2), hw]; rfl
set_option maxRecDepth 100000 in
set_option maxHeartbeats 4000000 in
theorem c_bestPart {K : hK} {H : hAH} {s n y : Nat} {S : Nat → Nat → Int32} (hR : RSt K H s S) (hS : SOk S n) (hy : y < 4096) : hCT K M_St_bestPart [.ref s, .int (nI y)] H 0 0 (fun r H' => r = some (.int (nI (bpRun (bpP S n y) y))) ∧ H' = H) := by
  refine hCT.go (okc_St_bestPart K _ _) [4] 60 (by decide +kernel) rfl rfl ?_
  exact l_bestPart hR hS hy y 0 _ _ (by omega) rfl rfl
