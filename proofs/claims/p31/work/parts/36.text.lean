/-! THE TEXT: bits of numbers; the steps of a condition, bit by bit -/
def ib (w : Int32) (i : Nat) : Bool := w.toBitVec.getLsbD i
theorem ib_or (a b : Int32) (i : Nat) : ib (a ||| b) i = (ib a i || ib b i) := by
  unfold ib; rw [Int32.toBitVec_or, BitVec.getLsbD_or]
theorem ib_and (a b : Int32) (i : Nat) : ib (a &&& b) i = (ib a i && ib b i) := by
  unfold ib; rw [Int32.toBitVec_and, BitVec.getLsbD_and]
theorem ib_ext {a b : Int32} (h : ∀ i, i < 32 → ib a i = ib b i) : a = b := by
  apply Int32.toBitVec_inj.mp
  apply BitVec.eq_of_getLsbD_eq
  exact h
theorem ib_nI {n i : Nat} (hi : i < 32) : ib (nI n) i = n.testBit i := by
  show (BitVec.ofNat 32 n).getLsbD i = _
  rw [BitVec.getLsbD_ofNat, decide_eq_true hi, Bool.true_and]
theorem ib_1 : ∀ i, i < 32 → ib 1 i = decide (i = 0) := by decide
theorem ib_m1 : ∀ i, i < 32 → ib (-1) i = true := by decide
theorem ib_m2 : ∀ i, i < 32 → ib (-2) i = decide (0 < i) := by decide
theorem ib_0 : ∀ i, ib 0 i = false := by
  intro i
  show (0#32).getLsbD i = false
  simp
theorem sh_amt : ∀ s : Nat, s < 32 → ((nI s &&& 31).toBitVec.smod 32#32).toNat = s := by decide +kernel
theorem ib_shl {w : Int32} {i : Nat} (hi : i < 32) : ib (w <<< ((1 : Int32) &&& 31)) i = (decide (0 < i) && ib w (i - 1)) := by
  unfold ib
  rw [Int32.toBitVec_shiftLeft]
  have : (((1 : Int32) &&& 31).toBitVec.smod 32).toNat = 1 := by decide
  rw [BitVec.shiftLeft_eq', this, BitVec.getLsbD_shiftLeft, decide_eq_true hi, Bool.true_and]
  congr 1
  by_cases h : i < 1
  · rw [decide_eq_true h, decide_eq_false (by omega)]; rfl
  · rw [decide_eq_false h, decide_eq_true (by omega)]; rfl
theorem ib_shr {w : Int32} {i s : Nat} (hs : s < 32) (hi : i < 32) : ib (w >>> (nI s &&& 31)) i = ib w (if i + s < 32 then i + s else 31) := by
  have h : ((nI s &&& 31).toBitVec.smod 32).toNat = s := sh_amt s hs
  unfold ib
  rw [Int32.toBitVec_shiftRight, BitVec.sshiftRight_eq', h, BitVec.getLsbD_sshiftRight]
  have h1 : ¬ 32 ≤ i := by omega
  rw [decide_eq_false h1, Bool.not_false, Bool.true_and]
  by_cases h2 : i + s < 32
  · rw [if_pos (by omega), if_pos h2, Nat.add_comm]
  · rw [if_neg (by omega), if_neg h2]
    rfl
theorem ib_and1 {w : Int32} : w &&& 1 = if ib w 0 = true then 1 else 0 := by
  apply ib_ext
  intro i hi
  rw [ib_and, ib_1 i hi]
  by_cases h : i = 0
  · subst h
    cases hw : ib w 0
    · simp [ib_0]
    · simp [ib_1]
  · rw [decide_eq_false h, Bool.and_false]
    split
    · rw [ib_1 i hi, decide_eq_false h]
    · rw [ib_0]
theorem ib_bit0 {w : Int32} : decide (w &&& 1 = 1) = ib w 0 := by
  rw [ib_and1]
  cases ib w 0 <;> decide
theorem ib_bit00 {w : Int32} : (w &&& 1 = 0) ↔ ib w 0 = false := by
  rw [ib_and1]
  cases ib w 0 <;> decide
theorem shr_bit {n s : Nat} (hs : s < 32) : decide ((nI n >>> (nI s &&& 31)) &&& 1 = 1) = n.testBit s := by
  rw [ib_bit0, ib_shr hs (by decide), if_pos (by omega), Nat.zero_add, ib_nI hs]

theorem gcMet_ib {T : Nat → Int32} {c x : Nat} : gcMet T c x = (ib (gcRun T x c).1 0 || ib (gcRun T x c).2 0) := by
  unfold gcMet
  rw [← ib_or]
  cases h : ib ((gcRun T x c).1 ||| (gcRun T x c).2) 0
  · rw [decide_eq_true (ib_bit00.mpr h)]; rfl
  · rw [decide_eq_false (fun q => by rw [ib_bit00.mp q] at h; cases h)]; rfl
theorem gs_open (x : Nat) (q : Int32 × Int32) {i : Nat} (hi : i < 32) : ib (gcStep (-1) x q).1 i = (decide (0 < i) && ib q.1 (i - 1)) ∧ ib (gcStep (-1) x q).2 i = (decide (i = 0) || ib q.2 (i - 1)) := by
  have e : gcStep (-1) x q = (q.1 <<< ((1 : Int32) &&& 31), (q.2 <<< ((1 : Int32) &&& 31)) ||| 1) := if_pos rfl
  rw [e]
  refine ⟨ib_shl hi, ?_⟩
  show ib ((q.2 <<< ((1 : Int32) &&& 31)) ||| 1) i = _
  rw [ib_or, ib_shl hi, ib_1 i hi]
  by_cases h : i = 0
  · rw [decide_eq_true h, Bool.or_true, Bool.true_or]
  · rw [decide_eq_false h, decide_eq_true (show 0 < i by omega), Bool.true_and, Bool.or_false, Bool.false_or]
theorem gs_or (x : Nat) (q : Int32 × Int32) {i : Nat} (hi : i < 32) : ib (gcStep (-3) x q).1 i = (ib q.1 i || (decide (i = 0) && ib q.2 i)) ∧ ib (gcStep (-3) x q).2 i = (decide (i = 0) || ib q.2 i) := by
  have e : gcStep (-3) x q = (q.1 ||| (q.2 &&& 1), q.2 ||| 1) := by
    unfold gcStep
    rw [if_neg (by decide), if_pos rfl]
  rw [e]
  refine ⟨?_, ?_⟩
  · show ib (q.1 ||| (q.2 &&& 1)) i = _
    rw [ib_or, ib_and, ib_1 i hi, Bool.and_comm (ib q.2 i)]
  · show ib (q.2 ||| 1) i = _
    rw [ib_or, ib_1 i hi, Bool.or_comm]
theorem sh1 : ((1 : Int32) &&& 31) = nI 1 &&& 31 := rfl
theorem gs_close (x : Nat) (q : Int32 × Int32) {i : Nat} (hi : i < 32) : ib (gcStep (-2) x q).1 i = ib q.1 (if i + 1 < 32 then i + 1 else 31) ∧ ib (gcStep (-2) x q).2 i = (ib q.2 (if i + 1 < 32 then i + 1 else 31) && (decide (0 < i) || (ib q.1 0 || ib q.2 0))) := by
  have e : gcStep (-2) x q = (q.1 >>> ((1 : Int32) &&& 31), (q.2 >>> ((1 : Int32) &&& 31)) &&& (((q.1 ||| q.2) &&& 1) ||| (-2))) := by
    unfold gcStep
    rw [if_neg (by decide), if_neg (by decide), if_pos rfl]
  rw [e]
  refine ⟨ib_shr (s := 1) (by decide) hi, ?_⟩
  show ib ((q.2 >>> ((1 : Int32) &&& 31)) &&& (((q.1 ||| q.2) &&& 1) ||| (-2))) i = _
  rw [ib_and, sh1, ib_shr (s := 1) (by decide) hi, ib_or, ib_and, ib_1 i hi, ib_m2 i hi, ib_or]
  by_cases h : i = 0
  · subst h
    simp
  · rw [decide_eq_false h, Bool.and_false, Bool.false_or, decide_eq_true (show 0 < i by omega), Bool.true_or]
theorem gs_atom {a : Int32} (x : Nat) (q : Int32 × Int32) (h1 : a ≠ -1) (h2 : a ≠ -2) (h3 : a ≠ -3) {i : Nat} (hi : i < 32) : ib (gcStep a x q).1 i = ib q.1 i ∧ ib (gcStep a x q).2 i = (ib q.2 i && (decide (0 < i) || atomMet a x)) := by
  unfold gcStep
  rw [if_neg h1, if_neg h3, if_neg h2]
  cases ha : atomMet a x
  · refine ⟨rfl, ?_⟩
    show ib (q.2 &&& (-2)) i = _
    rw [ib_and, ib_m2 i hi, Bool.or_false]
  · refine ⟨rfl, ?_⟩
    show ib q.2 i = _
    rw [Bool.or_true, Bool.and_true]
/-! greater sets meet what smaller ones do -/
def gcLe (q r : Int32 × Int32) : Prop := ∀ i, i < 32 → (ib q.1 i = true → ib r.1 i = true) ∧ (ib q.2 i = true → ib r.2 i = true)
theorem atomMet_mono {a : Int32} {x y : Nat} (h : subB x y = true) (hm : atomMet a x = true) : atomMet a y = true := by
  unfold atomMet at hm ⊢
  have h1 := of_decide_eq_true hm
  have h2 : pop (x &&& low a) ≤ pop (y &&& low a) := pop_mono (subB_iff.mpr fun k hk => by
    rw [Nat.testBit_and] at hk ⊢
    simp only [Bool.and_eq_true] at hk ⊢
    exact ⟨subB_iff.mp h k hk.1, hk.2⟩)
  have h3 := pop_le (y &&& low a)
  exact decide_eq_true (Int32.le_trans h1 (nI_le h2 (by omega)))
theorem gcStep_mono {a : Int32} {x y : Nat} {q r : Int32 × Int32} (h : subB x y = true) (hq : gcLe q r) : gcLe (gcStep a x q) (gcStep a y r) := by
  intro i hi
  by_cases h1 : a = -1
  · subst h1
    obtain ⟨a1, a2⟩ := gs_open x q hi
    obtain ⟨b1, b2⟩ := gs_open y r hi
    rw [a1, a2, b1, b2]
    obtain ⟨c1, c2⟩ := hq (i - 1) (by omega)
    simp only [Bool.and_eq_true, Bool.or_eq_true]
    exact ⟨fun z => ⟨z.1, c1 z.2⟩, fun z => z.imp id c2⟩
  · by_cases h3 : a = -3
    · subst h3
      obtain ⟨a1, a2⟩ := gs_or x q hi
      obtain ⟨b1, b2⟩ := gs_or y r hi
      rw [a1, a2, b1, b2]
      obtain ⟨c1, c2⟩ := hq i hi
      simp only [Bool.and_eq_true, Bool.or_eq_true]
      exact ⟨fun z => z.imp c1 (fun z => ⟨z.1, c2 z.2⟩), fun z => z.imp id c2⟩
    · by_cases h2 : a = -2
      · subst h2
        obtain ⟨a1, a2⟩ := gs_close x q hi
        obtain ⟨b1, b2⟩ := gs_close y r hi
        rw [a1, a2, b1, b2]
        obtain ⟨c1, c2⟩ := hq (if i + 1 < 32 then i + 1 else 31) (by split <;> omega)
        obtain ⟨d1, d2⟩ := hq 0 (by decide)
        simp only [Bool.and_eq_true, Bool.or_eq_true]
        exact ⟨c1, fun z => ⟨c2 z.1, z.2.imp id (fun z => z.imp d1 d2)⟩⟩
      · obtain ⟨a1, a2⟩ := gs_atom x q h1 h2 h3 hi
        obtain ⟨b1, b2⟩ := gs_atom y r h1 h2 h3 hi
        rw [a1, a2, b1, b2]
        obtain ⟨c1, c2⟩ := hq i hi
        simp only [Bool.and_eq_true, Bool.or_eq_true]
        exact ⟨c1, fun z => ⟨c2 z.1, z.2.imp id (atomMet_mono h)⟩⟩
theorem gcRun_mono {T : Nat → Int32} {x y : Nat} (h : subB x y = true) : ∀ c, gcLe (gcRun T x c) (gcRun T y c)
  | 0 => fun _ _ => ⟨id, id⟩
  | c + 1 => gcStep_mono h (gcRun_mono h c)
theorem gcMet_mono {T : Nat → Int32} {c x y : Nat} (h : subB x y = true) (hm : gcMet T c x = true) : gcMet T c y = true := by
  rw [gcMet_ib] at hm ⊢
  obtain ⟨a, b⟩ := gcRun_mono (T := T) h c 0 (by decide)
  simp only [Bool.or_eq_true] at hm ⊢
  exact hm.imp a b
