/-! sets of guests as numbers below 4096; bits; how many -/
def b2i (b : Bool) : Int32 := if b then 1 else 0
theorem b2i_0 {b : Bool} : b2i b = 0 ↔ b = false := by cases b <;> decide
theorem b2i_n0 {b : Bool} : ¬ b2i b = 0 ↔ b = true := by cases b <;> decide
theorem b2i_01 (b : Bool) : b2i b = 0 ∨ b2i b = 1 := by cases b <;> decide
theorem b2i_if (p : Prop) [Decidable p] : (if p then (1 : Int32) else 0) = b2i (decide p) := by by_cases h : p <;> simp [b2i, h]
theorem b2i_ifn (p : Prop) [Decidable p] : (if p then (0 : Int32) else 1) = b2i (!decide p) := by by_cases h : p <;> simp [b2i, h]
theorem ts_false {x : Bool} (h : ¬ x = true) : x = false := by cases x <;> first | rfl | exact absurd rfl h
theorem nI_and (a b : Nat) : nI a &&& nI b = nI (a &&& b) := by
  unfold nI
  apply Int32.toBitVec_inj.mp
  rw [Int32.toBitVec_and]
  show BitVec.ofNat 32 a &&& BitVec.ofNat 32 b = BitVec.ofNat 32 (a &&& b)
  apply BitVec.eq_of_getLsbD_eq
  intro i hi
  simp [BitVec.getLsbD_ofNat, hi, Nat.testBit_and]
theorem nI_or (a b : Nat) : nI a ||| nI b = nI (a ||| b) := by
  unfold nI
  apply Int32.toBitVec_inj.mp
  rw [Int32.toBitVec_or]
  show BitVec.ofNat 32 a ||| BitVec.ofNat 32 b = BitVec.ofNat 32 (a ||| b)
  apply BitVec.eq_of_getLsbD_eq
  intro i hi
  simp [BitVec.getLsbD_ofNat, hi, Nat.testBit_or]
theorem nI_inj {a b : Nat} (ha : a < 4294967296) (hb : b < 4294967296) (h : nI a = nI b) : a = b := by
  have h1 : (nI a).toBitVec.toNat = (nI b).toBitVec.toNat := by rw [h]
  have e : ∀ c : Nat, (nI c).toBitVec.toNat = c % 4294967296 := fun c => by
    show (BitVec.ofNat 32 c).toNat = _
    rw [BitVec.toNat_ofNat]
  rw [e, e, Nat.mod_eq_of_lt ha, Nat.mod_eq_of_lt hb] at h1
  exact h1
theorem shl_1 : ∀ k, k < 31 → (1 : Int32) <<< (nI k &&& 31) = nI (2 ^ k) := by decide +kernel
theorem and_pow (x k : Nat) : x &&& 2 ^ k = if x.testBit k then 2 ^ k else 0 := by
  apply Nat.eq_of_testBit_eq
  intro i
  rw [Nat.testBit_and, Nat.testBit_two_pow]
  by_cases h : k = i
  · subst h
    cases hb : x.testBit k <;> simp [Nat.testBit_two_pow]
  · cases hb : x.testBit k <;> simp [h, Nat.testBit_two_pow]
theorem isIn_iff {x k : Nat} (hk : k < 31) : nI x &&& ((1 : Int32) <<< (nI k &&& 31)) = 0 ↔ x.testBit k = false := by
  rw [shl_1 k hk, nI_and, and_pow]
  cases x.testBit k with
  | false => simp; rfl
  | true =>
    simp only [if_true, Bool.true_eq_false, iff_false]
    intro h
    have hp : 2 ^ k < 4294967296 := Nat.lt_trans (Nat.pow_lt_pow_right (by decide) hk) (by decide)
    have := nI_inj hp (by decide) (h.trans (show (0 : Int32) = nI 0 from rfl))
    have h2 := Nat.two_pow_pos k
    omega
/-- how many of the first n satisfy p -/
def cnt (p : Nat → Bool) : Nat → Nat
  | 0 => 0
  | n + 1 => cnt p n + (if p n then 1 else 0)
def pop (x : Nat) : Nat := cnt x.testBit 12
theorem cnt_le (p : Nat → Bool) : ∀ n, cnt p n ≤ n
  | 0 => Nat.le_refl _
  | n + 1 => by
    have := cnt_le p n
    unfold cnt
    split <;> omega
theorem pop_le (x : Nat) : pop x ≤ 12 := cnt_le _ 12
theorem cnt_cong {p q : Nat → Bool} : ∀ {n : Nat}, (∀ k, k < n → p k = q k) → cnt p n = cnt q n
  | 0, _ => rfl
  | n + 1, h => by
    unfold cnt
    rw [cnt_cong (fun k hk => h k (Nat.lt_succ_of_lt hk)), h n (Nat.lt_succ_self n)]
theorem cnt_sub {p q : Nat → Bool} : ∀ {n : Nat}, (∀ k, k < n → p k = true → q k = true) → cnt p n ≤ cnt q n
  | 0, _ => Nat.le_refl _
  | n + 1, h => by
    have h1 := cnt_sub (fun k hk => h k (Nat.lt_succ_of_lt hk))
    have h2 := h n (Nat.lt_succ_self n)
    unfold cnt
    cases hp : p n
    · cases q n <;> simp <;> omega
    · rw [h2 hp]; simp; exact h1
def bc (i : Int32) : Int32 :=
  let a := i - ((i.toUInt32 >>> ((1 : Int32).toUInt32 &&& Int32.toUInt32 31)).toInt32 &&& 1431655765)
  let b := (a &&& 858993459) + ((a.toUInt32 >>> ((2 : Int32).toUInt32 &&& Int32.toUInt32 31)).toInt32 &&& 858993459)
  let c := (b + (b.toUInt32 >>> ((4 : Int32).toUInt32 &&& Int32.toUInt32 31)).toInt32) &&& 252645135
  let d := c + (c.toUInt32 >>> ((8 : Int32).toUInt32 &&& Int32.toUInt32 31)).toInt32
  let e := d + (d.toUInt32 >>> ((16 : Int32).toUInt32 &&& Int32.toUInt32 31)).toInt32
  e &&& 63
set_option maxRecDepth 100000 in
theorem bc_pop2 : ∀ a, a < 64 → ∀ b, b < 64 → bc (nI (64 * a + b)) = nI (pop (64 * a + b)) := by decide +kernel
theorem bc_pop (x : Nat) (h : x < 4096) : bc (nI x) = nI (pop x) := by
  have := bc_pop2 (x / 64) (by omega) (x % 64) (Nat.mod_lt _ (by decide))
  rwa [Nat.div_add_mod] at this
set_option maxRecDepth 100000 in
theorem c_In_bitCount (K : hK) (H : hAH) (i : Int32) : hCT K M_In_bitCount [.int i] H 0 0 (fun r H' => r = some (.int (bc i)) ∧ H' = H) := by
  refine hCT.go (okc_In_bitCount K _ _) [] 60 (by decide +kernel) rfl rfl ?_
  exact ⟨trivial, rfl, rfl⟩
theorem c_pop (K : hK) (H : hAH) {x : Nat} (hx : x < 4096) : hCT K M_In_bitCount [.int (nI x)] H 0 0 (fun r H' => r = some (.int (nI (pop x))) ∧ H' = H) :=
  (c_In_bitCount K H (nI x)).mono fun r H' h => ⟨by rw [h.1, bc_pop x hx], h.2⟩
theorem c_isIn (K : hK) (H : hAH) (x : Nat) {k : Nat} (hk : k < 31) : hCT K M_Pa_isIn [.int (nI x), .int (nI k)] H 0 0 (fun r H' => r = some (.int (b2i (x.testBit k))) ∧ H' = H) :=
  (c_Pa_isIn K H (nI x) (nI k)).mono fun r H' h => ⟨by
    rw [h.1, b2i_ifn]
    congr 3
    cases hb : x.testBit k
    · simp [(isIn_iff hk).mpr hb]
    · have : ¬ (nI x &&& ((1 : Int32) <<< (nI k &&& 31)) = 0) := fun h => by rw [(isIn_iff hk).mp h] at hb; cases hb
      simp [this], h.2⟩
theorem c_bitOf (K : hK) (H : hAH) {k : Nat} (hk : k < 31) : hCT K M_Pa_bitOf [.int (nI k)] H 0 0 (fun r H' => r = some (.int (nI (2 ^ k))) ∧ H' = H) :=
  (c_Pa_bitOf K H (nI k)).mono fun r H' h => ⟨by rw [h.1, shl_1 k hk], h.2⟩
