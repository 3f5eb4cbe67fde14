/-! rounds in which guests stay away, in numbers: who, what contents whom, limits, fee of a set, the invited, letters -/
abbrev gE : Type := Nat × (Nat → Nat → Bool) × (Nat → Int32) × (Nat → Int32) × Nat × (Nat → Nat)
def eP (E : gE) (X k : Nat) : Bool := decide (k < E.1) && (X.testBit k && (!E.2.1 k X || decide (E.2.2.1 k < E.2.2.2.1 X)))
/-- those of a set who stay away -/
def eaw (E : gE) (X : Nat) : Nat := setOf (eP E X) 12
def dif (X Y : Nat) : Nat := setOf (fun k => X.testBit k && !Y.testBit k) 12
/-- the set of round i + 1 -/
def ess (E : gE) : Nat → Nat
  | 0 => E.2.2.2.2.1
  | i + 1 => dif (ess E i) (eaw E (ess E i))
/-- who stayed away in round i; in round 0 those who aren't invited -/
def epa (E : gE) : Nat → Nat
  | 0 => setOf (fun k => decide (k < E.1) && !E.2.2.2.2.1.testBit k) 12
  | i + 1 => eaw E (ess E i)
def lfind (p : Nat → Bool) : Nat → Nat → Nat
  | 0, i => i
  | m + 1, i => if p i then i else lfind p m (i + 1)
theorem lfind_spec (p : Nat → Bool) : ∀ (m i : Nat), i ≤ lfind p m i ∧ lfind p m i ≤ i + m ∧ (∀ j, i ≤ j → j < lfind p m i → p j = false) ∧ (lfind p m i < i + m → p (lfind p m i) = true)
  | 0, i => ⟨Nat.le_refl _, Nat.le_refl _, fun j h1 h2 => by simp only [lfind] at h2; omega, fun h => by simp only [lfind] at h; omega⟩
  | m + 1, i => by
    unfold lfind
    cases h : p i
    · simp only [Bool.false_eq_true, if_false]
      obtain ⟨a, b, c, d⟩ := lfind_spec p m (i + 1)
      refine ⟨by omega, by omega, fun j h1 h2 => ?_, fun q => d (by omega)⟩
      by_cases e : j = i
      · subst e; exact h
      · exact c j (by omega) h2
    · simp only [if_true]
      exact ⟨Nat.le_refl _, by omega, fun j h1 h2 => by omega, fun _ => h⟩
theorem dif_bit (X Y k : Nat) : (dif X Y).testBit k = (decide (k < 12) && (X.testBit k && !Y.testBit k)) := setOf_bit _ _ _
theorem dif_lt (X Y : Nat) : dif X Y < 4096 := setOf_lt _ 12
theorem eaw_bit (E : gE) (X k : Nat) : (eaw E X).testBit k = (decide (k < 12) && eP E X k) := setOf_bit _ _ _
theorem eaw_lt (E : gE) (X : Nat) : eaw E X < 4096 := setOf_lt _ 12
theorem eaw_in {E : gE} {X k : Nat} (h : (eaw E X).testBit k = true) : k < 12 ∧ k < E.1 ∧ X.testBit k = true ∧ (E.2.1 k X = false ∨ E.2.2.1 k < E.2.2.2.1 X) := by
  rw [eaw_bit, eP] at h
  simp only [Bool.and_eq_true, decide_eq_true_eq, Bool.or_eq_true, Bool.not_eq_true'] at h
  exact ⟨h.1, h.2.1, h.2.2.1, h.2.2.2⟩
theorem ess_lt {E : gE} (h : E.2.2.2.2.1 < 4096) : ∀ i, ess E i < 4096
  | 0 => h
  | _ + 1 => dif_lt _ _
theorem ess_sub {E : gE} {i k : Nat} (h : (ess E (i + 1)).testBit k = true) : (ess E i).testBit k = true := by
  rw [ess, dif_bit] at h
  simp only [Bool.and_eq_true] at h
  exact h.2.1
theorem ess_mono {E : gE} {i j k : Nat} (hij : i ≤ j) (h : (ess E j).testBit k = true) : (ess E i).testBit k = true := by
  induction j with
  | zero => rw [show i = 0 by omega]; exact h
  | succ j ih =>
    by_cases e : i = j + 1
    · rw [e]; exact h
    · exact ih (by omega) (ess_sub h)
theorem ess_out {E : gE} {i k : Nat} (h : (eaw E (ess E i)).testBit k = true) : (ess E (i + 1)).testBit k = false := by
  rw [ess, dif_bit, h]; simp
theorem epa_in {E : gE} {i k : Nat} (h : (epa E (i + 1)).testBit k = true) : (ess E i).testBit k = true := (eaw_in h).2.2.1
theorem epa_bit0 (E : gE) (k : Nat) : (epa E 0).testBit k = (decide (k < 12) && (decide (k < E.1) && !E.2.2.2.2.1.testBit k)) := setOf_bit _ _ _
theorem epa_lt (E : gE) : ∀ i, epa E i < 4096
  | 0 => setOf_lt _ 12
  | _ + 1 => eaw_lt _ _
theorem epa_one {E : gE} {i j k : Nat} (hi : (epa E i).testBit k = true) (hj : (epa E j).testBit k = true) : i = j := by
  have key : ∀ a b, a < b → (epa E a).testBit k = true → (epa E b).testBit k = true → False := by
    intro a b hab ha hb
    match b, hab, hb with
    | b + 1, hab, hb =>
      have h1 := epa_in hb
      match a, ha with
      | 0, ha =>
        rw [epa_bit0] at ha
        simp only [Bool.and_eq_true, Bool.not_eq_true'] at ha
        have h2 := ess_mono (Nat.zero_le b) h1
        have h3 : E.2.2.2.2.1.testBit k = true := h2
        rw [ha.2.2] at h3; cases h3
      | a + 1, ha =>
        have h2 := ess_out ha
        have h3 := ess_mono (show a + 1 ≤ b by omega) h1
        rw [h2] at h3; cases h3
  rcases Nat.lt_trichotomy i j with h | h | h
  · exact (key i j h hi hj).elim
  · exact h
  · exact (key j i h hj hi).elim
/-- the round in which a guest stays away; 14: in none -/
def ett (E : gE) (k : Nat) : Nat := lfind (fun i => (epa E i).testBit k) 14 0
theorem ett_of {E : gE} {i k : Nat} (hi : i < 14) (h : (epa E i).testBit k = true) : ett E k = i := by
  obtain ⟨-, -, c, d⟩ := lfind_spec (fun i => (epa E i).testBit k) 14 0
  have hl : ett E k ≤ i := Nat.le_of_not_lt fun q => by
    have := c i (Nat.zero_le _) q
    rw [h] at this; cases this
  exact epa_one (d (by show ett E k < 0 + 14; omega)) h
theorem ett_in {E : gE} {k : Nat} (h : ett E k < 14) : (epa E (ett E k)).testBit k = true := (lfind_spec (fun i => (epa E i).testBit k) 14 0).2.2.2 (by show ett E k < 0 + 14; omega)
/-- the reason -/
def err (E : gE) (k : Nat) : Int32 := if 14 ≤ ett E k then 0 else if ett E k = 0 then 1 else if E.2.1 k (ess E (ett E k - 1)) then 3 else 2
/-- to whom it leads back -/
def ebb (E : gE) (k : Nat) : Int32 := if err E k = 2 then lowest (fun j => (epa E (ett E k - 1)).testBit j && (E.2.2.2.2.2 k).testBit j) 12 0 else if err E k = 3 then lowest (epa E (ett E k - 1)).testBit 12 0 else -5
/-- the way back: how many, and the last -/
def ewl (E : gE) : Nat → Nat → Nat × Nat
  | 0, k => (1, k)
  | f + 1, k => if ebb E k < 0 then (1, k) else ((ewl E f (ebb E k).toNatClampNeg).1 + 1, (ewl E f (ebb E k).toNatClampNeg).2)
/-- how many rounds until nobody stays away -/
def eL (E : gE) : Nat := lfind (fun i => decide (eaw E (ess E i) = 0)) 13 0
theorem cnt_lt {p q : Nat → Bool} : ∀ {n : Nat}, (∀ k, k < n → p k = true → q k = true) → (∃ k, k < n ∧ p k = false ∧ q k = true) → cnt p n < cnt q n
  | 0, _, h => by obtain ⟨k, hk, -⟩ := h; omega
  | n + 1, h, h2 => by
    obtain ⟨k, hk, h3, h4⟩ := h2
    have h1 := h n (Nat.lt_succ_self n)
    unfold cnt
    by_cases e : k = n
    · subst e
      have := cnt_sub (n := k) (fun j hj => h j (Nat.lt_succ_of_lt hj))
      rw [h3, h4]; simp; omega
    · have := cnt_lt (n := n) (fun j hj => h j (Nat.lt_succ_of_lt hj)) ⟨k, by omega, h3, h4⟩
      cases hp : p n
      · cases q n <;> simp <;> omega
      · rw [h1 hp]; simp; exact this
theorem ne0_bit {x : Nat} (h : x ≠ 0) (hx : x < 4096) : ∃ k, k < 12 ∧ x.testBit k = true := by
  refine Classical.byContradiction fun hn => h ?_
  apply Nat.eq_of_testBit_eq
  intro k
  rw [Nat.zero_testBit]
  by_cases hk : k < 12
  · cases hb : x.testBit k
    · rfl
    · exact absurd ⟨k, hk, hb⟩ hn
  · exact Nat.testBit_lt_two_pow (Nat.lt_of_lt_of_le hx (Nat.le_trans (by decide : 4096 ≤ 2 ^ 12) (Nat.pow_le_pow_right (by decide) (by omega))))
theorem pop_dif {E : gE} {X : Nat} (h : eaw E X ≠ 0) : pop (dif X (eaw E X)) < pop X := by
  obtain ⟨k, hk, hb⟩ := ne0_bit h (eaw_lt E X)
  refine cnt_lt (fun j hj hp => ?_) ⟨k, hk, ?_, (eaw_in hb).2.2.1⟩
  · rw [dif_bit] at hp
    simp only [Bool.and_eq_true] at hp
    exact hp.2.1
  · rw [dif_bit, hb]; simp
theorem eL_spec (E : gE) : eL E ≤ 12 ∧ eaw E (ess E (eL E)) = 0 ∧ ∀ i, i < eL E → eaw E (ess E i) ≠ 0 := by
  obtain ⟨-, b, c, d⟩ := lfind_spec (fun i => decide (eaw E (ess E i) = 0)) 13 0
  have hno : ∀ i, i < eL E → eaw E (ess E i) ≠ 0 := fun i hi => of_decide_eq_false (c i (Nat.zero_le _) hi)
  have hdec : ∀ i, i ≤ eL E → pop (ess E i) + i ≤ 12 := by
    intro i
    induction i with
    | zero => intro _; have := pop_le (ess E 0); omega
    | succ i ih =>
      intro hi
      have h1 := ih (by omega)
      have h2 := pop_dif (hno i (by omega))
      have h3 : ess E (i + 1) = dif (ess E i) (eaw E (ess E i)) := rfl
      rw [h3]
      omega
  have hle : eL E ≤ 12 := by have := hdec (eL E) (Nat.le_refl _); omega
  exact ⟨hle, of_decide_eq_true (d (by show eL E < 0 + 13; omega)), hno⟩
/-- the greatest stable company -/
def egr (E : gE) : Nat := ess E (eL E)
theorem ess_stop {E : gE} {i : Nat} (h : eaw E (ess E i) = 0) : ∀ k, k < 12 → (ess E (i + 1)).testBit k = (ess E i).testBit k := fun k hk => by
  rw [ess, dif_bit, h]; simp [hk]
theorem ess_eq {E : gE} (hI : E.2.2.2.2.1 < 4096) {i : Nat} (h : eaw E (ess E i) = 0) : ess E (i + 1) = ess E i := by
  apply Nat.eq_of_testBit_eq
  intro k
  by_cases hk : k < 12
  · exact ess_stop h k hk
  · have z : ∀ x, x < 4096 → x.testBit k = false := fun x hx => Nat.testBit_lt_two_pow (Nat.lt_of_lt_of_le hx (Nat.le_trans (by decide : 4096 ≤ 2 ^ 12) (Nat.pow_le_pow_right (by decide) (by omega))))
    rw [z _ (ess_lt hI _), z _ (ess_lt hI _)]
/-- nobody stays away behind the last round -/
theorem epa_late {E : gE} (hI : E.2.2.2.2.1 < 4096) {i : Nat} (hi : eL E ≤ i) : ess E i = egr E ∧ epa E (i + 1) = 0 := by
  induction i with
  | zero =>
    have e : eL E = 0 := by omega
    refine ⟨by rw [egr, e], ?_⟩
    have := (eL_spec E).2.1
    rw [e] at this
    exact this
  | succ i ih =>
    by_cases e : eL E = i + 1
    · refine ⟨by rw [egr, e], ?_⟩
      have := (eL_spec E).2.1
      rw [e] at this
      exact this
    · obtain ⟨h1, h2⟩ := ih (by omega)
      have h3 : ess E (i + 1) = ess E i := ess_eq hI h2
      refine ⟨h3.trans h1, ?_⟩
      show eaw E (ess E (i + 1)) = 0
      rw [h3]; exact h2
/-- who is in a round's set, who has left before -/
theorem ess_or {E : gE} (hI : E.2.2.2.2.1 < 4096) {k : Nat} (hk : k < 12) (hn : k < E.1) : ∀ i, (ess E i).testBit k = false → ∃ j, j ≤ i ∧ (epa E j).testBit k = true
  | 0, h => ⟨0, Nat.le_refl _, by
    rw [epa_bit0]
    have : E.2.2.2.2.1.testBit k = false := h
    simp [hk, hn, this]⟩
  | i + 1, h => by
    cases hb : (ess E i).testBit k
    · obtain ⟨j, h1, h2⟩ := ess_or hI hk hn i hb
      exact ⟨j, by omega, h2⟩
    · refine ⟨i + 1, Nat.le_refl _, ?_⟩
      rw [ess, dif_bit, hb] at h
      have h2 : (eaw E (ess E i)).testBit k = true := by simpa [hk] using h
      exact h2
theorem ess_tt {E : gE} {i k : Nat} (h : (ess E i).testBit k = true) (hi : i < 14) : i < ett E k := by
  refine Nat.lt_of_not_le fun q => ?_
  have h1 := ett_in (E := E) (k := k) (by omega)
  by_cases z : ett E k = 0
  · rw [z, epa_bit0] at h1
    simp only [Bool.and_eq_true, Bool.not_eq_true'] at h1
    have h2 : E.2.2.2.2.1.testBit k = true := ess_mono (Nat.zero_le i) h
    rw [h1.2.2] at h2; cases h2
  · obtain ⟨t, ht⟩ : ∃ t, ett E k = t + 1 := ⟨ett E k - 1, by omega⟩
    rw [ht] at h1
    have h2 := ess_out h1
    have h3 := ess_mono (show t + 1 ≤ i by omega) h
    rw [h2] at h3; cases h3
theorem err_of {E : gE} {i k : Nat} (hi : i < 13) (h : (eaw E (ess E i)).testBit k = true) : ett E k = i + 1 ∧ err E k = if E.2.1 k (ess E i) then 3 else 2 := by
  have ht : ett E k = i + 1 := ett_of (i := i + 1) (by omega) h
  refine ⟨ht, ?_⟩
  rw [err, if_neg (by omega), if_neg (by omega), ht]
  rfl
theorem lowest_spec (p : Nat → Bool) : ∀ (m i : Nat), i + m ≤ 12 → (lowest p m i = -5 ∧ ∀ j, i ≤ j → j < i + m → p j = false) ∨ ∃ j, lowest p m i = nI j ∧ i ≤ j ∧ j < i + m ∧ p j = true ∧ ∀ q, i ≤ q → q < j → p q = false
  | 0, i, _ => Or.inl ⟨rfl, fun j h1 h2 => by omega⟩
  | m + 1, i, h => by
    unfold lowest
    cases hp : p i
    · simp only [Bool.false_eq_true, if_false]
      rcases lowest_spec p m (i + 1) (by omega) with ⟨a, b⟩ | ⟨j, a, b, c, d, e⟩
      · refine Or.inl ⟨a, fun j h1 h2 => ?_⟩
        by_cases e : j = i
        · subst e; exact hp
        · exact b j (by omega) (by omega)
      · refine Or.inr ⟨j, a, by omega, by omega, d, fun q h1 h2 => ?_⟩
        by_cases e2 : q = i
        · subst e2; exact hp
        · exact e q (by omega) h2
    · simp only [if_true]
      exact Or.inr ⟨i, rfl, Nat.le_refl _, by omega, hp, fun q h1 h2 => by omega⟩
theorem lowest_cong {p q : Nat → Bool} : ∀ (m i : Nat), (∀ j, i ≤ j → j < i + m → p j = q j) → lowest p m i = lowest q m i
  | 0, _, _ => rfl
  | m + 1, i, h => by
    unfold lowest
    rw [h i (Nat.le_refl _) (by omega), lowest_cong m (i + 1) (fun j h1 h2 => h j (by omega) (by omega))]
