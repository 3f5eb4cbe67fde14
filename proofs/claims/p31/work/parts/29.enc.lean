/-! a state of the class stands for a row of numbers -/
def EncG (S : Nat → Nat → Int32) (V : Nat → Int32) (k : Nat) : Prop := (S (2 + k) 0 = vG V k 0 ∧ S (2 + k) 1 = vG V k 1 ∧ S (2 + k) 2 = vG V k 2 ∧ S (2 + k) 3 = vG V k 3 ∧ S (2 + k) 4 = vG V k 5 ∧ S (2 + k) 5 = vG V k 6 ∧ S (2 + k) 6 = vG V k 7 ∧ S (2 + k) 7 = vG V k 4) ∧ (S (2 + k) 8 = nI (stC S k) ∧ stC S k ≤ 60) ∧ ∀ x, x < 4096 → sMet S k x = vMet V k x
def Enc (S : Nat → Nat → Int32) (V : Nat → Int32) : Prop := (S 0 0 = V 0 ∧ S 0 1 = V 1 ∧ S 0 2 = V 7 ∧ S 0 3 = V 8 ∧ S 0 4 = V 9 ∧ S 0 5 = V 12 ∧ S 0 6 = V 13 ∧ S 0 7 = V 14) ∧ (∀ j, j < 5 → S 1 j = V (2 + j)) ∧ ∀ k, k < vN V → EncG S V k
theorem Enc.sok {S : Nat → Nat → Int32} {V : Nat → Int32} (h : Enc S V) (w : WF V) : SOk S (vN V) :=
  ⟨h.1.1.trans w.1.1, w.1.2, by rw [h.1.2.2.1]; exact w.2.2.2.1.1, fun k hk => ⟨by rw [(h.2.2 k hk).1.2.2.1]; exact (w.2.2.2.2.1 k hk).2.2.1, (h.2.2 k hk).2.1.1, (h.2.2 k hk).2.1.2⟩⟩
theorem Enc.lt {S : Nat → Nat → Int32} {V : Nat → Int32} (h : Enc S V) {k : Nat} (hk : k < vN V) : ltN S k = vLet V k := by
  unfold ltN vLet
  rw [(h.2.2 k hk).1.2.2.2.2.2.2.2]
theorem Enc.lok {S : Nat → Nat → Int32} {V : Nat → Int32} (h : Enc S V) (w : WF V) : LOk S (vN V) := fun k hk => by
  rw [h.lt hk, (h.2.2 k hk).1.2.2.2.2.2.2.2]
  exact (w.2.2.2.2.1 k hk).2.2.2.1
theorem Enc.fee {S : Nat → Nat → Int32} {V : Nat → Int32} (h : Enc S V) (m : Int32) : feeC (S 1) m = vFee V m := by
  unfold vFee feeC
  rw [h.2.1 0 (by decide), h.2.1 1 (by decide)]
theorem allB_cong {p q : Nat → Bool} : ∀ {n : Nat}, (∀ k, k < n → p k = q k) → allB p n = allB q n
  | 0, _ => rfl
  | n + 1, h => by rw [allB, allB, allB_cong (fun k hk => h k (by omega)), h n (by omega)]
theorem sumI_cong {p q : Nat → Int32} : ∀ {n : Nat}, (∀ k, k < n → p k = q k) → sumI p n = sumI q n
  | 0, _ => rfl
  | n + 1, h => by rw [sumI, sumI, sumI_cong (fun k hk => h k (by omega)), h n (by omega)]
theorem setOf_cong {p q : Nat → Bool} : ∀ {n : Nat}, (∀ k, k < n → p k = q k) → setOf p n = setOf q n
  | 0, _ => rfl
  | n + 1, h => by rw [setOf, setOf, setOf_cong (fun k hk => h k (by omega)), h n (by omega)]
theorem Enc.qstb {S : Nat → Nat → Int32} {V : Nat → Int32} (h : Enc S V) {x : Nat} (hx : x < 4096) : stb S (vN V) x = vStb V x := by
  unfold stb vStb
  refine allB_cong fun k _ => ?_
  unfold okG vOkG
  by_cases hk : k < vN V
  · obtain ⟨⟨g0, g1, g2, -⟩, -, g9⟩ := h.2.2 k hk
    rw [h.fee, g0, g2, g9 x hx]
  · simp [hk]
theorem Enc.bet {S : Nat → Nat → Int32} {V : Nat → Int32} (h : Enc S V) (x z : Nat) : betB S (vN V) x z = vBet V x z := by
  have e : ∀ y, sumI (wOf S (vN V) y) 12 = vWs V y := fun y => by
    unfold vWs
    refine sumI_cong fun k _ => ?_
    unfold wOf
    by_cases hk : k < vN V
    · rw [(h.2.2 k hk).1.2.1]
    · rw [if_neg (fun q => hk q.1), if_neg (fun q => hk q.1)]
  unfold betB vBet
  rw [e, e]
theorem Enc.inv {S : Nat → Nat → Int32} {V : Nat → Int32} (h : Enc S V) : setOf (sInv S (vN V)) 12 = vInv V := by
  refine setOf_cong fun k _ => ?_
  unfold sInv
  by_cases hk : k < vN V
  · rw [(h.2.2 k hk).1.2.2.1]
  · simp [hk]
/-! two searches of one mind -/
def gEq (E E' : gE) : Prop := E.1 = E'.1 ∧ E.2.2.2.2.1 = E'.2.2.2.2.1 ∧ E.2.2.2.2.1 < 4096 ∧ (∀ X, E.2.2.2.1 X = E'.2.2.2.1 X) ∧ ∀ k, k < E.1 → (∀ X, X < 4096 → E.2.1 k X = E'.2.1 k X) ∧ E.2.2.1 k = E'.2.2.1 k ∧ E.2.2.2.2.2 k = E'.2.2.2.2.2 k
theorem gEq.qaw {E E' : gE} (h : gEq E E') {X : Nat} (hX : X < 4096) : eaw E X = eaw E' X := by
  refine setOf_cong fun k _ => ?_
  unfold eP
  rw [← h.1]
  by_cases hk : k < E.1
  · obtain ⟨a, b, c⟩ := h.2.2.2.2 k hk
    rw [a X hX, b, h.2.2.2.1 X]
  · simp [hk]
theorem gEq.qss {E E' : gE} (h : gEq E E') : ∀ i, ess E i = ess E' i
  | 0 => h.2.1
  | i + 1 => by
    show dif (ess E i) (eaw E (ess E i)) = dif (ess E' i) (eaw E' (ess E' i))
    rw [h.qaw (ess_lt h.2.2.1 i), gEq.qss h i]
theorem gEq.qpa {E E' : gE} (h : gEq E E') : ∀ i, epa E i = epa E' i
  | 0 => by
    show setOf _ 12 = setOf _ 12
    refine setOf_cong fun k _ => ?_
    rw [h.1, h.2.1]
  | i + 1 => by
    show eaw E (ess E i) = eaw E' (ess E' i)
    rw [h.qaw (ess_lt h.2.2.1 i), gEq.qss h i]
theorem lfind_cong {p q : Nat → Bool} : ∀ (m i : Nat), (∀ j, p j = q j) → lfind p m i = lfind q m i
  | 0, _, _ => rfl
  | m + 1, i, h => by rw [lfind, lfind, h i, lfind_cong m (i + 1) h]
theorem gEq.qtt {E E' : gE} (h : gEq E E') (k : Nat) : ett E k = ett E' k := lfind_cong 14 0 fun i => by rw [h.qpa]
theorem gEq.qL {E E' : gE} (h : gEq E E') : eL E = eL E' := lfind_cong 13 0 fun i => by rw [h.qaw (ess_lt h.2.2.1 i), h.qss]
theorem gEq.qgr {E E' : gE} (h : gEq E E') : egr E = egr E' := by
  show ess E (eL E) = ess E' (eL E')
  rw [h.qss, h.qL]
theorem gEq.qrr {E E' : gE} (h : gEq E E') {k : Nat} (hk : k < E.1) : err E k = err E' k := by
  show (if 14 ≤ ett E k then (0 : Int32) else if ett E k = 0 then 1 else if E.2.1 k (ess E (ett E k - 1)) then 3 else 2) = _
  rw [(h.2.2.2.2 k hk).1 _ (ess_lt h.2.2.1 _), h.qtt, h.qss]
  rfl
theorem gEq.qbb {E E' : gE} (h : gEq E E') {k : Nat} (hk : k < E.1) : ebb E k = ebb E' k := by
  unfold ebb
  rw [h.qrr hk, h.qtt, h.qpa, (h.2.2.2.2 k hk).2.2]
theorem epa_n {E : gE} {i j : Nat} (h : (epa E i).testBit j = true) : j < E.1 := by
  match i, h with
  | 0, h =>
    rw [epa_bit0] at h
    simp only [Bool.and_eq_true, decide_eq_true_eq] at h
    exact h.2.1
  | i + 1, h => exact (eaw_in h).2.1
/-- whom a guest's way leads to -/
theorem ebb_spec (E : gE) (k : Nat) : ebb E k = -5 ∨ ∃ j, ebb E k = nI j ∧ j < 12 ∧ (epa E (ett E k - 1)).testBit j = true ∧ (err E k = 2 ∨ err E k = 3) := by
  unfold ebb
  split
  · rename_i h
    rcases lowest_spec (fun j => (epa E (ett E k - 1)).testBit j && (E.2.2.2.2.2 k).testBit j) 12 0 (by decide) with ⟨a, -⟩ | ⟨j, a, -, b, c, -⟩
    · exact Or.inl a
    · exact Or.inr ⟨j, a, by omega, ((Bool.and_eq_true _ _).mp c).1, Or.inl h⟩
  · split
    · rename_i h
      rcases lowest_spec (epa E (ett E k - 1)).testBit 12 0 (by decide) with ⟨a, -⟩ | ⟨j, a, -, b, c, -⟩
      · exact Or.inl a
      · exact Or.inr ⟨j, a, by omega, c, Or.inr h⟩
    · exact Or.inl rfl
theorem gEq.qwl {E E' : gE} (h : gEq E E') : ∀ (f k : Nat), k < E.1 → ewl E f k = ewl E' f k
  | 0, _, _ => rfl
  | f + 1, k, hk => by
    unfold ewl
    rw [← h.qbb hk]
    by_cases hn : ebb E k < 0
    · rw [if_pos hn, if_pos hn]
    · rw [if_neg hn, if_neg hn]
      rcases ebb_spec E k with e | ⟨j, e, hj, hb, -⟩
      · rw [e] at hn; exact absurd (by decide) hn
      · have ecl : (ebb E k).toNatClampNeg = j := by rw [e]; exact nI_clamp (by omega)
        rw [ecl, gEq.qwl h f j (epa_n hb)]
theorem Enc.geq {S : Nat → Nat → Int32} {V : Nat → Int32} (h : Enc S V) {I : Nat} (hI : I < 4096) (gen : Int32) : gEq (eC S (vN V) I gen) (vE V I gen) := by
  unfold eC vE gEq
  dsimp only
  refine ⟨rfl, rfl, hI, fun X => h.fee _, fun k hk => ⟨fun X hX => (h.2.2 k hk).2.2 X hX, ?_, h.lt hk⟩⟩
  rw [(h.2.2 k hk).1.1]
/-! every stable company is a part of the greatest one -/
theorem pop_mono {x y : Nat} (h : subB x y = true) : pop x ≤ pop y := cnt_sub fun k _ hk => subB_iff.mp h k hk
theorem fee_nat {V : Nat → Int32} {h d m : Nat} (hh : h ≤ 99999) (hd : d ≤ 9999) (e2 : V 2 = nI h) (e3 : V 3 = nI d) (h1 : 1 ≤ m) (h2 : m ≤ 12) : vFee V (nI m) = nI ((h + m - 1) / m + d) := by
  unfold vFee feeC
  rw [if_pos (show (0 : Int32) < nI m from nI_lt (a := 0) (by omega) (by omega))]
  show (V 2 + nI m - nI 1) / nI m + V 3 = _
  rw [e2, e3, nI_add, isub (by omega), pk_div (by omega) (by omega) (by omega), nI_add]
theorem ceil_anti {h a b : Nat} (h1 : 1 ≤ a) (hab : a ≤ b) : (h + b - 1) / b ≤ (h + a - 1) / a := by
  have hq : h ≤ (h + a - 1) / a * a := by
    have h2 := Nat.div_add_mod (h + a - 1) a
    have h3 := Nat.mod_lt (h + a - 1) h1
    have h4 : a * ((h + a - 1) / a) = (h + a - 1) / a * a := Nat.mul_comm _ _
    omega
  have hq2 : h ≤ (h + a - 1) / a * b := Nat.le_trans hq (Nat.mul_le_mul_left _ hab)
  have h5 : h + b - 1 < ((h + a - 1) / a + 1) * b := by
    rw [Nat.add_mul, Nat.one_mul]
    omega
  exact Nat.le_of_lt_succ ((Nat.div_lt_iff_lt_mul (by omega)).mpr h5)
theorem fee_anti {V : Nat → Int32} (w : WF V) {a b : Nat} (h1 : 1 ≤ a) (hab : a ≤ b) (h2 : b ≤ 12) : vFee V (nI b) ≤ vFee V (nI a) := by
  obtain ⟨h, hh, e2⟩ := w.2.2.1.1
  obtain ⟨d, hd, e3⟩ := w.2.2.1.2.1
  rw [fee_nat hh hd e2 e3 (by omega) h2, fee_nat hh hd e2 e3 h1 (by omega)]
  have h3 := ceil_anti (h := h) h1 hab
  have h4 : (h + a - 1) / a ≤ h + a - 1 := Nat.div_le_self _ _
  exact nI_le (by omega) (by omega)
theorem bit_pos {x k : Nat} (hk : k < 12) (h : x.testBit k = true) : 1 ≤ pop x := by
  refine Nat.pos_of_ne_zero fun q => ?_
  have : cnt (fun _ => false) 12 < cnt x.testBit 12 := cnt_lt (fun j _ hj => by cases hj) ⟨k, hk, rfl, h⟩
  have h0 : cnt (fun _ => false) 12 = 0 := by decide
  have hq : cnt x.testBit 12 = 0 := q
  omega
theorem vStb_spec {V : Nat → Int32} {x : Nat} : vStb V x = true ↔ ∀ k, k < 12 → x.testBit k = true → k < vN V ∧ ¬ vG V k 2 = 0 ∧ vFee V (nI (pop x)) ≤ vG V k 0 ∧ vMet V k x = true := by
  unfold vStb
  rw [allB_iff]
  constructor
  · intro h k hk hb
    have := h k hk
    unfold vOkG at this
    rw [hb] at this
    simpa [and_assoc] using this
  · intro h k hk
    unfold vOkG
    cases hb : x.testBit k
    · rfl
    · simpa [and_assoc] using h k hk hb
theorem big_bit {x k : Nat} (hx : x < 4096) (hk : 12 ≤ k) : x.testBit k = false := Nat.testBit_lt_two_pow (Nat.lt_of_lt_of_le hx (Nat.le_trans (by decide : 4096 ≤ 2 ^ 12) (Nat.pow_le_pow_right (by decide) hk)))
theorem stb_sub {V : Nat → Int32} (w : WF V) {x : Nat} (hx : x < 4096) (h : vStb V x = true) : ∀ i, subB x (ess (vE V (vInv V) (-1)) i) = true := by
  have hs := vStb_spec.mp h
  have hI : vInv V < 4096 := setOf_12 _
  intro i
  induction i with
  | zero =>
    refine subB_iff.mpr fun k hk => ?_
    have hk12 : k < 12 := Nat.lt_of_not_le fun q => by rw [big_bit hx q] at hk; cases hk
    obtain ⟨a, b, -⟩ := hs k hk12 hk
    show (vInv V).testBit k = true
    unfold vInv
    rw [setOf_bit]
    simp [hk12, a, b]
  | succ i ih =>
    refine subB_iff.mpr fun k hk => ?_
    have hk12 : k < 12 := Nat.lt_of_not_le fun q => by rw [big_bit hx q] at hk; cases hk
    obtain ⟨a, b, c, d⟩ := hs k hk12 hk
    have hin := subB_iff.mp ih k hk
    show (dif (ess (vE V (vInv V) (-1)) i) (eaw (vE V (vInv V) (-1)) (ess (vE V (vInv V) (-1)) i))).testBit k = true
    rw [dif_bit, hin]
    cases hb : (eaw (vE V (vInv V) (-1)) (ess (vE V (vInv V) (-1)) i)).testBit k
    · simp [hk12]
    · exfalso
      obtain ⟨-, -, -, hor⟩ := eaw_in hb
      have hX : ess (vE V (vInv V) (-1)) i < 4096 := ess_lt (E := vE V (vInv V) (-1)) hI i
      rcases hor with h1 | h1
      · have h2 := (w.2.2.2.2.1 k a).2.2.2.2.2.2 x _ hx hX ih d
        have h3 : vMet V k (ess (vE V (vInv V) (-1)) i) = false := h1
        rw [h2] at h3; cases h3
      · have h3 : (if nI k = (-1 : Int32) then (99999 : Int32) else vG V k 0) < vFee V (nI (pop (ess (vE V (vInv V) (-1)) i))) := h1
        rw [if_neg (fun q => by
          have := nI_pos (n := k) (by omega)
          rw [q] at this
          exact this (by decide))] at h3
        have h4 := fee_anti w (bit_pos hk12 hk) (pop_mono ih) (pop_le _)
        exact absurd (Int32.le_trans h4 c) (Int32.not_le.mpr h3)
theorem stb_gr {V : Nat → Int32} (w : WF V) {x : Nat} (hx : x < 4096) (h : vStb V x = true) : subB x (vGr V) = true := stb_sub w hx h _
theorem sub_le {x y : Nat} (h : subB x y = true) : x ≤ y := by
  have := of_decide_eq_true h
  rw [← this]
  exact Nat.and_le_right
