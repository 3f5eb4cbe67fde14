/-! THE REFERENCE: a guest cancels, others follow: the numbers -/
theorem lv_stop {q : lvQ} {j : Nat} (h : lvDis (lvR q j) = 0) : ∀ m, lvR q (j + m) = lvR q j
  | 0 => rfl
  | m + 1 => by
    have := lv_stop h m
    show (if lvDis (lvR q (j + m)) = 0 then lvR q (j + m) else lvN (lvR q (j + m))) = _
    rw [this, if_pos h]
theorem lvDis_4096 (q : lvQ) : lvDis q < 4096 := setOf_12 _
theorem lv_fall {q : lvQ} (h : lvDis q ≠ 0) : pop (lvN q).2 < pop q.2 := by
  obtain ⟨k, hk, hb⟩ := ne0_bit h (lvDis_4096 q)
  refine cnt_lt (fun j hj hp => ?_) ⟨k, hk, ?_, (lvDis_lt hb).2⟩
  · have hp' : (dif q.2 (lvDis q)).testBit j = true := hp
    rw [dif_bit] at hp'
    simp only [Bool.and_eq_true] at hp'
    exact hp'.2.1
  · show (dif q.2 (lvDis q)).testBit k = false
    rw [dif_bit, hb]
    simp
theorem lv_end (q : lvQ) : lvDis (lvR q 12) = 0 := by
  have key : ∀ j, lvDis (lvR q j) = 0 ∨ pop (lvR q j).2 + j ≤ pop q.2 := by
    intro j
    induction j with
    | zero => exact Or.inr (Nat.le_refl _)
    | succ j ih =>
      by_cases hz : lvDis (lvR q j) = 0
      · have e : lvR q (j + 1) = lvR q j := lv_stop hz 1
        rw [e]
        exact Or.inl hz
      · have h1 := ih.resolve_left hz
        have e : lvR q (j + 1) = lvN (lvR q j) := if_neg hz
        have h2 := lv_fall hz
        rw [e]
        exact Or.inr (by omega)
  rcases key 12 with h | h
  · exact h
  · refine Classical.byContradiction fun hn => ?_
    obtain ⟨k, hk, hb⟩ := ne0_bit hn (lvDis_4096 _)
    have h1 := bit_pos hk (lvDis_lt hb).2
    have h2 := pop_le q.2
    omega
theorem lvDis_13 {W : Nat → Int32} {z : Nat} {a : Int32} : lvDis (upd W 13 a, z) = lvDis (W, z) := by
  refine setOf_cong fun k _ => ?_
  show (decide (k < vN (upd W 13 a)) && (z.testBit k && !vMet (upd W 13 a) k z)) = (decide (k < vN W) && (z.testBit k && !vMet W k z))
  rw [vN_n (by decide), vMet_n (by decide)]
theorem lvN_13 {W : Nat → Int32} {z : Nat} {a : Int32} : lvN (upd W 13 a, z) = (upd (lvN (W, z)).1 13 a, (lvN (W, z)).2) := by
  unfold lvN
  dsimp only
  rw [lvDis_13, lgV_ct (Or.inl rfl), upd_n (show 9 ≠ 13 by decide), upd_n (show 14 ≠ 13 by decide)]
  congr 1
  funext j
  by_cases e14 : j = 14
  · rw [e14, upd_s, upd_n (by decide), upd_s]
  · rw [upd_n e14]
    by_cases e13 : j = 13
    · rw [e13, upd_s, upd_s]
    · rw [upd_n e13, upd_n e13, upd_n e14]
theorem lvR_13 {W : Nat → Int32} {z : Nat} {a : Int32} : ∀ j, lvR (upd W 13 a, z) j = (upd (lvR (W, z) j).1 13 a, (lvR (W, z) j).2)
  | 0 => rfl
  | j + 1 => by
    have e : ∀ q, lvR q (j + 1) = if lvDis (lvR q j) = 0 then lvR q j else lvN (lvR q j) := fun _ => rfl
    rw [e, e, lvR_13 j, lvDis_13]
    by_cases hz : lvDis ((lvR (W, z) j).1, (lvR (W, z) j).2) = 0
    · rw [if_pos hz, if_pos (show lvDis (lvR (W, z) j) = 0 from hz)]
    · rw [if_neg hz, if_neg (show ¬ lvDis (lvR (W, z) j) = 0 from hz), lvN_13]
/-- some leave: guest by guest -/
def lgI (W : Nat → Int32) (x : Nat) (v : Int32) (n : Nat) : Nat → Int32 := fun i => if 15 ≤ i ∧ i < 111 ∧ (i - 15) / 8 < n ∧ inX (vN W) x ((i - 15) / 8) = true then (if (i - 15) % 8 = 6 then W i + v else if (i - 15) % 8 = 7 then -5 else W i) else W i
theorem lgI_0 (W : Nat → Int32) (x : Nat) (v : Int32) : lgI W x v 0 = W := funext fun j => if_neg (fun q => by omega)
theorem lgI_o {W : Nat → Int32} {x n i : Nat} {v : Int32} (h : ¬ (15 ≤ i ∧ i < 111 ∧ (i - 15) / 8 < n)) : lgI W x v n i = W i := if_neg fun q => h ⟨q.1, q.2.1, q.2.2.1⟩
theorem lgI_s {W : Nat → Int32} {x n : Nat} {v : Int32} (hn : n < 12) : upd (upd (lgI W x v n) (15 + 8 * n + 6) (W (15 + 8 * n + 6) + if inX (vN W) x n = true then v else 0)) (15 + 8 * n + 7) (if inX (vN W) x n = true then -5 else W (15 + 8 * n + 7)) = lgI W x v (n + 1) := by
  funext j
  by_cases e7 : j = 15 + 8 * n + 7
  · rw [e7, upd_s]
    unfold lgI
    have e1 : (15 + 8 * n + 7 - 15) / 8 = n := by omega
    rw [e1]
    by_cases h : inX (vN W) x n = true
    · rw [if_pos h, if_pos ⟨by omega, by omega, by omega, h⟩, if_neg (by omega), if_pos (by omega)]
    · rw [if_neg h, if_neg (fun q => h q.2.2.2)]
  · rw [upd_n e7]
    by_cases e6 : j = 15 + 8 * n + 6
    · rw [e6, upd_s]
      unfold lgI
      have e1 : (15 + 8 * n + 6 - 15) / 8 = n := by omega
      rw [e1]
      by_cases h : inX (vN W) x n = true
      · rw [if_pos h, if_pos ⟨by omega, by omega, by omega, h⟩, if_pos (by omega)]
      · rw [if_neg h, if_neg (fun q => h q.2.2.2), Int32.add_zero]
    · rw [upd_n e6]
      unfold lgI
      by_cases e : (j - 15) / 8 = n
      · rw [if_neg (fun q => by omega)]
        by_cases hj : 15 ≤ j ∧ j < 111 ∧ (j - 15) / 8 < n + 1 ∧ inX (vN W) x ((j - 15) / 8) = true
        · rw [if_pos hj, if_neg (by omega), if_neg (by omega)]
        · rw [if_neg hj]
      · by_cases h2 : 15 ≤ j ∧ j < 111 ∧ (j - 15) / 8 < n ∧ inX (vN W) x ((j - 15) / 8) = true
        · rw [if_pos h2, if_pos (show 15 ≤ j ∧ j < 111 ∧ (j - 15) / 8 < n + 1 ∧ inX (vN W) x ((j - 15) / 8) = true from ⟨h2.1, h2.2.1, by omega, h2.2.2.2⟩)]
        · rw [if_neg h2, if_neg (fun q => h2 ⟨q.1, q.2.1, by omega, q.2.2.2⟩)]
theorem lg_all {W : Nat → Int32} {x y : Nat} {v : Int32} : upd (upd (lgI W x v (vN W)) 8 (nI (dif y x))) 11 (W 11 + v * nI (pop x)) = lgV W y x v := by
  funext j
  unfold lgV
  by_cases e11 : j = 11
  · rw [e11, upd_s, if_neg (by decide), if_pos rfl]
  · rw [upd_n e11]
    by_cases e8 : j = 8
    · rw [e8, upd_s, if_pos rfl]
    · rw [upd_n e8, if_neg e8, if_neg e11]
      unfold lgI
      by_cases h2 : 15 ≤ j ∧ j < 111 ∧ inX (vN W) x ((j - 15) / 8) = true
      · have hlt : (j - 15) / 8 < vN W := of_decide_eq_true ((Bool.and_eq_true _ _).mp h2.2.2).1
        rw [if_pos h2, if_pos (show 15 ≤ j ∧ j < 111 ∧ (j - 15) / 8 < vN W ∧ inX (vN W) x ((j - 15) / 8) = true from ⟨h2.1, h2.2.1, hlt, h2.2.2⟩)]
      · rw [if_neg h2, if_neg (fun q => h2 ⟨q.1, q.2.1, q.2.2.2⟩)]
/-- nobody leaves: nothing changes -/
theorem lvN_0 {W : Nat → Int32} {z : Nat} (h8 : W 8 = nI z) (hz : z < 4096) (h : lvDis (W, z) = 0) : lvN (W, z) = (W, z) := by
  have ed : dif z 0 = z := by
    refine Nat.eq_of_testBit_eq fun k => ?_
    rw [dif_bit, Nat.zero_testBit]
    by_cases hk : k < 12
    · simp [hk]
    · rw [big_bit hz (by omega)]; simp
  have eg : ∀ v, lgV W z 0 v = W := fun v => by
    funext j
    unfold lgV
    by_cases e8 : j = 8
    · rw [if_pos e8, ed, e8, h8]
    · rw [if_neg e8]
      by_cases e11 : j = 11
      · rw [if_pos e11, e11]
        have : nI (pop 0) = 0 := by decide
        rw [this, Int32.mul_zero, Int32.add_zero]
      · rw [if_neg e11, if_neg]
        rintro ⟨-, -, q⟩
        unfold inX at q
        rw [Nat.zero_testBit, Bool.and_false] at q
        exact absurd q (by decide)
  unfold lvN
  rw [h]
  dsimp only
  rw [eg, ed]
  congr 1
  funext j
  by_cases e : j = 14
  · rw [e, upd_s]
    have : nI (pop 0) = 0 := by decide
    rw [this, Int32.add_zero]
  · rw [upd_n e]
