/-! every act keeps the party in order -/
section YK
variable {Y : hY}
theorem yok_act (h : YOk Y) {V : Nat → Int32} (w : WF V) : YOk (yAct Y V) := by
  obtain ⟨h1, h2, h3, h4, h5, h6, h7⟩ := h
  refine ⟨w, ?_, fun i hi => ?_, h4, h5, h6, h7⟩
  · show (if Y.2.1 = 4 then 4 else Y.2.1 + 1) ≤ 4
    split <;> omega
  · show WF (recH Y.1 Y.2.1 Y.2.2.1 i)
    have hi' : i < (if Y.2.1 = 4 then 4 else Y.2.1 + 1) := hi
    unfold recH
    by_cases e4 : Y.2.1 = 4
    · rw [if_pos e4] at hi' ⊢
      by_cases e3 : i = 3
      · rw [if_pos e3]; exact h1
      · rw [if_neg e3]; exact h3 _ (by omega)
    · rw [if_neg e4] at hi' ⊢
      by_cases e3 : i = Y.2.1
      · rw [if_pos e3]; exact h1
      · rw [if_neg e3]; exact h3 _ (by omega)
theorem rng {x : Int32} {M : Nat} (hM : M < 2147483648) (h1 : 0 ≤ x) (h2 : x ≤ nI M) : ∃ d, d ≤ M ∧ x = nI d := by
  obtain ⟨j, hj, rfl⟩ := nI_of (x := x) (Int32.not_lt.mpr h1)
  exact ⟨j, (nI_leI hj (by omega)).mp h2, rfl⟩
theorem rng1 {x : Int32} {m M : Nat} (hM : M < 2147483648) (hm : m ≤ M) (h1 : nI m ≤ x) (h2 : x ≤ nI M) : ∃ d, m ≤ d ∧ d ≤ M ∧ x = nI d := by
  obtain ⟨d, hd, rfl⟩ := rng hM (Int32.le_trans (nI_le (a := 0) (Nat.zero_le m) (by omega)) h1) h2
  exact ⟨d, (nI_leI (by omega) (by omega)).mp h1, hd, rfl⟩
theorem ok_addGuest (h : YOk Y) (l w : Int32) : YOk (sp_addGuest Y l w).2 := by
  unfold sp_addGuest
  by_cases c1 : ¬ (0 ≤ l ∧ l ≤ 99999) ∨ ¬ (1 ≤ w ∧ w ≤ 9)
  · rw [if_pos c1]; exact h
  · rw [if_neg c1]
    by_cases c2 : Y.1 7 = 1
    · rw [if_pos c2]; exact h
    · rw [if_neg c2]
      by_cases c3 : vN Y.1 = 12
      · rw [if_pos c3]; exact h
      · rw [if_neg c3]
        obtain ⟨c4, c5⟩ := not_or.mp c1
        obtain ⟨a, ha, rfl⟩ := rng (M := 99999) (by decide) (Classical.not_not.mp c4).1 (Classical.not_not.mp c4).2
        obtain ⟨c, hc, hc2, rfl⟩ := rng1 (m := 1) (M := 9) (by decide) (by decide) (Classical.not_not.mp c5).1 (Classical.not_not.mp c5).2
        have := h.1.1.2
        exact yok_act h (h.1.ad c2 (by omega) ha hc hc2)
theorem gOk_k (h : YOk Y) {g : Int32} (hg : gOk Y.1 g) : clp g < vN Y.1 := by
  obtain ⟨k, hk, rfl⟩ := (gOk_iff h.1).mp hg
  have := h.1.1.2
  rw [clp_nI (by omega)]
  exact hk
theorem ok_setLimit (h : YOk Y) (g l : Int32) : YOk (sp_setLimit Y g l).2 := by
  unfold sp_setLimit
  by_cases c1 : ¬ gOk Y.1 g
  · rw [if_pos c1]; exact h
  · rw [if_neg c1]
    by_cases c2 : ¬ (0 ≤ l ∧ l ≤ 99999)
    · rw [if_pos c2]; exact h
    · rw [if_neg c2]
      by_cases c3 : Y.1 7 = 1
      · rw [if_pos c3]; exact h
      · rw [if_neg c3]
        by_cases c4 : vG Y.1 (clp g) 0 = l
        · rw [if_pos c4]; exact h
        · rw [if_neg c4]
          have hk := gOk_k h (Classical.not_not.mp c1)
          have hl := Classical.not_not.mp c2
          have w := h.1.gu hk (c := 0) (v := l) (by decide) (fun _ => rng (M := 99999) (by decide) hl.1 hl.2) (fun q => absurd q (by decide)) (fun q => absurd q (by decide))
          exact yok_act h (w.ch (by rw [vN_n (by omega)]; exact hk))
theorem ok_setWeight (h : YOk Y) (g l : Int32) : YOk (sp_setWeight Y g l).2 := by
  unfold sp_setWeight
  by_cases c1 : ¬ gOk Y.1 g
  · rw [if_pos c1]; exact h
  · rw [if_neg c1]
    by_cases c2 : ¬ (1 ≤ l ∧ l ≤ 9)
    · rw [if_pos c2]; exact h
    · rw [if_neg c2]
      by_cases c3 : Y.1 7 = 1
      · rw [if_pos c3]; exact h
      · rw [if_neg c3]
        by_cases c4 : vG Y.1 (clp g) 1 = l
        · rw [if_pos c4]; exact h
        · rw [if_neg c4]
          have hk := gOk_k h (Classical.not_not.mp c1)
          have hl := Classical.not_not.mp c2
          have w := h.1.gu hk (c := 1) (v := l) (by decide) (fun q => absurd q (by decide)) (fun _ => rng1 (m := 1) (M := 9) (by decide) (by decide) hl.1 hl.2) (fun q => absurd q (by decide))
          rw [show 15 + 8 * clp g + 1 = 16 + 8 * clp g by omega] at w
          exact yok_act h w
theorem ok_invite (h : YOk Y) (g l : Int32) (hl : l = 0 ∨ l = 1) : YOk (sp_invite Y g l).2 := by
  unfold sp_invite
  by_cases c1 : ¬ gOk Y.1 g
  · rw [if_pos c1]; exact h
  · rw [if_neg c1]
    by_cases c3 : Y.1 7 = 1
    · rw [if_pos c3]; exact h
    · rw [if_neg c3]
      by_cases c4 : vG Y.1 (clp g) 2 = l
      · rw [if_pos c4]; exact h
      · rw [if_neg c4]
        have hk := gOk_k h (Classical.not_not.mp c1)
        have w := h.1.gu hk (c := 2) (v := l) (by decide) (fun q => absurd q (by decide)) (fun q => absurd q (by decide)) (fun _ => hl)
        rw [show 15 + 8 * clp g + 2 = 17 + 8 * clp g by omega] at w
        exact yok_act h (w.ch (by rw [vN_n (by omega)]; exact hk))
theorem ok_set (h : YOk Y) (x v : Int32) : YOk (sp_set Y x v).2 := by
  unfold sp_set
  by_cases c1 : ¬ (0 ≤ x ∧ x ≤ 4)
  · rw [if_pos c1]; exact h
  · rw [if_neg c1]
    by_cases c2 : ¬ (setLo (clp x) ≤ v ∧ v ≤ setHi (clp x))
    · rw [if_pos c2]; exact h
    · rw [if_neg c2]
      by_cases c3 : Y.1 7 = 1
      · rw [if_pos c3]; exact h
      · rw [if_neg c3]
        by_cases c4 : Y.1 (2 + clp x) = v
        · rw [if_pos c4]; exact h
        · rw [if_neg c4]
          have hx := Classical.not_not.mp c1
          obtain ⟨hv1, hv2⟩ := Classical.not_not.mp c2
          obtain ⟨j, hj, rfl⟩ := rng (M := 4) (by decide) hx.1 hx.2
          rw [clp_nI (by omega)] at hv1 hv2 ⊢
          refine yok_act h (h.1.lo (by omega) (by omega) (fun q => by omega) (fun q => ?_) (fun q => ?_) (fun q => ?_) (fun q => ?_) (fun q => ?_))
          · obtain rfl : j = 0 := by omega
            exact rng (M := 99999) (by decide) hv1 hv2
          · obtain rfl : j = 1 := by omega
            exact rng (M := 9999) (by decide) hv1 hv2
          · obtain rfl : j = 2 := by omega
            exact rng1 (m := 1) (M := 12) (by decide) (by decide) hv1 hv2
          · obtain rfl : j = 3 := by omega
            exact rng (M := 999) (by decide) hv1 hv2
          · obtain rfl : j = 4 := by omega
            exact rng (M := 9999) (by decide) hv1 hv2
theorem ok_pass (h : YOk Y) (d : Int32) : YOk (sp_pass Y d).2 := by
  unfold sp_pass
  by_cases c1 : ¬ (1 ≤ d ∧ d ≤ 60)
  · rw [if_pos c1]; exact h
  · rw [if_neg c1]
    by_cases c2 : 999 < Y.1 1 + d
    · rw [if_pos c2]; exact h
    · rw [if_neg c2]
      have hd := Classical.not_not.mp c1
      obtain ⟨e, he, he2, rfl⟩ := rng1 (m := 1) (M := 60) (by decide) (by decide) hd.1 hd.2
      obtain ⟨f, hf, ef⟩ := h.1.2.1
      rw [ef, nI_add] at c2 ⊢
      refine yok_act h (h.1.lo (by decide) (by decide) (fun _ => ⟨f + e, ?_, rfl⟩) (fun q => by omega) (fun q => by omega) (fun q => by omega) (fun q => by omega) (fun q => by omega))
      exact Nat.le_of_not_lt fun q => c2 (nI_lt (a := 999) q (by omega))
theorem ok_fix (h : YOk Y) : YOk (sp_fix Y).2 := by
  unfold sp_fix
  by_cases c1 : Y.1 7 = 1
  · rw [if_pos c1]; exact h
  · rw [if_neg c1]
    by_cases c2 : vCh Y.1 = 0
    · rw [if_pos c2]; exact h
    · rw [if_neg c2]
      exact yok_act h (h.1.fx c1 (ch_lt h.1))
theorem ok_cancel (h : YOk Y) (g : Int32) : YOk (sp_cancel Y g).2 := by
  unfold sp_cancel
  by_cases c1 : ¬ gOk Y.1 g
  · rw [if_pos c1]; exact h
  · rw [if_neg c1]
    by_cases c2 : ¬ Y.1 7 = 1 ∨ (clp (Y.1 8)).testBit (clp g) = false
    · rw [if_pos c2]; exact h
    · rw [if_neg c2]
      have h71 : Y.1 7 = 1 := Classical.not_not.mp fun q => c2 (Or.inl q)
      have hk := gOk_k h (Classical.not_not.mp c1)
      obtain ⟨y, hy, ey, -⟩ := h.1.2.2.2.1.2
      have h12 := two12 h.1.1.2
      have ecl : clp (Y.1 8) = y := by rw [ey]; exact clp_nI (by omega)
      rw [ecl]
      exact yok_act h (h.1.lv h71 ey (by omega) hk 12).1
theorem ok_dissolve (h : YOk Y) : YOk (sp_dissolve Y).2 := by
  unfold sp_dissolve
  by_cases c1 : ¬ Y.1 7 = 1
  · rw [if_pos c1]; exact h
  · rw [if_neg c1]
    exact yok_act h h.1.ds
theorem ok_type (h : YOk Y) {c : Nat} (hc : c < 65536) : YOk (sp_type Y c).2 := by
  unfold sp_type
  by_cases c1 : Y.2.2.2.2.2.1 = 60
  · rw [if_pos c1]; exact h
  · rw [if_neg c1]
    obtain ⟨h1, h2, h3, h4, h5, h6, h7⟩ := h
    refine ⟨h1, h2, h3, h4, h5, by show Y.2.2.2.2.2.1 + 1 ≤ 60; omega, fun j hj => ?_⟩
    have hj' : j < Y.2.2.2.2.2.1 + 1 := hj
    show up Y.2.2.2.2.2.2 Y.2.2.2.2.2.1 c j < 65536
    unfold up
    split
    · exact hc
    · exact h7 j (by omega)
theorem ok_clearText (h : YOk Y) : YOk (sp_clearText Y).2 := by
  obtain ⟨h1, h2, h3, h4, h5, h6, h7⟩ := h
  exact ⟨h1, h2, h3, h4, h5, Nat.zero_le _, fun j hj => absurd hj (Nat.not_lt_zero _)⟩
theorem ok_undo (h : YOk Y) : YOk (sp_undo Y).2 := by
  unfold sp_undo
  by_cases c1 : Y.2.1 = 0
  · rw [if_pos c1]; exact h
  · rw [if_neg c1]
    obtain ⟨h1, h2, h3, h4, h5, h6, h7⟩ := h
    exact ⟨h3 _ (by omega), by show Y.2.1 - 1 ≤ 4; omega, fun i hi => h3 i (by have : i < Y.2.1 - 1 := hi; omega), h4, h5, h6, h7⟩
theorem ok_keep (h : YOk Y) : YOk (sp_keep Y).2 := by
  obtain ⟨h1, h2, h3, h4, h5, h6, h7⟩ := h
  exact ⟨h1, h2, h3, Or.inr rfl, fun _ => h1, h6, h7⟩
theorem ok_restore (h : YOk Y) : YOk (sp_restore Y).2 := by
  unfold sp_restore
  by_cases c1 : Y.2.2.2.1 = 0
  · rw [if_pos c1]; exact h
  · rw [if_neg c1]
    exact yok_act h (h.2.2.2.2.1 (h.2.2.2.1.resolve_left c1))
theorem ok_setCondition (h : YOk Y) (g : Int32) : YOk (sp_setCondition Y g).2 := by
  unfold sp_setCondition
  by_cases c1 : ¬ gOk Y.1 g
  · rw [if_pos c1]; exact h
  · rw [if_neg c1]
    by_cases c2 : ¬ tF Y.2.2.2.2.2.2 Y.2.2.2.2.2.1 = -1
    · rw [if_pos c2]; exact h
    · rw [if_neg c2]
      by_cases c3 : ¬ tL Y.2.2.2.2.2.2 Y.2.2.2.2.2.1 < 2 ^ vN Y.1
      · rw [if_pos c3]; exact h
      · rw [if_neg c3]
        by_cases c4 : Y.1 7 = 1
        · rw [if_pos c4]; exact h
        · rw [if_neg c4]
          have hk := gOk_k h (Classical.not_not.mp c1)
          have h12 := two12 h.1.1.2
          have w := h.1.cnd hk (L := tL Y.2.2.2.2.2.2 Y.2.2.2.2.2.1) (by omega) (p := tM Y.2.2.2.2.2.2 Y.2.2.2.2.2.1) (fun x y => tM_mono)
          exact yok_act h (w.ch (by rw [cnd_n]; exact hk))
end YK
