/-! the guest's writes -/
theorem RGu.get {K : hK} {H : hAH} {g : Nat} {G T : Nat → Int32} (h : RGu K H g G T) : H.2 g = some (guCell (g + 1) G) := h.1
def mix (f g : Nat → Int32) (c : Nat) : Nat → Int32 := fun j => if j < c then f j else g j
theorem mix_0 (f g : Nat → Int32) : mix f g 0 = g := funext fun j => if_neg (Nat.not_lt_zero j)
theorem mix_succ (f g : Nat → Int32) (i : Nat) : upd (mix f g i) i (f i) = mix f g (i + 1) := by
  funext j
  unfold upd mix
  by_cases h : j = i
  · subst h; simp
  · by_cases h2 : j < i
    · rw [if_neg h, if_pos h2, if_pos (by omega)]
    · rw [if_neg h, if_neg h2, if_neg (by omega)]
def gBegin (l w : Int32) : Nat → Int32
  | 0 => l
  | 1 => w
  | 2 => 1
  | 6 => -5
  | 8 => 1
  | _ => 0
set_option maxRecDepth 100000 in
set_option maxHeartbeats 4000000 in
theorem c_Gu_begin {K : hK} {H : hAH} {g : Nat} {G T : Nat → Int32} (hR : RGu K H g G T) (l w : Int32) : hCT K M_Gu_begin [.ref g, .int l, .int w] H 0 0 (fun r H' => r = none ∧ RGu K H' g (gBegin l w) (upd T 0 0) ∧ hFr g (g + 2) H H') := by
  refine hCT.go (okc_Gu_begin K _ _) [] 60 (by decide +kernel) rfl rfl ?_
  refine ⟨_, hR.1, trivial, fun H1 u1 => ⟨_, u1.2.1, trivial, fun H2 u2 => ⟨_, u2.2.1, Or.inr rfl, fun H3 u3 => ⟨_, u3.2.1, trivial, fun H4 u4 => ⟨_, u4.2.1, trivial, fun H5 u5 => ⟨_, u5.2.1, trivial, fun H6 u6 => ⟨_, u6.2.1, trivial, fun H7 u7 => ⟨_, u7.2.1, trivial, fun H8 u8 => ⟨_, u8.2.1, trivial, fun H9 u9 => ⟨_, u9.2.1, ?_⟩⟩⟩⟩⟩⟩⟩⟩⟩⟩
  have f := ((((((((u1.fr.trans u2.fr).trans u3.fr).trans u4.fr).trans u5.fr).trans u6.fr).trans u7.fr).trans u8.fr).trans u9.fr)
  refine ⟨_, c_Pa_atomOf K H9 0 0, ?_⟩
  rintro _ _ ⟨rfl, rfl⟩
  refine ⟨60, T, 0, by rw [f.2 (g + 1) (by omega)]; exact hR.2, rfl, by decide, by decide, fun H10 u10 => ?_⟩
  refine ⟨rfl, ⟨?_, u10.2.1⟩, (f.wide (Nat.le_refl _) (by omega)).trans (u10.fr' (by omega) (by omega))⟩
  rw [u10.2.2 g (by omega)]
  exact u9.2.1
set_option maxRecDepth 100000 in
set_option maxHeartbeats 4000000 in
theorem l_copyCondition {K : hK} {H : hAH} {g a c : Nat} {G T T2 : Nat → Int32} {l : Int32} (ha : H.2 a = some (hInts K 0 60 T2)) (hd : a < g ∨ g + 2 ≤ a) (hc : c ≤ 60) : ∀ (m i : Nat) (w : Int32) (Hc : hAH), i + m = c → w = nI i → RGu K Hc g G (mix T2 T i) → hFr g (g + 2) H Hc →
    hJ K M_Gu_copyCondition (0, 0) (fun r H' => r = none ∧ RGu K H' g G (mix T2 T c) ∧ hFr g (g + 2) H H') 13 (0, 0) [some (.ref g), some (.int l), some (.ref a), some (.int (nI c)), some (.int w)] [] Hc := by
  intro m
  induction m with
  | zero =>
    intro i w Hc hi hw hR hf
    refine hGo_sound (okc_Gu_copyCondition K _ _) [13] 60 _ _ _ _ _ ?_
    refine ⟨fun _ => ?_, fun h => ?_⟩
    · exact ⟨rfl, by rw [show c = i by omega]; exact hR, hf⟩
    · exact absurd (by rw [hw]; exact nI_le (by omega) (by omega)) h
  | succ m ih =>
    intro i w Hc hi hw hR hf
    have ha' : Hc.2 a = some (hInts K 0 60 T2) := by rw [hf.2 a (by omega)]; exact ha
    refine hGo_sound (okc_Gu_copyCondition K _ _) [13] 60 _ _ _ _ _ ?_
    refine ⟨fun h => ?_, fun _ => ⟨60, Or.inl ⟨0, _, by decide, ha'⟩, fun h => ?_, fun _ => ⟨_, hR.1, 60, Or.inl ⟨0, _, by decide, hR.2⟩, fun h => ?_, fun _ => ?_⟩⟩⟩
    · exact absurd (by rw [hw] at h; exact h) (nI_ge (by omega) (by omega))
    · exact absurd (by rw [hw] at h; exact h) (nI_ge (b := 60) (by omega) (by omega))
    · exact absurd (by rw [hw] at h; exact h) (nI_ge (b := 60) (by omega) (by omega))
    · refine ⟨_, hR.1, 60, T2, i, Or.inl ha', hw, by omega, by decide, 60, _, i, hR.2, hw, by omega, by decide, fun H1 u => ?_⟩
      refine ih (i + 1) _ _ (by omega) (by rw [hw, nI_1]) ⟨?_, ?_⟩ (hf.trans (u.fr' (by omega) (by omega)))
      · rw [u.2.2 g (by omega)]; exact hR.1
      · rw [u.2.1, mix_succ]
set_option maxRecDepth 100000 in
set_option maxHeartbeats 4000000 in
theorem c_Gu_copyCondition {K : hK} {H : hAH} {g a c : Nat} {G T T2 : Nat → Int32} (l : Int32) (hR : RGu K H g G T) (ha : H.2 a = some (hInts K 0 60 T2)) (hd : a < g ∨ g + 2 ≤ a) (hc : c ≤ 60) : hCT K M_Gu_copyCondition [.ref g, .int l, .ref a, .int (nI c)] H 0 0 (fun r H' => r = none ∧ RGu K H' g (upd (upd G 7 l) 8 (nI c)) (mix T2 T c) ∧ hFr g (g + 2) H H') := by
  refine hCT.go (okc_Gu_copyCondition K _ _) [13] 60 (by decide +kernel) rfl rfl ?_
  refine ⟨_, hR.1, trivial, fun H1 u1 => ⟨_, u1.2.1, trivial, fun H2 u2 => ?_⟩⟩
  have f := u1.fr.trans u2.fr
  have f2 : hFr g (g + 2) H H2 := f.wide (Nat.le_refl _) (by omega)
  refine (l_copyCondition (by rw [f.2 a (by omega)]; exact ha) hd hc c 0 _ _ (by omega) rfl ⟨u2.2.1, ?_⟩ hFr.rfl : hJ _ _ _ (fun r H' => r = none ∧ RGu K H' g (upd (upd G 7 l) 8 (nI c)) (mix T2 T c) ∧ hFr g (g + 2) H2 H') _ _ _ _ _).imp ?_
  · rw [mix_0, f.2 (g + 1) (by omega)]; exact hR.2
  · exact fun r H' ⟨a1, a2, a3⟩ => ⟨a1, a2, f2.trans a3⟩
