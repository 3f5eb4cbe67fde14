/-! pictures of a guest and of a state; the guest's methods -/
def guCell (t : Nat) (G : Nat → Int32) : va_E := hObj 0 [.int (G 0), .int (G 1), .int (G 2), .int (G 3), .int (G 4), .int (G 5), .int (G 6), .int (G 7), .int (G 8), .ref t]
def RGu (K : hK) (H : hAH) (g : Nat) (G T : Nat → Int32) : Prop := H.2 g = some (guCell (g + 1) G) ∧ H.2 (g + 1) = some (hInts K 0 60 T)
def hFr (lo hi : Nat) (H H' : hAH) : Prop := H'.1 = H.1 ∧ ∀ q, (q < lo ∨ hi ≤ q) → H'.2 q = H.2 q
theorem hFr.rfl {lo hi : Nat} {H : hAH} : hFr lo hi H H := ⟨Eq.refl _, fun _ _ => Eq.refl _⟩
theorem hFr.trans {lo hi : Nat} {H H1 H2 : hAH} (h1 : hFr lo hi H H1) (h2 : hFr lo hi H1 H2) : hFr lo hi H H2 := ⟨h2.1.trans h1.1, fun q hq => (h2.2 q hq).trans (h1.2 q hq)⟩
theorem hFr.wide {lo hi lo' hi' : Nat} {H H1 : hAH} (h1 : hFr lo hi H H1) (h : lo' ≤ lo) (h' : hi ≤ hi') : hFr lo' hi' H H1 := ⟨h1.1, fun q hq => h1.2 q (by omega)⟩
theorem hUpd.fr {H H' : hAH} {a : Nat} {c : va_E} (u : hUpd H a c H') : hFr a (a + 1) H H' := ⟨u.1, fun q hq => u.2.2 q (by omega)⟩
theorem hUpd.fr' {H H' : hAH} {a lo hi : Nat} {c : va_E} (u : hUpd H a c H') (h1 : lo ≤ a) (h2 : a < hi) : hFr lo hi H H' := ⟨u.1, fun q hq => u.2.2 q (by omega)⟩
theorem RGu.fr {K : hK} {H H' : hAH} {g lo hi : Nat} {G T : Nat → Int32} (h : RGu K H g G T) (f : hFr lo hi H H') (hd : hi ≤ g ∨ g + 2 ≤ lo) : RGu K H' g G T := ⟨by rw [f.2 g (by omega)]; exact h.1, by rw [f.2 (g + 1) (by omega)]; exact h.2⟩
/-! an atom -/
def low (a : Int32) : Nat := (a &&& 4095).toBitVec.toNat
theorem low_lt (a : Int32) : low a < 4096 := by
  unfold low
  rw [Int32.toBitVec_and, BitVec.toNat_and]
  exact Nat.lt_of_le_of_lt Nat.and_le_right (by decide)
theorem low_eq (a : Int32) : a &&& 4095 = nI (low a) := by
  apply Int32.toBitVec_inj.mp
  show _ = BitVec.ofNat 32 (low a)
  unfold low
  simp
def atomMet (a : Int32) (x : Nat) : Bool := decide (a >>> ((12 : Int32) &&& 31) ≤ nI (pop (x &&& low a)))
set_option maxRecDepth 100000 in
set_option maxHeartbeats 4000000 in
theorem c_isAtomMet (K : hK) (H : hAH) (a : Int32) {x : Nat} (hx : x < 4096) : hCT K M_Pa_isAtomMet [.int a, .int (nI x)] H 0 0 (fun r H' => r = some (.int (b2i (atomMet a x))) ∧ H' = H) := by
  refine hCT.go (okc_Pa_isAtomMet K _ _) [] 60 (by decide +kernel) rfl rfl ?_
  have h1 : nI x &&& (a &&& 4095) = nI (x &&& low a) := by rw [low_eq, nI_and]
  have h2 : x &&& low a < 4096 := Nat.lt_of_le_of_lt Nat.and_le_right (low_lt a)
  refine ⟨_, h1 ▸ c_pop K H h2, ?_⟩
  rintro _ _ ⟨rfl, rfl⟩
  refine ⟨fun h => ?_, fun h => ?_⟩
  · exact ⟨Or.inl rfl, by rw [atomMet, decide_eq_false (Int32.not_le.mpr h)]; rfl, rfl⟩
  · exact ⟨Or.inr rfl, by rw [atomMet, decide_eq_true (Int32.not_lt.mp h)]; rfl, rfl⟩
/-! a condition as steps -/
def gcStep (a : Int32) (x : Nat) (q : Int32 × Int32) : Int32 × Int32 :=
  if a = -1 then (q.1 <<< ((1 : Int32) &&& 31), (q.2 <<< ((1 : Int32) &&& 31)) ||| 1)
  else if a = -3 then (q.1 ||| (q.2 &&& 1), q.2 ||| 1)
  else if a = -2 then (q.1 >>> ((1 : Int32) &&& 31), (q.2 >>> ((1 : Int32) &&& 31)) &&& (((q.1 ||| q.2) &&& 1) ||| (-2)))
  else if atomMet a x then q else (q.1, q.2 &&& (-2))
def gcRun (T : Nat → Int32) (x : Nat) : Nat → Int32 × Int32
  | 0 => (0, 1)
  | i + 1 => gcStep (T i) x (gcRun T x i)
def gcMet (T : Nat → Int32) (c x : Nat) : Bool := !decide (((gcRun T x c).1 ||| (gcRun T x c).2) &&& 1 = 0)
set_option maxRecDepth 100000 in
set_option maxHeartbeats 4000000 in
theorem l_isContentWith {K : hK} {H : hAH} {g c x : Nat} {G T : Nat → Int32} (hR : RGu K H g G T) (hG : G 8 = nI c) (hc : c ≤ 60) (hx : x < 4096) :
    ∀ (m i : Nat) (w e p : Int32) (l5 l6 : Option Value), i + m = c → w = nI i → (e, p) = gcRun T x i → hJ K M_Gu_isContentWith (0, 0) (fun r H' => r = some (.int (b2i (gcMet T c x))) ∧ H' = H) 7 (0, 0) [some (.ref g), some (.int (nI x)), some (.int e), some (.int p), some (.int w), l5, l6] [] H := by
  intro m
  induction m with
  | zero =>
    intro i w e p l5 l6 hi hw hep
    refine hGo_sound (okc_Gu_isContentWith K _ _) [7] 60 _ _ _ _ _ ?_
    refine ⟨_, hR.1, fun _ => ?_, fun h => ?_⟩
    · have e1 : (gcRun T x c).1 = e := by rw [show c = i by omega, ← hep]
      have e2 : (gcRun T x c).2 = p := by rw [show c = i by omega, ← hep]
      refine ⟨fun h => ⟨Or.inl rfl, ?_, rfl⟩, fun h => ⟨Or.inr rfl, ?_, rfl⟩⟩
      · rw [gcMet, e1, e2, decide_eq_true h]; rfl
      · rw [gcMet, e1, e2, decide_eq_false h]; rfl
    · exact absurd (by rw [hG, hw]; exact nI_le (by omega) (by omega)) h
  | succ m ih =>
    intro i w e p l5 l6 hi hw hep
    have e1 : (gcRun T x i).1 = e := by rw [← hep]
    have e2 : (gcRun T x i).2 = p := by rw [← hep]
    refine hGo_sound (okc_Gu_isContentWith K _ _) [7] 80 _ _ _ _ _ ?_
    refine ⟨_, hR.1, fun h => ?_, fun _ => ⟨_, hR.1, _, Or.inl ⟨0, _, by decide, hR.2⟩, fun h => ?_, fun _ => ?_⟩⟩
    · exact absurd (by rw [hG, hw] at h; exact h) (nI_ge (by omega) (by omega))
    · exact absurd (by rw [hw] at h; exact h) (nI_ge (by omega) (by omega))
    · refine ⟨_, hR.1, _, _, i, Or.inl hR.2, hw, by omega, by decide, ?_⟩
      refine ⟨fun h1 => ⟨fun h2 => ⟨fun h3 => ?_, fun h3 => ?_⟩, fun h2 => ?_⟩, fun h1 => ?_⟩
      · refine ⟨_, c_isAtomMet K H (T i) hx, ?_⟩
        rintro _ _ ⟨rfl, rfl⟩
        refine ⟨fun h4 => ?_, fun h4 => ?_⟩
        · refine ih (i + 1) _ _ _ _ _ (by omega) (by rw [hw, nI_1]) ?_
          simp only [gcRun, gcStep, if_neg h1, if_neg h2, if_neg h3, if_pos (b2i_n0.mp h4)]
          exact hep
        · refine ih (i + 1) _ _ _ _ _ (by omega) (by rw [hw, nI_1]) ?_
          simp only [gcRun, gcStep, if_neg h1, if_neg h2, if_neg h3, e1, e2, b2i_0.mp h4]
          rfl
      · refine ih (i + 1) _ _ _ _ _ (by omega) (by rw [hw, nI_1]) ?_
        simp only [gcRun, gcStep, if_neg h1, if_neg h2, if_pos h3, e1, e2]
      · refine ih (i + 1) _ _ _ _ _ (by omega) (by rw [hw, nI_1]) ?_
        simp only [gcRun, gcStep, if_neg h1, if_pos h2, e1, e2]
      · refine ih (i + 1) _ _ _ _ _ (by omega) (by rw [hw, nI_1]) ?_
        simp only [gcRun, gcStep, if_pos h1, e1, e2]
set_option maxRecDepth 100000 in
set_option maxHeartbeats 4000000 in
theorem c_isContentWith {K : hK} {H : hAH} {g c x : Nat} {G T : Nat → Int32} (hR : RGu K H g G T) (hG : G 8 = nI c) (hc : c ≤ 60) (hx : x < 4096) : hCT K M_Gu_isContentWith [.ref g, .int (nI x)] H 0 0 (fun r H' => r = some (.int (b2i (gcMet T c x))) ∧ H' = H) := by
  refine hCT.go (okc_Gu_isContentWith K _ _) [7] 30 (by decide +kernel) rfl rfl ?_
  exact l_isContentWith hR hG hc hx c 0 _ _ _ _ _ (by omega) rfl rfl
/-! the lowest of a set -/
def lowest (p : Nat → Bool) : Nat → Nat → Int32
  | 0, _ => -5
  | m + 1, i => if p i then nI i else lowest p m (i + 1)
set_option maxRecDepth 100000 in
set_option maxHeartbeats 4000000 in
theorem l_lowestOf {K : hK} {H : hAH} {x : Nat} (hx : x < 4096) : ∀ (m i : Nat) (w : Int32), i + m = 12 → w = nI i → hJ K M_Pa_lowestOf (0, 0) (fun r H' => r = some (.int (lowest x.testBit m i)) ∧ H' = H) 2 (0, 0) [some (.int (nI x)), some (.int w)] [] H := by
  intro m
  induction m with
  | zero =>
    intro i w hi hw
    refine hGo_sound (okc_Pa_lowestOf K _ _) [2] 60 _ _ _ _ _ ?_
    refine ⟨fun _ => ?_, fun h => ?_⟩
    · exact ⟨trivial, rfl, rfl⟩
    · exact absurd (by rw [hw]; exact nI_le (a := 12) (by omega) (by omega)) h
  | succ m ih =>
    intro i w hi hw
    refine hGo_sound (okc_Pa_lowestOf K _ _) [2] 60 _ _ _ _ _ ?_
    refine ⟨fun h => ?_, fun _ => ?_⟩
    · exact absurd (by rw [hw] at h; exact h) (nI_ge (b := 12) (by omega) (by omega))
    · refine ⟨_, hw ▸ c_isIn K H x (by omega), ?_⟩
      rintro _ _ ⟨rfl, rfl⟩
      refine ⟨fun h => ?_, fun h => ?_⟩
      · rw [lowest, b2i_0.mp h]
        exact ih (i + 1) _ (by omega) (by rw [hw, nI_1])
      · exact ⟨trivial, by rw [lowest, if_pos (b2i_n0.mp h), hw], rfl⟩
set_option maxRecDepth 100000 in
set_option maxHeartbeats 4000000 in
theorem c_lowestOf (K : hK) (H : hAH) {x : Nat} (hx : x < 4096) : hCT K M_Pa_lowestOf [.int (nI x)] H 0 0 (fun r H' => r = some (.int (lowest x.testBit 12 0)) ∧ H' = H) := by
  refine hCT.go (okc_Pa_lowestOf K _ _) [2] 30 (by decide +kernel) rfl rfl ?_
  exact l_lowestOf hx 12 0 _ rfl rfl
/-! what a guest tells, begins with, copies -/
def guTell (G : Nat → Int32) (w : Int32) : Int32 :=
  if w = 0 then G 0 else if w = 1 then G 1 else if w = 2 then (if G 2 = 0 then 0 else 1) else if w = 3 then G 3 else if w = 4 then G 7 else if w = 5 then G 4 else if w = 6 then G 5 else if w = 7 then G 6 else -2
set_option maxRecDepth 100000 in
set_option maxHeartbeats 4000000 in
theorem c_Gu_tell {K : hK} {H : hAH} {g : Nat} {G T : Nat → Int32} (hR : RGu K H g G T) (w : Int32) : hCT K M_Gu_tell [.ref g, .int w] H 0 0 (fun r H' => r = some (.int (guTell G w)) ∧ H' = H) := by
  refine hCT.go (okc_Gu_tell K _ _) [] 30 (by decide +kernel) rfl rfl ?_
  refine ⟨fun h0 => ?_, fun h0 => ⟨fun h1 => ?_, fun h1 => ⟨fun h2 => ?_, fun h2 => ⟨fun h3 => ?_, fun h3 => ⟨fun h4 => ?_, fun h4 => ⟨fun h5 => ?_, fun h5 => ⟨fun h6 => ?_, fun h6 => ⟨fun h7 => ?_, fun h7 => ?_⟩⟩⟩⟩⟩⟩⟩⟩
  · exact ⟨_, hR.1, trivial, by rw [guTell, if_pos h0], rfl⟩
  · exact ⟨_, hR.1, trivial, by rw [guTell, if_neg h0, if_pos h1], rfl⟩
  · refine ⟨_, hR.1, _, c_Pa_asNumber K H (G 2), ?_⟩
    rintro _ _ ⟨rfl, rfl⟩
    exact ⟨trivial, by rw [guTell, if_neg h0, if_neg h1, if_pos h2], rfl⟩
  · exact ⟨_, hR.1, trivial, by rw [guTell, if_neg h0, if_neg h1, if_neg h2, if_pos h3], rfl⟩
  · exact ⟨_, hR.1, trivial, by rw [guTell, if_neg h0, if_neg h1, if_neg h2, if_neg h3, if_pos h4], rfl⟩
  · exact ⟨_, hR.1, trivial, by rw [guTell, if_neg h0, if_neg h1, if_neg h2, if_neg h3, if_neg h4, if_pos h5], rfl⟩
  · exact ⟨_, hR.1, trivial, by rw [guTell, if_neg h0, if_neg h1, if_neg h2, if_neg h3, if_neg h4, if_neg h5, if_pos h6], rfl⟩
  · exact ⟨_, hR.1, trivial, by rw [guTell, if_neg h0, if_neg h1, if_neg h2, if_neg h3, if_neg h4, if_neg h5, if_neg h6, if_pos h7], rfl⟩
  · exact ⟨trivial, by rw [guTell, if_neg h0, if_neg h1, if_neg h2, if_neg h3, if_neg h4, if_neg h5, if_neg h6, if_neg h7], rfl⟩
