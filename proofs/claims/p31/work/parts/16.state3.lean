/-! a state's sums, seats, discontent; its changes -/
def tellOf (S : Nat → Nat → Int32) (n : Nat) (w : Int32) (k : Nat) : Int32 := if k < n then guTell (S (2 + k)) w else 0
set_option maxRecDepth 100000 in
set_option maxHeartbeats 4000000 in
theorem l_sumOf {K : hK} {H : hAH} {s n : Nat} {S : Nat → Nat → Int32} {v : Int32} (hR : RSt K H s S) (h0 : S 0 0 = nI n) (hn : n ≤ 12) : ∀ (m i : Nat) (w a : Int32) (l4 : Option Value), i + m = 12 → w = nI i → a = sumI (tellOf S n v) i → hJ K M_St_sumOf (0, 0) (fun r H' => r = some (.int (sumI (tellOf S n v) 12)) ∧ H' = H) 4 (0, 0) [some (.ref s), some (.int v), some (.int a), some (.int w), l4] [] H := by
  intro m
  induction m with
  | zero =>
    intro i w a l4 hi hw ha
    refine hGo_sound (okc_St_sumOf K _ _) [4] 60 _ _ _ _ _ ?_
    refine ⟨fun _ => ⟨trivial, by rw [ha, show i = 12 by omega], rfl⟩, fun h => ?_⟩
    exact absurd (by rw [hw]; exact nI_le (a := 12) (by omega) (by omega)) h
  | succ m ih =>
    intro i w a l4 hi hw ha
    refine hGo_sound (okc_St_sumOf K _ _) [4] 60 _ _ _ _ _ ?_
    refine ⟨fun h => absurd (by rw [hw] at h; exact h) (nI_ge (b := 12) (by omega) (by omega)), fun _ => ?_⟩
    by_cases hk : i < n
    · refine ⟨_, hR.1, _, hw ▸ c_find_lt hR h0 hn hk, ?_⟩
      rintro _ _ ⟨rfl, rfl⟩
      refine ⟨_, (hR.2.2.2 i (by omega)).1, _, c_Gu_tell (hR.2.2.2 i (by omega)) v, ?_⟩
      rintro _ _ ⟨rfl, rfl⟩
      refine ih (i + 1) _ _ _ (by omega) (by rw [hw, nI_1]) ?_
      rw [sumI, tellOf, if_pos hk, ha]
    · refine ⟨_, hR.1, _, hw ▸ c_find_ge hR h0 hn (Nat.le_of_not_lt hk) (by omega), ?_⟩
      rintro _ _ ⟨rfl, rfl⟩
      refine ih (i + 1) _ _ _ (by omega) (by rw [hw, nI_1]) ?_
      rw [sumI, tellOf, if_neg hk, ha]
set_option maxRecDepth 100000 in
set_option maxHeartbeats 4000000 in
theorem c_sumOf {K : hK} {H : hAH} {s n : Nat} {S : Nat → Nat → Int32} (v : Int32) (hR : RSt K H s S) (h0 : S 0 0 = nI n) (hn : n ≤ 12) : hCT K M_St_sumOf [.ref s, .int v] H 0 0 (fun r H' => r = some (.int (sumI (tellOf S n v) 12)) ∧ H' = H) := by
  refine hCT.go (okc_St_sumOf K _ _) [4] 60 (by decide +kernel) rfl rfl ?_
  exact l_sumOf hR h0 hn 12 0 _ _ _ (by omega) rfl rfl
def seatP (S : Nat → Nat → Int32) (n : Nat) (v : Int32) (k : Nat) : Bool := decide (k < n) && decide (S (2 + k) 6 = v)
set_option maxRecDepth 100000 in
set_option maxHeartbeats 4000000 in
theorem l_guestOnSeat {K : hK} {H : hAH} {s n : Nat} {S : Nat → Nat → Int32} {v : Int32} (hR : RSt K H s S) (h0 : S 0 0 = nI n) (hn : n ≤ 12) : ∀ (m i : Nat) (w : Int32) (l3 : Option Value), i + m = 12 → w = nI i → hJ K M_St_guestOnSeat (0, 0) (fun r H' => r = some (.int (lowest (seatP S n v) m i)) ∧ H' = H) 2 (0, 0) [some (.ref s), some (.int v), some (.int w), l3] [] H := by
  intro m
  induction m with
  | zero =>
    intro i w l3 hi hw
    refine hGo_sound (okc_St_guestOnSeat K _ _) [2] 60 _ _ _ _ _ ?_
    refine ⟨fun _ => ⟨trivial, rfl, rfl⟩, fun h => ?_⟩
    exact absurd (by rw [hw]; exact nI_le (a := 12) (by omega) (by omega)) h
  | succ m ih =>
    intro i w l3 hi hw
    refine hGo_sound (okc_St_guestOnSeat K _ _) [2] 60 _ _ _ _ _ ?_
    refine ⟨fun h => absurd (by rw [hw] at h; exact h) (nI_ge (b := 12) (by omega) (by omega)), fun _ => ?_⟩
    by_cases hk : i < n
    · refine ⟨_, hR.1, _, hw ▸ c_find_lt hR h0 hn hk, ?_⟩
      rintro _ _ ⟨rfl, rfl⟩
      refine ⟨_, (hR.2.2.2 i (by omega)).1, fun h => ?_, fun h => ?_⟩
      · rw [lowest, seatP, decide_eq_false h, Bool.and_false]
        exact ih (i + 1) _ _ (by omega) (by rw [hw, nI_1])
      · refine ⟨trivial, ?_, rfl⟩
        rw [lowest, seatP, decide_eq_true h, decide_eq_true hk, hw]; rfl
    · refine ⟨_, hR.1, _, hw ▸ c_find_ge hR h0 hn (Nat.le_of_not_lt hk) (by omega), ?_⟩
      rintro _ _ ⟨rfl, rfl⟩
      rw [lowest, seatP, decide_eq_false hk, Bool.false_and]
      exact ih (i + 1) _ _ (by omega) (by rw [hw, nI_1])
set_option maxRecDepth 100000 in
set_option maxHeartbeats 4000000 in
theorem c_guestOnSeat {K : hK} {H : hAH} {s n : Nat} {S : Nat → Nat → Int32} (v : Int32) (hR : RSt K H s S) (h0 : S 0 0 = nI n) (hn : n ≤ 12) : hCT K M_St_guestOnSeat [.ref s, .int v] H 0 0 (fun r H' => r = some (.int (lowest (seatP S n v) 12 0)) ∧ H' = H) := by
  refine hCT.go (okc_St_guestOnSeat K _ _) [2] 60 (by decide +kernel) rfl rfl ?_
  exact l_guestOnSeat hR h0 hn 12 0 _ _ (by omega) rfl
/-- those of the left y whom y does not content -/
def disP (S : Nat → Nat → Int32) (n y k : Nat) : Bool := decide (k < n) && (y.testBit k && !sMet S k y)
set_option maxRecDepth 100000 in
set_option maxHeartbeats 4000000 in
theorem l_discontent {K : hK} {H : hAH} {s n y : Nat} {S : Nat → Nat → Int32} (hR : RSt K H s S) (hS : SOk S n) (hy : y < 4096) (hl : S 0 3 = nI y) : ∀ (m i : Nat) (w a : Int32) (l3 : Option Value), i + m = 12 → w = nI i → a = nI (setOf (disP S n y) i) → hJ K M_St_discontent (0, 0) (fun r H' => r = some (.int (nI (setOf (disP S n y) 12))) ∧ H' = H) 4 (0, 0) [some (.ref s), some (.int a), some (.int w), l3] [] H := by
  obtain ⟨h0, hn, -, hg⟩ := hS
  intro m
  induction m with
  | zero =>
    intro i w a l3 hi hw ha
    refine hGo_sound (okc_St_discontent K _ _) [4] 60 _ _ _ _ _ ?_
    refine ⟨fun _ => ⟨trivial, by rw [ha, show i = 12 by omega], rfl⟩, fun h => ?_⟩
    exact absurd (by rw [hw]; exact nI_le (a := 12) (by omega) (by omega)) h
  | succ m ih =>
    intro i w a l3 hi hw ha
    refine hGo_sound (okc_St_discontent K _ _) [4] 60 _ _ _ _ _ ?_
    refine ⟨fun h => absurd (by rw [hw] at h; exact h) (nI_ge (b := 12) (by omega) (by omega)), fun _ => ?_⟩
    have no : disP S n y i = false → a = nI (setOf (disP S n y) (i + 1)) := fun h => by rw [setOf_no h]; exact ha
    by_cases hk : i < n
    · refine ⟨_, hR.1, _, hw ▸ c_find_lt hR h0 hn hk, ?_⟩
      rintro _ _ ⟨rfl, rfl⟩
      have hRg := hR.2.2.2 i (by omega)
      refine ⟨_, hR.1, _, hw ▸ hl ▸ c_isIn K _ y (k := i) (by omega), ?_⟩
      rintro _ _ ⟨rfl, rfl⟩
      refine ⟨fun h => ?_, fun h => ⟨_, hR.1, _, hRg.1, _, hl ▸ c_isContentWith hRg (hg i hk).2.1 (hg i hk).2.2 hy, ?_⟩⟩
      · refine ih (i + 1) _ _ _ (by omega) (by rw [hw, nI_1]) (no ?_)
        rw [disP, b2i_0.mp h]; simp
      · rintro _ _ ⟨rfl, rfl⟩
        refine ⟨fun h2 => ?_, fun h2 => ?_⟩
        · refine ih (i + 1) _ _ _ (by omega) (by rw [hw, nI_1]) (no ?_)
          rw [disP, sMet, b2i_n0.mp h2]; simp
        · refine ⟨_, hw ▸ c_bitOf K _ (k := i) (by omega), ?_⟩
          rintro _ _ ⟨rfl, rfl⟩
          refine ih (i + 1) _ _ _ (by omega) (by rw [hw, nI_1]) ?_
          rw [ha, nI_or, setOf_yes]
          rw [disP, sMet, b2i_n0.mp h, b2i_0.mp h2, decide_eq_true hk]; rfl
    · refine ⟨_, hR.1, _, hw ▸ c_find_ge hR h0 hn (Nat.le_of_not_lt hk) (by omega), ?_⟩
      rintro _ _ ⟨rfl, rfl⟩
      refine ih (i + 1) _ _ _ (by omega) (by rw [hw, nI_1]) (no ?_)
      rw [disP, decide_eq_false hk]; rfl
set_option maxRecDepth 100000 in
set_option maxHeartbeats 4000000 in
theorem c_discontent {K : hK} {H : hAH} {s n y : Nat} {S : Nat → Nat → Int32} (hR : RSt K H s S) (hS : SOk S n) (hy : y < 4096) (hl : S 0 3 = nI y) : hCT K M_St_discontent [.ref s] H 0 0 (fun r H' => r = some (.int (nI (setOf (disP S n y) 12))) ∧ H' = H) := by
  refine hCT.go (okc_St_discontent K _ _) [4] 60 (by decide +kernel) rfl rfl ?_
  exact l_discontent hR hS hy hl 12 0 _ _ _ (by omega) rfl rfl
/-- a late change is charged -/
def chS (S : Nat → Nat → Int32) (k : Nat) : Nat → Nat → Int32 := if S 1 3 < S 0 1 then sGu S k (upd (S (2 + k)) 3 (S (2 + k) 3 + S 1 4)) (S (14 + k)) else S
set_option maxRecDepth 100000 in
set_option maxHeartbeats 4000000 in
theorem c_chargeIfLate {K : hK} {H : hAH} {s k : Nat} {S : Nat → Nat → Int32} (hR : RSt K H s S) (hk : k < 12) : hCT K M_St_chargeIfLate [.ref s, .ref (s + 3 + 2 * k)] H 0 0 (fun r H' => r = none ∧ RSt K H' s (chS S k) ∧ hFr s (s + 27) H H') := by
  refine hCT.go (okc_St_chargeIfLate K _ _) [] 60 (by decide +kernel) rfl rfl ?_
  refine ⟨_, hR.1, _, hR.1, 5, _, 3, Or.inl hR.2.2.1, rfl, by decide, by decide, fun h => ?_, fun h => ?_⟩
  · refine ⟨rfl, ?_, hFr.rfl⟩
    rw [chS, if_neg (Int32.not_lt.mpr h)]
    exact hR
  · have hg := hR.2.2.2 k hk
    refine ⟨_, hg.1, _, hR.1, 5, _, 4, Or.inl hR.2.2.1, rfl, by decide, by decide, _, hg.1, trivial, fun H1 u => ?_⟩
    refine ⟨rfl, ?_, u.fr' (by omega) (by omega)⟩
    rw [chS, if_pos (Int32.not_le.mp h)]
    refine hR.gu hk ⟨u.2.1, ?_⟩ (u.fr' (by omega) (by omega))
    rw [u.2.2 _ (by omega)]
    exact hg.2
/-- those of x among the first i guests have left, each with v given back -/
def lgS (S : Nat → Nat → Int32) (n x : Nat) (v : Int32) (i : Nat) : Nat → Nat → Int32 := fun r => if r = 0 then upd (S 0) 3 (S 0 3 &&& (nI x ^^^ (-1))) else if 2 ≤ r ∧ r < 2 + i ∧ r - 2 < n ∧ x.testBit (r - 2) = true then upd (upd (S r) 6 (-5)) 5 (S r 5 + v) else S r
theorem lgS_no {S : Nat → Nat → Int32} {n x i : Nat} {v : Int32} (h : ¬ (i < n ∧ x.testBit i = true)) : lgS S n x v (i + 1) = lgS S n x v i := by
  funext r
  unfold lgS
  by_cases r0 : r = 0
  · rw [if_pos r0, if_pos r0]
  · rw [if_neg r0, if_neg r0]
    by_cases e : r = 2 + i
    · subst e
      have e1 : 2 + i - 2 = i := by omega
      rw [if_neg (fun q => h (by rw [e1] at q; exact q.2.2)), if_neg (fun q => h (by rw [e1] at q; exact q.2.2))]
    · have : (2 ≤ r ∧ r < 2 + (i + 1) ∧ r - 2 < n ∧ x.testBit (r - 2) = true) ↔ (2 ≤ r ∧ r < 2 + i ∧ r - 2 < n ∧ x.testBit (r - 2) = true) := by
        constructor
        · rintro ⟨a, b, c⟩; exact ⟨a, by omega, c⟩
        · rintro ⟨a, b, c⟩; exact ⟨a, by omega, c⟩
      simp only [this]
theorem lgS_yes {S : Nat → Nat → Int32} {n x i : Nat} {v : Int32} (hi : i < 12) (hn : n ≤ 12) (h : i < n ∧ x.testBit i = true) : sGu (lgS S n x v i) i (upd (upd (S (2 + i)) 6 (-5)) 5 (S (2 + i) 5 + v)) (S (14 + i)) = lgS S n x v (i + 1) := by
  funext r
  unfold sGu lgS
  by_cases e : r = 2 + i
  · subst e
    have e1 : 2 + i - 2 = i := by omega
    rw [if_pos rfl, if_neg (by omega), if_pos ⟨by omega, by omega, by rw [e1]; exact h⟩]
  · rw [if_neg e]
    by_cases e2 : r = 14 + i
    · subst e2
      rw [if_pos rfl, if_neg (by omega), if_neg (by omega)]
    · rw [if_neg e2]
      by_cases r0 : r = 0
      · rw [if_pos r0, if_pos r0]
      · rw [if_neg r0, if_neg r0]
        have : (2 ≤ r ∧ r < 2 + (i + 1) ∧ r - 2 < n ∧ x.testBit (r - 2) = true) ↔ (2 ≤ r ∧ r < 2 + i ∧ r - 2 < n ∧ x.testBit (r - 2) = true) := by
          constructor
          · rintro ⟨a, b, c⟩; exact ⟨a, by omega, c⟩
          · rintro ⟨a, b, c⟩; exact ⟨a, by omega, c⟩
        simp only [this]
theorem lgS_0 (S : Nat → Nat → Int32) (n x : Nat) (v : Int32) : sOb S (upd (S 0) 3 (S 0 3 &&& (nI x ^^^ (-1)))) = lgS S n x v 0 := by
  funext r
  unfold sOb lgS
  by_cases r0 : r = 0
  · rw [if_pos r0, if_pos r0]
  · rw [if_neg r0, if_neg r0, if_neg (by omega)]
theorem lgS_00 (S : Nat → Nat → Int32) (n x : Nat) (v : Int32) (i : Nat) : lgS S n x v i 0 0 = S 0 0 := rfl
theorem lgS_gu {S : Nat → Nat → Int32} {n x i : Nat} {v : Int32} : lgS S n x v i (2 + i) = S (2 + i) := by
  unfold lgS
  rw [if_neg (by omega), if_neg (by omega)]
theorem lgS_st {S : Nat → Nat → Int32} {n x i k : Nat} {v : Int32} (hi : i ≤ 12) (hn : n ≤ 12) : lgS S n x v i (14 + k) = S (14 + k) := by
  unfold lgS
  rw [if_neg (by omega), if_neg (by omega)]
set_option maxRecDepth 100000 in
set_option maxHeartbeats 4000000 in
theorem l_letGo {K : hK} {H : hAH} {s n x : Nat} {S : Nat → Nat → Int32} {v : Int32} (h0 : S 0 0 = nI n) (hn : n ≤ 12) : ∀ (m i : Nat) (w : Int32) (l4 : Option Value) (Hc : hAH), i + m = 12 → w = nI i → RSt K Hc s (lgS S n x v i) → hFr s (s + 27) H Hc → hJ K M_St_letGo (0, 0) (fun r H' => r = none ∧ RSt K H' s (lgS S n x v 12) ∧ hFr s (s + 27) H H') 14 (0, 0) [some (.ref s), some (.int (nI x)), some (.int v), some (.int w), l4] [] Hc := by
  intro m
  induction m with
  | zero =>
    intro i w l4 Hc hi hw hR hf
    refine hGo_sound (okc_St_letGo K _ _) [14] 60 _ _ _ _ _ ?_
    refine ⟨fun _ => ⟨rfl, by rw [show i = 12 by omega] at hR; exact hR, hf⟩, fun h => ?_⟩
    exact absurd (by rw [hw]; exact nI_le (a := 12) (by omega) (by omega)) h
  | succ m ih =>
    intro i w l4 Hc hi hw hR hf
    refine hGo_sound (okc_St_letGo K _ _) [14] 60 _ _ _ _ _ ?_
    refine ⟨fun h => absurd (by rw [hw] at h; exact h) (nI_ge (b := 12) (by omega) (by omega)), fun _ => ?_⟩
    by_cases hk : i < n
    · refine ⟨_, hR.1, _, hw ▸ c_find_lt hR h0 hn hk, ?_⟩
      rintro _ _ ⟨rfl, rfl⟩
      refine ⟨_, hw ▸ c_isIn K _ x (k := i) (by omega), ?_⟩
      rintro _ _ ⟨rfl, rfl⟩
      refine ⟨fun h => ?_, fun h => ?_⟩
      · refine ih (i + 1) _ _ _ (by omega) (by rw [hw, nI_1]) ?_ hf
        rw [lgS_no (by rw [b2i_0.mp h]; simp)]
        exact hR
      · have hg := hR.2.2.2 i (by omega)
        rw [lgS_gu, lgS_st (by omega) hn] at hg
        refine ⟨_, hg.1, trivial, fun H1 u1 => ⟨_, u1.2.1, _, u1.2.1, trivial, fun H2 u2 => ?_⟩⟩
        have f := u1.fr.trans u2.fr
        refine ih (i + 1) _ _ _ (by omega) (by rw [hw, nI_1]) ?_ (hf.trans (f.wide (by omega) (by omega)))
        rw [← lgS_yes (by omega) hn ⟨hk, b2i_n0.mp h⟩]
        exact hR.gu (by omega) ⟨u2.2.1, (f.2 _ (by omega)).trans hg.2⟩ (f.wide (by omega) (by omega))
    · refine ⟨_, hR.1, _, hw ▸ c_find_ge hR h0 hn (Nat.le_of_not_lt hk) (by omega), ?_⟩
      rintro _ _ ⟨rfl, rfl⟩
      refine ih (i + 1) _ _ _ (by omega) (by rw [hw, nI_1]) ?_ hf
      rw [lgS_no (fun q => hk q.1)]
      exact hR
set_option maxRecDepth 100000 in
set_option maxHeartbeats 4000000 in
theorem c_letGo {K : hK} {H : hAH} {s n : Nat} {S : Nat → Nat → Int32} (x : Nat) (v : Int32) (hR : RSt K H s S) (h0 : S 0 0 = nI n) (hn : n ≤ 12) : hCT K M_St_letGo [.ref s, .int (nI x), .int v] H 0 0 (fun r H' => r = none ∧ RSt K H' s (lgS S n x v 12) ∧ hFr s (s + 27) H H') := by
  refine hCT.go (okc_St_letGo K _ _) [14] 60 (by decide +kernel) rfl rfl ?_
  refine ⟨_, hR.1, _, hR.1, trivial, fun H1 u1 => ?_⟩
  have hR1 := hR.ob (A := upd (S 0) 3 (S 0 3 &&& (nI x ^^^ (-1)))) u1 rfl
  rw [lgS_0 S n x v] at hR1
  have f1 : hFr s (s + 27) H H1 := u1.fr' (by omega) (by omega)
  refine (l_letGo h0 hn 12 0 _ _ _ (by omega) rfl hR1 hFr.rfl : hJ _ _ _ (fun r H' => r = none ∧ RSt K H' s (lgS S n x v 12) ∧ hFr s (s + 27) H1 H') _ _ _ _ _).imp ?_
  exact fun r H' ⟨a1, a2, a3⟩ => ⟨a1, a2, f1.trans a3⟩
/-- the fixed company falls apart -/
def dsS (S : Nat → Nat → Int32) (n x : Nat) : Nat → Nat → Int32 := sOb (lgS S n x 0 12) (upd (lgS S n x 0 12 0) 2 0)
set_option maxRecDepth 100000 in
set_option maxHeartbeats 4000000 in
theorem c_dissolveCompany {K : hK} {H : hAH} {s n y : Nat} {S : Nat → Nat → Int32} (hR : RSt K H s S) (h0 : S 0 0 = nI n) (hn : n ≤ 12) (hy : y < 4096) (hl : S 0 3 = nI y) : hCT K M_St_dissolveCompany [.ref s] H 0 0 (fun r H' => r = some (.int (nI (pop y))) ∧ RSt K H' s (dsS S n y) ∧ hFr s (s + 27) H H') := by
  refine hCT.go (okc_St_dissolveCompany K _ _) [] 60 (by decide +kernel) rfl rfl ?_
  refine ⟨_, hR.1, _, hl ▸ c_pop K H hy, ?_⟩
  rintro _ _ ⟨rfl, rfl⟩
  refine ⟨_, hR.1, _, hR.1, _, hl ▸ c_letGo y 0 hR h0 hn, ?_⟩
  rintro _ H1 ⟨rfl, hR1, f1⟩
  refine ⟨_, hR1.1, Or.inl rfl, fun H2 u => ?_⟩
  exact ⟨trivial, rfl, hR1.ob u rfl, f1.trans (u.fr' (by omega) (by omega))⟩
