/-! THE REFERENCE: its picture, what it reads -/
def moT (j : Nat) : Nat := if j = 6 ∨ j = 7 then 2 else 0
def moN (j : Nat) : Nat := if j = 0 then 1647 else if j = 1 then 6588 else if j = 2 then 1647 else if j = 3 then 60 else if j < 6 then 5 else if j < 8 then 9 else 12
def moCell (m : Nat) (c : Nat → Int32) : va_E := hObj 6 [.ref (m + 1), .ref (m + 2), .int (c 0), .ref (m + 3), .int (c 1), .ref (m + 4), .int (c 2), .ref (m + 5), .ref (m + 6), .int (c 3), .int (c 4), .ref (m + 7), .ref (m + 8), .ref (m + 9), .ref (m + 10), .int (c 5)]
def RMo (K : hK) (H : hAH) (m : Nat) (c : Nat → Int32) (B : Nat → Nat → Int32) : Prop := H.2 m = some (moCell m c) ∧ ∀ j, j < 10 → H.2 (m + 1 + j) = some (hInts K (moT j) (moN j) (B j))
def upB (B : Nat → Nat → Int32) (j : Nat) (f : Nat → Int32) : Nat → Nat → Int32 := fun i => if i = j then f else B i
theorem upB_s {B : Nat → Nat → Int32} {j : Nat} {f : Nat → Int32} : upB B j f j = f := if_pos rfl
theorem upB_n {B : Nat → Nat → Int32} {j i : Nat} {f : Nat → Int32} (h : i ≠ j) : upB B j f i = B i := if_neg h
theorem upB_u {B : Nat → Nat → Int32} {j : Nat} {f g : Nat → Int32} : upB (upB B j f) j g = upB B j g := by
  funext i
  unfold upB
  by_cases e : i = j
  · rw [if_pos e, if_pos e]
  · rw [if_neg e, if_neg e, if_neg e]
section MO
variable {K : hK} {H : hAH} {m : Nat} {c : Nat → Int32} {B : Nat → Nat → Int32}
theorem RMo.v (h : RMo K H m c B) : H.2 (m + 1) = some (hInts K 0 1647 (B 0)) := h.2 0 (by decide)
theorem RMo.hi (h : RMo K H m c B) : H.2 (m + 2) = some (hInts K 0 6588 (B 1)) := h.2 1 (by decide)
theorem RMo.ke (h : RMo K H m c B) : H.2 (m + 3) = some (hInts K 0 1647 (B 2)) := h.2 2 (by decide)
theorem RMo.tx (h : RMo K H m c B) : H.2 (m + 4) = some (hInts K 0 60 (B 3)) := h.2 3 (by decide)
theorem RMo.lo (h : RMo K H m c B) : H.2 (m + 5) = some (hInts K 0 5 (B 4)) := h.2 4 (by decide)
theorem RMo.hg (h : RMo K H m c B) : H.2 (m + 6) = some (hInts K 0 5 (B 5)) := h.2 5 (by decide)
theorem RMo.an (h : RMo K H m c B) : H.2 (m + 7) = some (hInts K 2 9 (B 6)) := h.2 6 (by decide)
theorem RMo.pa (h : RMo K H m c B) : H.2 (m + 8) = some (hInts K 2 9 (B 7)) := h.2 7 (by decide)
theorem RMo.rs (h : RMo K H m c B) : H.2 (m + 9) = some (hInts K 0 12 (B 8)) := h.2 8 (by decide)
theorem RMo.ro (h : RMo K H m c B) : H.2 (m + 10) = some (hInts K 0 12 (B 9)) := h.2 9 (by decide)
theorem RMo.sc {H' : hAH} {c' : Nat → Int32} {d : va_E} (h : RMo K H m c B) (u : hUpd H m d H') (hd : d = moCell m c') : RMo K H' m c' B := by
  subst hd
  exact ⟨u.2.1, fun j hj => (u.2.2 _ (by omega)).trans (h.2 j hj)⟩
theorem RMo.bk {H' : hAH} {j : Nat} {f : Nat → Int32} (h : RMo K H m c B) (hj : j < 10) (u : hUpd H (m + 1 + j) (hInts K (moT j) (moN j) f) H') : RMo K H' m c (upB B j f) := by
  refine ⟨(u.2.2 _ (by omega)).trans h.1, fun i hi => ?_⟩
  by_cases e : i = j
  · subst e; rw [upB_s]; exact u.2.1
  · rw [upB_n e, u.2.2 _ (by omega)]; exact h.2 i hi
theorem RMo.wv {H' : hAH} {f : Nat → Int32} (h : RMo K H m c B) (u : hUpd H (m + 1) (hInts K 0 1647 f) H') : RMo K H' m c (upB B 0 f) := h.bk (j := 0) (by decide) u
theorem RMo.fr {H' : hAH} {lo hi : Nat} (h : RMo K H m c B) (f : hFr lo hi H H') (hd : hi ≤ m ∨ m + 11 ≤ lo) : RMo K H' m c B := ⟨(f.2 _ (by omega)).trans h.1, fun j hj => (f.2 _ (by omega)).trans (h.2 j hj)⟩
set_option maxRecDepth 100000 in
set_option maxHeartbeats 4000000 in
theorem c_Mo_has (K : hK) (H : hAH) (x : Nat) {k : Nat} (hk : k < 32) : hCT K M_Mo_has [.int (nI x), .int (nI k)] H 0 0 (fun r H' => r = some (.int (b2i (x.testBit k))) ∧ H' = H) := by
  refine hCT.go (okc_Mo_has K _ _) [] 30 (by decide +kernel) rfl rfl ?_
  have e := shr_bit (n := x) hk
  refine ⟨fun h => ?_, fun h => ?_⟩
  · refine ⟨Or.inl rfl, ?_, rfl⟩
    rw [← e, decide_eq_false h]; rfl
  · refine ⟨Or.inr rfl, ?_, rfl⟩
    rw [← e, decide_eq_true h]; rfl
theorem pop_clear2 : ∀ a, a < 64 → ∀ b, b < 64 → (64 * a + b = 0 ∨ pop ((64 * a + b) &&& (64 * a + b - 1)) + 1 = pop (64 * a + b)) := by decide +kernel
theorem pop_clear {x : Nat} (hx : x < 4096) (h0 : x ≠ 0) : pop (x &&& (x - 1)) + 1 = pop x := by
  have := pop_clear2 (x / 64) (by omega) (x % 64) (Nat.mod_lt _ (by decide))
  rw [Nat.div_add_mod] at this
  exact this.resolve_left h0
set_option maxRecDepth 100000 in
set_option maxHeartbeats 4000000 in
theorem l_Mo_ones {K : hK} {H : hAH} {x : Nat} {w0 : Int32} : ∀ (p y n : Nat) (a b : Int32), y < 4096 → pop y = p → n + p = pop x → a = nI n → b = nI y → hJ K M_Mo_ones (0, 0) (fun r H' => r = some (.int (nI (pop x))) ∧ H' = H) 4 (0, 0) [some (.int w0), some (.int a), some (.int b)] [] H := by
  intro p
  induction p with
  | zero =>
    intro y n a b hy hp hn ha hb
    have h0 : y = 0 := Classical.byContradiction fun q => by
      have := pop_clear hy q
      omega
    refine hGo_sound (okc_Mo_ones K _ _) [4] 60 _ _ _ _ _ ?_
    refine ⟨fun _ => ⟨trivial, by rw [ha, ← hn]; rfl, rfl⟩, fun h => absurd (by rw [hb, h0]; rfl) h⟩
  | succ p ih =>
    intro y n a b hy hp hn ha hb
    have h0 : y ≠ 0 := fun q => by
      have hz : pop 0 = 0 := by decide
      rw [q] at hp
      omega
    have hc := pop_clear hy h0
    refine hGo_sound (okc_Mo_ones K _ _) [4] 60 _ _ _ _ _ ?_
    refine ⟨fun h => absurd (hb.symm.trans h) (nI_ne0 (by omega) (by omega)), fun _ => ?_⟩
    refine ih (y &&& (y - 1)) (n + 1) _ _ (Nat.lt_of_le_of_lt Nat.and_le_left hy) (by omega) (by omega) (by rw [ha, nI_1]) ?_
    rw [hb, show (nI y - 1 : Int32) = nI (y - 1) from pk_sub (b := 1) (by omega), nI_and]
set_option maxRecDepth 100000 in
set_option maxHeartbeats 4000000 in
theorem c_Mo_ones (K : hK) (H : hAH) {x : Nat} (hx : x < 4096) : hCT K M_Mo_ones [.int (nI x)] H 0 0 (fun r H' => r = some (.int (nI (pop x))) ∧ H' = H) := by
  refine hCT.go (okc_Mo_ones K _ _) [4] 60 (by decide +kernel) rfl rfl ?_
  exact l_Mo_ones (pop x) x 0 _ _ hx rfl (Nat.zero_add _) rfl rfl
theorem at_eq (k f : Nat) : (15 : Int32) + 8 * nI k + nI f = nI (15 + 8 * k + f) := by
  show nI 15 + nI 8 * nI k + nI f = _
  rw [pk_mul, nI_add, nI_add]
set_option maxRecDepth 100000 in
set_option maxHeartbeats 4000000 in
theorem c_Mo_at (K : hK) (H : hAH) (k f : Nat) : hCT K M_Mo_at [.int (nI k), .int (nI f)] H 0 0 (fun r H' => r = some (.int (nI (15 + 8 * k + f))) ∧ H' = H) := by
  refine hCT.go (okc_Mo_at K _ _) [] 30 (by decide +kernel) rfl rfl ?_
  exact ⟨trivial, by rw [← at_eq], rfl⟩
set_option maxRecDepth 100000 in
set_option maxHeartbeats 4000000 in
theorem c_Mo_of (h : RMo K H m c B) {k f : Nat} (hi : 15 + 8 * k + f < 1647) : hCT K M_Mo_of [.ref m, .int (nI k), .int (nI f)] H 0 0 (fun r H' => r = some (.int (B 0 (15 + 8 * k + f))) ∧ H' = H) := by
  refine hCT.go (okc_Mo_of K _ _) [] 30 (by decide +kernel) rfl rfl ?_
  refine ⟨_, h.1, _, c_Mo_at K H k f, ?_⟩
  rintro _ H ⟨rfl, rfl⟩
  exact ⟨1647, _, _, Or.inl h.v, rfl, hi, by decide, trivial, rfl, rfl⟩
set_option maxRecDepth 100000 in
set_option maxHeartbeats 4000000 in
theorem c_Mo_isFixed (h : RMo K H m c B) : hCT K M_Mo_isFixed [.ref m] H 0 0 (fun r H' => r = some (.int (b2i (decide (B 0 7 = 1)))) ∧ H' = H) := by
  refine hCT.go (okc_Mo_isFixed K _ _) [] 30 (by decide +kernel) rfl rfl ?_
  refine ⟨_, h.1, 1647, _, 7, Or.inl h.v, rfl, by decide, by decide, fun q => ?_, fun q => ?_⟩
  · exact ⟨Or.inl rfl, by rw [decide_eq_false q]; rfl, rfl⟩
  · exact ⟨Or.inr rfl, by rw [decide_eq_true q]; rfl, rfl⟩
set_option maxRecDepth 100000 in
set_option maxHeartbeats 4000000 in
theorem c_Mo_isGuest (h : RMo K H m c B) (g : Int32) : hCT K M_Mo_isGuest [.ref m, .int g] H 0 0 (fun r H' => r = some (.int (b2i (decide (gOk (B 0) g)))) ∧ H' = H) := by
  refine hCT.go (okc_Mo_isGuest K _ _) [] 30 (by decide +kernel) rfl rfl ?_
  refine ⟨_, h.1, 1647, _, 0, Or.inl h.v, rfl, by decide, by decide, _, c_Mo_in K H _ _ _, ?_⟩
  rintro _ H ⟨rfl, rfl⟩
  rw [b2i_if]
  exact ⟨b2i_01 _, rfl, rfl⟩
set_option maxRecDepth 100000 in
set_option maxHeartbeats 4000000 in
theorem c_Mo_all (h : RMo K H m c B) {n : Nat} (h0 : B 0 0 = nI n) (hn : n ≤ 12) : hCT K M_Mo_all [.ref m] H 0 0 (fun r H' => r = some (.int (nI (2 ^ n - 1))) ∧ H' = H) := by
  refine hCT.go (okc_Mo_all K _ _) [] 30 (by decide +kernel) rfl rfl ?_
  refine ⟨_, h.1, 1647, _, 0, Or.inl h.v, rfl, by decide, by decide, trivial, ?_, rfl⟩
  rw [h0, shl_1 n (by omega), show (nI (2 ^ n) - 1 : Int32) = nI (2 ^ n - 1) from pk_sub (b := 1) (Nat.two_pow_pos n)]
set_option maxRecDepth 100000 in
set_option maxHeartbeats 4000000 in
theorem c_Mo_isSet (h : RMo K H m c B) (w : WF (B 0)) (x : Int32) : hCT K M_Mo_isSet [.ref m, .int x] H 0 0 (fun r H' => r = some (.int (b2i (decide (sOk (B 0) x)))) ∧ H' = H) := by
  refine hCT.go (okc_Mo_isSet K _ _) [] 30 (by decide +kernel) rfl rfl ?_
  refine ⟨_, h.1, _, c_Mo_all h w.1.1 w.1.2, ?_⟩
  rintro _ H ⟨rfl, rfl⟩
  refine ⟨_, c_Mo_in K H _ _ _, ?_⟩
  rintro _ H ⟨rfl, rfl⟩
  rw [b2i_if]
  exact ⟨b2i_01 _, rfl, rfl⟩
theorem met_ix (k x : Nat) (hx : x < 4096) : (111 : Int32) + 128 * nI k + nI x / 32 = nI (111 + 128 * k + x / 32) := by
  show nI 111 + nI 128 * nI k + nI x / nI 32 = _
  rw [pk_mul, pk_div (by omega) (by decide) (by decide), nI_add, nI_add]
set_option maxRecDepth 100000 in
set_option maxHeartbeats 4000000 in
theorem c_Mo_isMet (h : RMo K H m c B) {k x : Nat} (hk : k < 12) (hx : x < 4096) : hCT K M_Mo_isMet [.ref m, .int (nI k), .int (nI x)] H 0 0 (fun r H' => r = some (.int (b2i (vMet (B 0) k x))) ∧ H' = H) := by
  refine hCT.go (okc_Mo_isMet K _ _) [] 40 (by decide +kernel) rfl rfl ?_
  have hx32 : x / 32 < 128 := Nat.div_lt_of_lt_mul (by omega)
  have er : nI x - nI x / 32 * 32 = nI (x % 32) := pk_rem (d := 32) (by omega) (by decide) (by decide)
  refine ⟨_, h.1, by decide, 1647, _, _, Or.inl h.v, met_ix k x hx, by omega, by decide, by decide, fun q => ?_, fun q => ?_⟩
  · refine ⟨Or.inl rfl, ?_, rfl⟩
    rw [er] at q
    unfold vMet
    rw [decide_eq_false q]; rfl
  · refine ⟨Or.inr rfl, ?_, rfl⟩
    rw [er] at q
    unfold vMet
    rw [decide_eq_true q]; rfl
set_option maxRecDepth 100000 in
set_option maxHeartbeats 4000000 in
theorem c_Mo_feeOf (h : RMo K H m c B) {x : Int32} (hx : 0 < x) : hCT K M_Mo_feeOf [.ref m, .int x] H 0 0 (fun r H' => r = some (.int (vFee (B 0) x)) ∧ H' = H) := by
  refine hCT.go (okc_Mo_feeOf K _ _) [] 40 (by decide +kernel) rfl rfl ?_
  refine ⟨_, h.1, 1647, _, 2, Or.inl h.v, rfl, by decide, by decide, fun q => ?_, _, h.1, 1647, _, 3, Or.inl h.v, rfl, by decide, by decide, trivial, ?_, rfl⟩
  · rw [q] at hx; exact absurd hx (by decide)
  · unfold vFee feeC
    rw [if_pos hx]
end MO
