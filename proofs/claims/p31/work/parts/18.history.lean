/-! the history: four states, by a permutation of their places -/
def hiCell (h : Nat) (z : Int32) : va_E := hObj 1 [.ref (h + 1), .int z]
def RHi (K : hK) (H : hAH) (h z : Nat) (π : Nat → Nat) (D : Nat → Nat → Nat → Int32) : Prop := H.2 h = some (hiCell h (nI z)) ∧ (∃ f, H.2 (h + 1) = some (hRefs K 4 4 f) ∧ ∀ i, i < 4 → f i = some (h + 2 + 27 * π i)) ∧ ∀ i, i < 4 → RSt K H (h + 2 + 27 * i) (D i)
def hPm (π : Nat → Nat) : Prop := (∀ i, i < 4 → π i < 4) ∧ ∀ i, i < 4 → ∀ j, j < 4 → π i = π j → i = j
def rot (π : Nat → Nat) : Nat → Nat := fun i => if i = 3 then π 0 else π (i + 1)
theorem hPm.rotd {π : Nat → Nat} (h : hPm π) : hPm (rot π) := by
  have p : ∀ i, i < 4 → rot π i = π ((i + 1) % 4) := fun i hi => by
    unfold rot
    by_cases e : i = 3
    · subst e; rfl
    · rw [if_neg e, Nat.mod_eq_of_lt (by omega)]
  refine ⟨fun i hi => ?_, fun i hi j hj e => ?_⟩
  · rw [p i hi]; exact h.1 _ (Nat.mod_lt _ (by decide))
  · rw [p i hi, p j hj] at e
    have := h.2 _ (Nat.mod_lt _ (by decide)) _ (Nat.mod_lt _ (by decide)) e
    omega
theorem RHi.fr {K : hK} {H H' : hAH} {h z lo hi : Nat} {π : Nat → Nat} {D : Nat → Nat → Nat → Int32} (r : RHi K H h z π D) (f : hFr lo hi H H') (hd : hi ≤ h ∨ h + 110 ≤ lo) : RHi K H' h z π D := by
  obtain ⟨h1, ⟨g, h2, h3⟩, h4⟩ := r
  exact ⟨(f.2 _ (by omega)).trans h1, ⟨g, (f.2 _ (by omega)).trans h2, h3⟩, fun i hi => (h4 i hi).fr f (by omega)⟩
set_option maxRecDepth 100000 in
set_option maxHeartbeats 4000000 in
theorem c_Hi_at {K : hK} {H : hAH} {h z i : Nat} {π : Nat → Nat} {D : Nat → Nat → Nat → Int32} (hR : RHi K H h z π D) (hi : i < 4) : hCT K M_Hi_at [.ref h, .int (nI i)] H 0 0 (fun r H' => r = some (.ref (h + 2 + 27 * π i)) ∧ H' = H) := by
  obtain ⟨h1, ⟨f, h2, h3⟩, h4⟩ := hR
  refine hCT.go (okc_Hi_at K _ _) [] 60 (by decide +kernel) rfl rfl ?_
  refine ⟨fun h => absurd h (nI_pos (by omega)), fun _ => ⟨_, h1, 4, Or.inl ⟨4, _, by decide, h2⟩, fun h => absurd h (nI_ge (b := 4) (by omega) (by omega)), fun _ => ?_⟩⟩
  exact ⟨_, h1, 4, f, i, _, h2, rfl, hi, by decide, h3 i hi, rfl, rfl⟩
set_option maxRecDepth 100000 in
set_option maxHeartbeats 4000000 in
theorem c_Hi_move {K : hK} {H : hAH} {h z : Nat} {π : Nat → Nat} {D : Nat → Nat → Nat → Int32} (hR : RHi K H h z π D) (hp : hPm π) : hCT K M_Hi_moveOldestBehind [.ref h] H 0 0 (fun r H' => r = none ∧ RHi K H' h z (rot π) D ∧ hFr (h + 1) (h + 2) H H') := by
  obtain ⟨h1, ⟨f, h2, h3⟩, h4⟩ := hR
  refine hCT.go (okc_Hi_moveOldestBehind K _ _) [] 120 (by decide +kernel) rfl rfl ?_
  have hcell : ∀ (H1 : hAH), hFr (h + 1) (h + 2) H H1 → ∀ i, i < 4 → ∃ vs, H1.2 (h + 2 + 27 * π i) = some (.inr (4, vs)) := fun H1 hf i hi => by
    have := hp.1 i hi
    exact ⟨_, (hf.2 _ (by omega)).trans (h4 (π i) this).1⟩
  refine ⟨_, h1, 4, f, 0, _, h2, rfl, by decide, by decide, h3 0 (by decide), fun q => absurd q (by decide), fun _ => ?_⟩
  obtain ⟨v1, e1⟩ := hcell H hFr.rfl 1 (by decide)
  refine ⟨_, h1, _, h1, 4, f, 1, _, h2, rfl, by decide, by decide, h3 1 (by decide), 4, f, 0, v1, h2, e1, rfl, by decide, by decide, fun H1 u1 => ⟨fun q => absurd q (by decide), fun _ => ?_⟩⟩
  have f1 : hFr (h + 1) (h + 2) H H1 := u1.fr
  have k1 := (f1.2 h (by omega)).trans h1
  obtain ⟨v2, e2⟩ := hcell H1 f1 2 (by decide)
  refine ⟨_, k1, _, k1, 4, _, 2, some (h + 2 + 27 * π 2), u1.2.1, by decide, by decide, by decide, ?_, 4, _, 1, v2, u1.2.1, e2, by decide, by decide, by decide, fun H2 u2 => ⟨fun q => absurd q (by decide), fun _ => ?_⟩⟩
  · show va_up f 0 _ 2 = _
    rw [va_up, if_neg (by decide)]
    exact h3 2 (by decide)
  have f2 : hFr (h + 1) (h + 2) H H2 := f1.trans u2.fr
  have k2 := (f2.2 h (by omega)).trans h1
  obtain ⟨v3, e3⟩ := hcell H2 f2 3 (by decide)
  refine ⟨_, k2, _, k2, 4, _, 3, some (h + 2 + 27 * π 3), u2.2.1, by decide, by decide, by decide, ?_, 4, _, 2, v3, u2.2.1, e3, by decide, by decide, by decide, fun H3 u3 => ⟨fun _ => ?_, fun q => absurd (by decide) q⟩⟩
  · show va_up (va_up f 0 _) 1 _ 3 = _
    rw [va_up, if_neg (by decide), va_up, if_neg (by decide)]
    exact h3 3 (by decide)
  have f3 : hFr (h + 1) (h + 2) H H3 := f2.trans u3.fr
  have k3 := (f3.2 h (by omega)).trans h1
  obtain ⟨v0, e0⟩ := hcell H3 f3 0 (by decide)
  refine ⟨_, k3, 4, _, 3, v0, u3.2.1, e0, by decide, by decide, by decide, fun H4 u4 => ?_⟩
  have f4 : hFr (h + 1) (h + 2) H H4 := f3.trans u4.fr
  refine ⟨rfl, ⟨(f4.2 h (by omega)).trans h1, ⟨_, u4.2.1, fun i hi => ?_⟩, fun i hi => (h4 i hi).fr f4 (by omega)⟩, f4⟩
  unfold rot
  match i, hi with
  | 0, _ => simp [va_up]
  | 1, _ => simp [va_up]
  | 2, _ => simp [va_up]
  | 3, _ => simp [va_up]
/-- the physical place written, after the oldest went behind if the history is full -/
def hiD (D : Nat → Nat → Nat → Int32) (p : Nat) (S : Nat → Nat → Int32) : Nat → Nat → Nat → Int32 := fun i => if i = p then S else D i
theorem RHi.st {K : hK} {H H' : hAH} {h z p : Nat} {π : Nat → Nat} {D : Nat → Nat → Nat → Int32} {S : Nat → Nat → Int32} (r : RHi K H h z π D) (hp : p < 4) (hs : RSt K H' (h + 2 + 27 * p) S) (f : hFr (h + 2 + 27 * p) (h + 2 + 27 * p + 27) H H') : RHi K H' h z π (hiD D p S) := by
  obtain ⟨h1, ⟨g, h2, h3⟩, h4⟩ := r
  refine ⟨(f.2 _ (by omega)).trans h1, ⟨g, (f.2 _ (by omega)).trans h2, h3⟩, fun i hi => ?_⟩
  unfold hiD
  by_cases e : i = p
  · subst e; rw [if_pos rfl]; exact hs
  · rw [if_neg e]; exact (h4 i hi).fr f (by omega)
theorem RHi.size {K : hK} {H H' : hAH} {h z z' : Nat} {π : Nat → Nat} {D : Nat → Nat → Nat → Int32} {c : va_E} (r : RHi K H h z π D) (u : hUpd H h c H') (hc : c = hiCell h (nI z')) : RHi K H' h z' π D := by
  subst hc
  obtain ⟨h1, ⟨g, h2, h3⟩, h4⟩ := r
  exact ⟨u.2.1, ⟨g, (u.2.2 _ (by omega)).trans h2, h3⟩, fun i hi => (h4 i hi).fr u.fr (by omega)⟩
set_option maxRecDepth 100000 in
set_option maxHeartbeats 4000000 in
theorem c_Hi_record {K : hK} {H : hAH} {h z s n : Nat} {π : Nat → Nat} {D : Nat → Nat → Nat → Int32} {S : Nat → Nat → Int32} (hR : RHi K H h z π D) (hp : hPm π) (hz : z ≤ 4) (hO : RSt K H s S) (hS : SOk S n) (hd : s + 27 ≤ h ∨ h + 110 ≤ s) : hCT K M_Hi_record [.ref h, .ref s] H 0 0 (fun r H' => r = none ∧ (∃ S' π', cpRel S n S' ∧ π' = (if z = 4 then rot π else π) ∧ RHi K H' h (if z = 4 then 4 else z + 1) π' (hiD D (π' (if z = 4 then 3 else z)) S')) ∧ hFr h (h + 110) H H') := by
  refine hCT.go (okc_Hi_record K _ _) [17] 60 (by decide +kernel) rfl rfl ?_
  have key : ∀ (H1 : hAH) (π1 : Nat → Nat) (y : Nat), y < 4 → RHi K H1 h y π1 D → hPm π1 → hFr h (h + 110) H H1 → hJ K M_Hi_record (0, 0) (fun r H' => r = none ∧ (∃ S', cpRel S n S' ∧ RHi K H' h (y + 1) π1 (hiD D (π1 y) S')) ∧ hFr h (h + 110) H H') 17 (0, 0) [some (.ref h), some (.ref s), none] [] H1 := by
    intro H1 π1 y hy hR1 hp1 hf
    have hO1 := hO.fr hf (by omega)
    have hpy := hp1.1 y hy
    refine hGo_sound (okc_Hi_record K _ _) [] 60 _ _ _ _ _ ?_
    refine ⟨_, hR1.1, _, hR1.1, _, c_Hi_at hR1 hy, ?_⟩
    rintro _ _ ⟨rfl, rfl⟩
    refine ⟨_, (hR1.2.2 _ hpy).1, _, c_copyFrom (hR1.2.2 _ hpy) hO1 hS (by omega), ?_⟩
    rintro _ H2 ⟨rfl, ⟨S', hS', hc⟩, f2⟩
    have hR2 := hR1.st hpy hS' f2
    refine ⟨_, hR2.1, _, hR2.1, trivial, fun H3 u3 => ?_⟩
    refine ⟨rfl, ⟨S', hc, hR2.size u3 ?_⟩, (hf.trans (f2.wide (by omega) (by omega))).trans (u3.fr' (by omega) (by omega))⟩
    show hiCell h (nI y + 1) = _
    rw [nI_1]
  refine ⟨_, hR.1, fun hlt => ?_, fun hge => ?_⟩
  · have hz4 : z < 4 := by
      refine Nat.lt_of_not_le fun q => ?_
      exact nI_nlt (b := 4) q (by omega) hlt
    refine (key H π z hz4 hR hp hFr.rfl).imp ?_
    rintro r H' ⟨a1, ⟨S', a2, a3⟩, a4⟩
    rw [if_neg (by omega), if_neg (by omega), if_neg (by omega)]
    exact ⟨a1, ⟨S', π, a2, rfl, a3⟩, a4⟩
  · have hz4 : z = 4 := by
      refine Nat.le_antisymm hz (Nat.le_of_not_lt fun q => hge ?_)
      exact nI_lt (b := 4) q (by omega)
    refine ⟨_, hR.1, _, c_Hi_move hR hp, ?_⟩
    rintro _ H1 ⟨rfl, hR1, f1⟩
    refine ⟨_, hR1.1, trivial, fun H2 u2 => ?_⟩
    refine (key H2 (rot π) 3 (by decide) (hR1.size u2 rfl) hp.rotd ((f1.wide (by omega) (by omega)).trans (u2.fr' (by omega) (by omega)))).imp ?_
    rintro r H' ⟨a1, ⟨S', a2, a3⟩, a4⟩
    rw [if_pos hz4, if_pos hz4, if_pos hz4]
    exact ⟨a1, ⟨S', _, a2, rfl, a3⟩, a4⟩
set_option maxRecDepth 100000 in
set_option maxHeartbeats 4000000 in
theorem c_Hi_takeBack {K : hK} {H : hAH} {h z s n : Nat} {π : Nat → Nat} {D : Nat → Nat → Nat → Int32} {S : Nat → Nat → Int32} (hR : RHi K H h (z + 1) π D) (hp : hPm π) (hz : z < 4) (hO : RSt K H s S) (hS : SOk (D (π z)) n) (hd : s + 27 ≤ h ∨ h + 110 ≤ s) : hCT K M_Hi_takeBack [.ref h, .ref s] H 0 0 (fun r H' => r = none ∧ RHi K H' h z π D ∧ (∃ S', RSt K H' s S' ∧ cpRel (D (π z)) n S') ∧ H'.1 = H.1 ∧ ∀ q, (q < s ∨ s + 27 ≤ q) → q ≠ h → H'.2 q = H.2 q) := by
  refine hCT.go (okc_Hi_takeBack K _ _) [] 60 (by decide +kernel) rfl rfl ?_
  have hpz := hp.1 z hz
  refine ⟨_, hR.1, _, hR.1, _, (nI_pred z).symm ▸ c_Hi_at hR hz, ?_⟩
  rintro _ _ ⟨rfl, rfl⟩
  refine ⟨_, hO.1, _, c_copyFrom hO (hR.2.2 _ hpz) hS (by omega), ?_⟩
  rintro _ H2 ⟨rfl, ⟨S', hS', hc⟩, f2⟩
  have hR2 := hR.fr f2 (by omega)
  refine ⟨_, hR2.1, _, hR2.1, trivial, fun H3 u3 => ?_⟩
  refine ⟨rfl, hR2.size u3 ?_, ⟨S', hS'.fr u3.fr (by omega), hc⟩, u3.1.trans f2.1, fun q h1 h2 => (u3.2.2 q h2).trans (f2.2 q h1)⟩
  show hiCell h (nI (z + 1) - 1) = _
  rw [nI_pred]
