/-! the search: its picture, its notes, its rounds -/
def seCell (a : Nat) (lr : Int32) : va_E := hObj 3 [.ref (a + 1), .int lr, .ref (a + 2), .ref (a + 3), .ref (a + 4), .ref (a + 5), .ref (a + 6)]
def RSe (K : hK) (H : hAH) (a : Nat) (lr : Int32) (Z : Nat → Nat → Int32) : Prop := H.2 a = some (seCell a lr) ∧ H.2 (a + 1) = some (hInts K 0 14 (Z 0)) ∧ ∀ i, i < 5 → H.2 (a + 2 + i) = some (hInts K 0 12 (Z (i + 1)))
def zUp (Z : Nat → Nat → Int32) (i : Nat) (f : Nat → Int32) : Nat → Nat → Int32 := fun r => if r = i then f else Z r
theorem RSe.arr {K : hK} {H H' : hAH} {a i : Nat} {lr : Int32} {Z : Nat → Nat → Int32} {f : Nat → Int32} (h : RSe K H a lr Z) (hi : i < 5) (u : hUpd H (a + 2 + i) (hInts K 0 12 f) H') : RSe K H' a lr (zUp Z (i + 1) f) := by
  refine ⟨(u.2.2 _ (by omega)).trans h.1, ?_, fun j hj => ?_⟩
  · rw [u.2.2 _ (by omega), h.2.1]; rfl
  · unfold zUp
    by_cases e : j = i
    · subst e; rw [if_pos rfl]; exact u.2.1
    · rw [if_neg (by omega), u.2.2 _ (by omega)]; exact h.2.2 j hj
theorem RSe.aw {K : hK} {H H' : hAH} {a : Nat} {lr : Int32} {Z : Nat → Nat → Int32} {f : Nat → Int32} (h : RSe K H a lr Z) (u : hUpd H (a + 1) (hInts K 0 14 f) H') : RSe K H' a lr (zUp Z 0 f) := by
  refine ⟨(u.2.2 _ (by omega)).trans h.1, u.2.1, fun j hj => ?_⟩
  unfold zUp
  rw [if_neg (by omega), u.2.2 _ (by omega)]
  exact h.2.2 j hj
theorem RSe.lr {K : hK} {H H' : hAH} {a : Nat} {lr lr' : Int32} {Z : Nat → Nat → Int32} {c : va_E} (h : RSe K H a lr Z) (u : hUpd H a c H') (hc : c = seCell a lr') : RSe K H' a lr' Z := by
  subst hc
  exact ⟨u.2.1, (u.2.2 _ (by omega)).trans h.2.1, fun j hj => (u.2.2 _ (by omega)).trans (h.2.2 j hj)⟩
theorem RSe.fr {K : hK} {H H' : hAH} {a lo hi : Nat} {lr : Int32} {Z : Nat → Nat → Int32} (h : RSe K H a lr Z) (f : hFr lo hi H H') (hd : hi ≤ a ∨ a + 7 ≤ lo) : RSe K H' a lr Z :=
  ⟨(f.2 _ (by omega)).trans h.1, (f.2 _ (by omega)).trans h.2.1, fun j hj => (f.2 _ (by omega)).trans (h.2.2 j hj)⟩
set_option maxRecDepth 100000 in
set_option maxHeartbeats 4000000 in
theorem c_Se_tell {K : hK} {H : hAH} {a k : Nat} {lr : Int32} {Z : Nat → Nat → Int32} (hR : RSe K H a lr Z) (hk : k < 12) (w : Int32) : hCT K M_Se_tell [.ref a, .int (nI k), .int w] H 0 0 (fun r H' => r = some (.int (if ¬ w = 0 ∧ Z 1 k = 0 then -5 else if w = 0 then Z 1 k else if w = 1 then Z 2 k else if w = 2 then Z 3 k else if w = 3 then Z 4 k else if w = 4 then Z 5 k else -2)) ∧ H' = H) := by
  obtain ⟨h1, h2, h3⟩ := hR
  refine hCT.go (okc_Se_tell K _ _) [] 60 (by decide +kernel) rfl rfl ?_
  have tab : ∀ (P : Prop), (Z 1 k = 0 → w = 0) → ((if ¬ w = 0 ∧ Z 1 k = 0 then (-5 : Int32) else if w = 0 then Z 1 k else if w = 1 then Z 2 k else if w = 2 then Z 3 k else if w = 3 then Z 4 k else if w = 4 then Z 5 k else -2) = if w = 0 then Z 1 k else if w = 1 then Z 2 k else if w = 2 then Z 3 k else if w = 3 then Z 4 k else if w = 4 then Z 5 k else -2) := fun P h => by
    rw [if_neg (fun q => q.1 (h q.2))]
  refine ⟨fun h => absurd h (nI_pos (by omega)), fun _ => ⟨fun _ => ?_, fun h => absurd (nI_lt (b := 12) hk (by omega)) h⟩⟩
  refine ⟨_, h1, 12, _, k, Or.inl (h3 0 (by decide)), rfl, hk, by decide, fun hw0 => ?_, fun hw0 => ⟨fun hz => ?_, fun hz => ⟨trivial, ?_, rfl⟩⟩⟩
  · rw [tab True (fun _ => hw0)]
    refine ⟨fun _ => ⟨trivial, by rw [if_pos hw0], rfl⟩, fun q => absurd hw0 q⟩
  · rw [tab True (fun q => absurd q hz)]
    refine ⟨fun q => absurd q hw0, fun _ => ⟨fun h1' => ?_, fun n1 => ⟨fun h2' => ?_, fun n2 => ⟨fun h3' => ?_, fun n3 => ⟨fun h4' => ?_, fun n4 => ?_⟩⟩⟩⟩⟩
    · exact ⟨_, h1, 12, _, k, Or.inl (h3 1 (by decide)), rfl, hk, by decide, trivial, by rw [if_neg hw0, if_pos h1'], rfl⟩
    · exact ⟨_, h1, 12, _, k, Or.inl (h3 2 (by decide)), rfl, hk, by decide, trivial, by rw [if_neg hw0, if_neg n1, if_pos h2'], rfl⟩
    · exact ⟨_, h1, 12, _, k, Or.inl (h3 3 (by decide)), rfl, hk, by decide, trivial, by rw [if_neg hw0, if_neg n1, if_neg n2, if_pos h3'], rfl⟩
    · exact ⟨_, h1, 12, _, k, Or.inl (h3 4 (by decide)), rfl, hk, by decide, trivial, by rw [if_neg hw0, if_neg n1, if_neg n2, if_neg n3, if_pos h4'], rfl⟩
    · exact ⟨trivial, by rw [if_neg hw0, if_neg n1, if_neg n2, if_neg n3, if_neg n4], rfl⟩
  · rw [if_pos ⟨hw0, hz⟩]
/-! begin -/
def bgP (Z : Nat → Nat → Int32) (N i : Nat) (Z' : Nat → Nat → Int32) : Prop := Z' 0 = upd (Z 0) 0 (nI N) ∧ ∀ k, k < i → Z' 1 k = b2i (N.testBit k) ∧ Z' 2 k = 0 ∧ Z' 3 k = -5 ∧ Z' 4 k = 1 ∧ Z' 5 k = nI k
theorem upd_s {f : Nat → Int32} {k : Nat} {x : Int32} : upd f k x k = x := if_pos rfl
theorem upd_n {f : Nat → Int32} {k j : Nat} {x : Int32} (h : j ≠ k) : upd f k x j = f j := if_neg h
theorem zUp_s {Z : Nat → Nat → Int32} {i : Nat} {f : Nat → Int32} : zUp Z i f i = f := if_pos rfl
theorem zUp_n {Z : Nat → Nat → Int32} {i j : Nat} {f : Nat → Int32} (h : j ≠ i) : zUp Z i f j = Z j := if_neg h
set_option maxRecDepth 100000 in
set_option maxHeartbeats 4000000 in
theorem l_Se_begin {K : hK} {H : hAH} {a N : Nat} {lr : Int32} {Z : Nat → Nat → Int32} : ∀ (m i : Nat) (w : Int32) (l3 : Option Value) (Hc : hAH) (Zc : Nat → Nat → Int32), i + m = 12 → w = nI i → RSe K Hc a lr Zc → bgP Z N i Zc → hFr a (a + 7) H Hc →
    hJ K M_Se_begin (0, 0) (fun r H' => r = none ∧ (∃ Z', RSe K H' a lr Z' ∧ bgP Z N 12 Z') ∧ hFr a (a + 7) H H') 9 (0, 0) [some (.ref a), some (.int (nI N)), some (.int w), l3] [] Hc := by
  intro m
  induction m with
  | zero =>
    intro i w l3 Hc Zc hi hw hR hb hf
    refine hGo_sound (okc_Se_begin K _ _) [9] 80 _ _ _ _ _ ?_
    refine ⟨fun _ => ⟨rfl, ⟨Zc, hR, by rw [show i = 12 by omega] at hb; exact hb⟩, hf⟩, fun h => ?_⟩
    exact absurd (by rw [hw]; exact nI_le (a := 12) (by omega) (by omega)) h
  | succ m ih =>
    intro i w l3 Hc Zc hi hw hR hb hf
    have J35 : ∀ x : Int32, x = b2i (N.testBit i) → hJ K M_Se_begin (0, 0) (fun r H' => r = none ∧ (∃ Z', RSe K H' a lr Z' ∧ bgP Z N 12 Z') ∧ hFr a (a + 7) H H') 35 (0, 0) [some (.ref a), some (.int (nI N)), some (.int w), some (.int (b2i (N.testBit i)))] [.int x, .int w, .ref (a + 2)] Hc := by
      intro x hx
      refine hGo_sound (okc_Se_begin K _ _) [9] 60 _ _ _ _ _ ?_
      refine ⟨12, _, i, hR.2.2 0 (by decide), hw, by omega, by decide, fun H1 u1 => ?_⟩
      have hR1 := hR.arr (i := 0) (by decide) u1
      refine ⟨_, hR1.1, 12, _, i, hR1.2.2 1 (by decide), hw, by omega, by decide, fun H2 u2 => ?_⟩
      have hR2 := hR1.arr (i := 1) (by decide) u2
      refine ⟨_, hR2.1, 12, _, i, hR2.2.2 2 (by decide), hw, by omega, by decide, fun H3 u3 => ?_⟩
      have hR3 := hR2.arr (i := 2) (by decide) u3
      refine ⟨_, hR3.1, 12, _, i, hR3.2.2 3 (by decide), hw, by omega, by decide, fun H4 u4 => ?_⟩
      have hR4 := hR3.arr (i := 3) (by decide) u4
      refine ⟨_, hR4.1, 12, _, i, hR4.2.2 4 (by decide), hw, by omega, by decide, fun H5 u5 => ?_⟩
      have hR5 := hR4.arr (i := 4) (by decide) u5
      refine ih (i + 1) _ _ _ _ (by omega) (by rw [hw, nI_1]) hR5 ⟨hb.1, fun k hk => ?_⟩ (((((hf.trans (u1.fr' (by omega) (by omega))).trans (u2.fr' (by omega) (by omega))).trans (u3.fr' (by omega) (by omega))).trans (u4.fr' (by omega) (by omega))).trans (u5.fr' (by omega) (by omega)))
      by_cases e : k = i
      · subst e
        exact ⟨upd_s.trans hx, upd_s, upd_s, upd_s, upd_s.trans hw⟩
      · obtain ⟨b1, b2, b3, b4, b5⟩ := hb.2 k (by omega)
        exact ⟨(upd_n e).trans b1, (upd_n e).trans b2, (upd_n e).trans b3, (upd_n e).trans b4, (upd_n e).trans b5⟩
    refine hGo_sound (okc_Se_begin K _ _) [9, 35] 60 _ _ _ _ _ ?_
    refine ⟨fun h => absurd (by rw [hw] at h; exact h) (nI_ge (b := 12) (by omega) (by omega)), fun _ => ⟨_, hw ▸ c_isIn K Hc N (k := i) (by omega), ?_⟩⟩
    rintro _ Hc ⟨rfl, rfl⟩
    refine ⟨_, hR.1, fun h => ?_, fun h => ?_⟩
    · exact J35 0 h.symm
    · exact J35 1 (by rw [b2i_n0.mp h]; rfl)
set_option maxRecDepth 100000 in
set_option maxHeartbeats 4000000 in
theorem c_Se_begin {K : hK} {H : hAH} {a N : Nat} {lr : Int32} {Z : Nat → Nat → Int32} (hR : RSe K H a lr Z) : hCT K M_Se_begin [.ref a, .int (nI N)] H 0 0 (fun r H' => r = none ∧ (∃ Z', RSe K H' a lr Z' ∧ bgP Z N 12 Z') ∧ hFr a (a + 7) H H') := by
  refine hCT.go (okc_Se_begin K _ _) [9] 60 (by decide +kernel) rfl rfl ?_
  refine ⟨_, hR.1, 14, _, 0, hR.2.1, rfl, by decide, by decide, fun H1 u1 => ?_⟩
  exact l_Se_begin 12 0 _ _ H1 _ (by omega) rfl (hR.aw u1) ⟨rfl, fun k hk => absurd hk (Nat.not_lt_zero k)⟩ (u1.fr' (by omega) (by omega))
/-! a note -/
def ntP (Z : Nat → Nat → Int32) (k : Nat) (r : Int32) (ρ : Nat) (b : Int32) (Z' : Nat → Nat → Int32) : Prop := Z' 0 = Z 0 ∧ (∀ i j, j ≠ k → Z' i j = Z i j) ∧ Z' 1 k = r ∧ Z' 2 k = nI ρ ∧ Z' 3 k = b ∧ (b < 0 → Z' 4 k = Z 4 k ∧ Z' 5 k = Z 5 k) ∧ ∀ j, j < 12 → b = nI j → Z' 4 k = Z 4 j + 1 ∧ Z' 5 k = Z 5 j
set_option maxRecDepth 100000 in
set_option maxHeartbeats 4000000 in
theorem c_Se_note {K : hK} {H : hAH} {a k ρ A su : Nat} {lr r : Int32} {Z : Nat → Nat → Int32} (hR : RSe K H a lr Z) (hk : k < 12) (h1 : 1 ≤ ρ) (h2 : ρ < 14) (hA : Z 0 (ρ - 1) = nI A) (hA2 : A < 4096) : hCT K M_Se_note [.ref a, .int (nI k), .int r, .int (nI ρ), .int (nI su)] H 0 0 (fun rr H' => rr = none ∧ (∃ Z', RSe K H' a lr Z' ∧ ntP Z k r ρ (lowest (su &&& A).testBit 12 0) Z') ∧ hFr a (a + 7) H H') := by
  refine hCT.go (okc_Se_note K _ _) [] 120 (by decide +kernel) rfl rfl ?_
  refine ⟨fun h => absurd h (nI_pos (by omega)), fun _ => ⟨fun h => absurd h (nI_ge (b := 12) (by omega) (by omega)), fun _ => ⟨fun h => absurd h (nI_nlt (b := 1) (by omega) (by omega)), fun _ => ⟨_, hR.1, 14, Or.inl ⟨0, _, by decide, hR.2.1⟩, fun _ => ?_, fun h => absurd (nI_lt (b := 14) h2 (by omega)) h⟩⟩⟩⟩
  refine ⟨_, hR.1, 12, _, k, hR.2.2 0 (by decide), rfl, hk, by decide, fun H1 u1 => ?_⟩
  have hR1 := hR.arr (i := 0) (by decide) u1
  refine ⟨_, hR1.1, 12, _, k, hR1.2.2 1 (by decide), rfl, hk, by decide, fun H2 u2 => ?_⟩
  have hR2 := hR1.arr (i := 1) (by decide) u2
  have hsub : nI ρ - nI 1 = nI (ρ - 1) := isub h1
  have hz0 : ∀ (Z1 : Nat → Nat → Int32), Z1 0 = Z 0 → nI su &&& Z1 0 (ρ - 1) = nI (su &&& A) := fun Z1 e => by rw [e, hA, nI_and]
  refine ⟨_, hR2.1, 14, _, ρ - 1, Or.inl hR2.2.1, hsub, by omega, by decide, ?_⟩
  have hlt : su &&& A < 4096 := Nat.lt_of_le_of_lt Nat.and_le_right hA2
  refine ⟨_, (hz0 _ rfl) ▸ c_lowestOf K H2 hlt, ?_⟩
  rintro _ _ ⟨rfl, rfl⟩
  refine ⟨_, hR2.1, 12, _, k, hR2.2.2 2 (by decide), rfl, hk, by decide, fun H3 u3 => ?_⟩
  have hR3 := hR2.arr (i := 2) (by decide) u3
  have f3 : hFr a (a + 7) H H3 := ((u1.fr' (by omega) (by omega)).trans (u2.fr' (by omega) (by omega))).trans (u3.fr' (by omega) (by omega))
  have hsp := lowest_spec (su &&& A).testBit 12 0 (by decide)
  refine ⟨fun hneg => ?_, fun hpos => ?_⟩
  · refine ⟨rfl, ⟨_, hR3, rfl, fun i j hj => ?_, upd_s, upd_s, upd_s, fun _ => ⟨rfl, rfl⟩, fun j hj e => ?_⟩, f3⟩
    · unfold zUp
      split
      · rename_i e; subst e; exact upd_n hj
      · split
        · rename_i e; subst e; exact upd_n hj
        · split
          · rename_i e; subst e; exact upd_n hj
          · rfl
    · rw [e] at hneg
      exact absurd hneg (nI_pos (by omega))
  · rcases hsp with ⟨e5, -⟩ | ⟨j, ej, -, hj, -, -⟩
    · rw [e5] at hpos
      exact absurd (by decide) hpos
    · have hj : j < 12 := by omega
      refine ⟨fun h => absurd (by rw [ej] at h; exact h) (nI_ge (b := 12) (by omega) (by omega)), fun _ => ?_⟩
      refine ⟨_, hR3.1, _, hR3.1, 12, _, j, Or.inl (hR3.2.2 3 (by decide)), ej, hj, by decide, 12, _, k, hR3.2.2 3 (by decide), rfl, hk, by decide, fun H4 u4 => ?_⟩
      have hR4 := hR3.arr (i := 3) (by decide) u4
      refine ⟨_, hR4.1, _, hR4.1, 12, _, j, Or.inl (hR4.2.2 4 (by decide)), ej, hj, by decide, 12, _, k, hR4.2.2 4 (by decide), rfl, hk, by decide, fun H5 u5 => ?_⟩
      have hR5 := hR4.arr (i := 4) (by decide) u5
      refine ⟨rfl, ⟨_, hR5, rfl, fun i q hq => ?_, upd_s, upd_s, upd_s, fun hn => ?_, fun q hq e => ?_⟩, (f3.trans (u4.fr' (by omega) (by omega))).trans (u5.fr' (by omega) (by omega))⟩
      · unfold zUp
        split
        · rename_i e; subst e; exact upd_n hq
        · split
          · rename_i e; subst e; exact upd_n hq
          · split
            · rename_i e; subst e; exact upd_n hq
            · split
              · rename_i e; subst e; exact upd_n hq
              · split
                · rename_i e; subst e; exact upd_n hq
                · rfl
      · exact absurd hn hpos
      · have : q = j := nI_inj (by omega) (by omega) (e.symm.trans ej)
        subst this
        exact ⟨upd_s, upd_s⟩
