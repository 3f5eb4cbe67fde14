/-! THE CLASS IS MADE: the history, the reader, the search, all -/
def hi0 : va_E := .inr (1, [.null, .int 0])
def re0 : va_E := .inr (2, [.null, .int 0, .int 0, .int 0, .int 0, .int 0, .int 0])
def se0 : va_E := .inr (3, [.null, .int 0, .null, .null, .null, .null, .null])
def hiA (K : hK) (H0 : hAH) (h i : Nat) (H : hAH) : Prop := H.2 h = some (hiCell h 0) ∧ (∃ f, H.2 (h + 1) = some (hRefs K 4 4 f) ∧ ∀ k, k < i → f k = some (h + 2 + 27 * k)) ∧ (∀ k, k < i → RSt K H (h + 2 + 27 * k) S0) ∧ H.1 = h + 2 + 27 * i ∧ hEx h (h + 2 + 27 * i) H0 H
def hiQ (K : hK) (H0 : hAH) (h : Nat) : hPost := fun r H' => r = none ∧ RHi K H' h 0 id (fun _ => S0) ∧ hEx h (h + 110) H0 H'
set_option maxRecDepth 100000 in
set_option maxHeartbeats 4000000 in
theorem l_Hi_init {K : hK} {H0 : hAH} {h : Nat} (hF : hSetF K) : ∀ (m i : Nat) (w : Int32) (H : hAH), i + m = 4 → w = nI i → hiA K H0 h i H → hJ K M_Hi_init (109, 3472) (hiQ K H0 h) 19 (1 + 27 * i, 4 + 867 * i) [some (.ref h), some (.int w)] [] H := by
  intro m
  induction m with
  | zero =>
    intro i w H hi hw hh
    obtain rfl : i = 4 := by omega
    refine hGo_sound (okc_Hi_init K _ _) [19] 60 _ _ _ _ _ ?_
    refine ⟨fun _ => ⟨rfl, ⟨hh.1, hh.2.1, hh.2.2.1⟩, hh.2.2.2.2⟩, fun h => absurd (by rw [hw]; exact nI_le (a := 4) (by omega) (by omega)) h⟩
  | succ m ih =>
    intro i w H hi hw hh
    obtain ⟨h1, ⟨f, h2, h3⟩, h4, h5, h6⟩ := hh
    rcases H with ⟨hs, hf⟩
    obtain rfl : hs = h + 2 + 27 * i := h5
    refine hGo_sound (okc_Hi_init K _ _) [19] 60 _ _ _ _ _ ?_
    refine ⟨fun h => absurd (by rw [hw] at h; exact h) (nI_ge (b := 4) (by omega) (by omega)), fun _ => ⟨_, h1, ?_, ?_, fun H1 n1 => ?_⟩⟩
    · show 1 + 27 * i + 1 ≤ 109; omega
    · show 4 + 867 * i + 10 ≤ 3472; omega
    · have hs1 : H1.1 = h + 2 + 27 * i + 1 := n1.1
      have e1 : hEx h (h + 2 + 27 * i + 1) H0 H1 := hs1 ▸ h6.new (H1 := (h + 2 + 27 * i, hf)) (show h ≤ h + 2 + 27 * i by omega) n1
      have o1 : ∀ q, q < h + 2 + 27 * i → H1.2 q = hf q := fun q hq => n1.2.2 q (show q ≠ h + 2 + 27 * i by omega)
      refine ⟨26, 857, _, c_St_init (s := h + 2 + 27 * i) hF n1.2.1 hs1, ?_, ?_, ?_⟩
      · show 1 + 27 * i + 1 + 26 ≤ 109; omega
      · show 4 + 867 * i + 10 + 857 ≤ 3472; omega
      · rintro _ H2 ⟨rfl, hg, e2⟩
        have o2 : ∀ q, q < h + 2 + 27 * i → H2.2 q = hf q := fun q hq => (e2.2 q (Or.inl hq)).trans (o1 q hq)
        refine ⟨4, f, i, _, (o2 _ (by omega)).trans h2, hg.1, hw, by omega, by decide, fun H3 u3 => ?_⟩
        have e3 : hEx h (h + 2 + 27 * i + 27) H0 H2 := e1.trans e2 (by omega) (by omega)
        have o3 : ∀ q, q < h + 2 + 27 * i → q ≠ h + 1 → H3.2 q = hf q := fun q hq hn => (u3.2.2 q hn).trans (o2 q hq)
        have ei : h + 2 + 27 * (i + 1) = h + 2 + 27 * i + 27 := by omega
        have := ih (i + 1) (w + 1) H3 (by omega) (by rw [hw, nI_1]) ⟨(o3 _ (by omega) (by omega)).trans h1, ⟨_, u3.2.1, fun k hk => ?_⟩, fun k hk => ?_, by rw [ei]; exact u3.1.trans e2.1, by rw [ei]; exact e3.upd u3 (by omega) (by omega)⟩
        · rw [show 1 + 27 * (i + 1) = 1 + 27 * i + 1 + 26 by omega, show 4 + 867 * (i + 1) = 4 + 867 * i + 10 + 857 by omega] at this
          exact this
        · show (if k = i then some (h + 2 + 27 * i) else f k) = _
          by_cases e : k = i
          · rw [if_pos e, e]
          · rw [if_neg e]; exact h3 k (by omega)
        · by_cases e : k = i
          · rw [e]; exact hg.fr u3.fr (by omega)
          · refine RSt.fr (H := H2) ?_ u3.fr (by omega)
            refine RSt.ex (H := H1) ?_ e2 (by omega)
            refine RSt.fr (H := (h + 2 + 27 * i, hf)) (H' := (h + 2 + 27 * i, H1.2)) (h4 k (by omega)) (lo := h + 2 + 27 * i) (hi := h + 2 + 27 * i + 1) ⟨rfl, fun q hq => n1.2.2 q (show q ≠ h + 2 + 27 * i by omega)⟩ (by omega)
set_option maxRecDepth 100000 in
set_option maxHeartbeats 4000000 in
theorem c_Hi_init {K : hK} {H : hAH} {h : Nat} (hF : hSetF K) (hc : H.2 h = some hi0) (hs : H.1 = h + 1) : hCT K M_Hi_init [.ref h] H 109 3472 (hiQ K H h) := by
  refine hCT.go (okc_Hi_init K _ _) [19] 90 (by decide +kernel) rfl rfl ?_
  rcases H with ⟨hs', hf⟩
  obtain rfl : hs' = h + 1 := hs
  refine ⟨4, rfl, by decide, by decide, by decide, fun H1 n1 => ⟨_, (n1.2.2 h (show h ≠ h + 1 by omega)).trans hc, trivial, fun H2 u2 => ⟨_, u2.2.1, trivial, fun H3 u3 => ?_⟩⟩⟩
  have f3 : hFr h (h + 1) H1 H3 := u2.fr.trans u3.fr
  have hs1 : H1.1 = h + 2 := n1.1
  refine l_Hi_init hF 4 0 _ H3 (by decide) rfl ⟨u3.2.1, ⟨_, (f3.2 _ (by omega)).trans n1.2.1, fun k hk => absurd hk (Nat.not_lt_zero k)⟩, fun k hk => absurd hk (Nat.not_lt_zero k), f3.1.trans hs1, f3.1.trans hs1, fun q hq => (f3.2 q (by omega)).trans (n1.2.2 q (show q ≠ h + 1 by omega))⟩
set_option maxRecDepth 100000 in
set_option maxHeartbeats 4000000 in
theorem c_Re_init {K : hK} {H : hAH} {a : Nat} (hc : H.2 a = some re0) (hs : H.1 = a + 1) : hCT K M_Re_init [.ref a] H 1 60 (fun r H' => r = none ∧ RRe K H' a (fun _ => 0) z0 ∧ hEx a (a + 2) H H') := by
  refine hCT.go (okc_Re_init K _ _) [] 90 (by decide +kernel) rfl rfl ?_
  rcases H with ⟨hs', hf⟩
  obtain rfl : hs' = a + 1 := hs
  refine ⟨60, rfl, by decide, by decide, by decide, fun H1 n1 => ⟨_, (n1.2.2 a (show a ≠ a + 1 by omega)).trans hc, trivial, fun H2 u2 => ⟨_, u2.2.1, trivial, fun H3 u3 => ⟨_, u3.2.1, trivial, fun H4 u4 => ⟨_, u4.2.1, trivial, fun H5 u5 => ⟨_, u5.2.1, trivial, fun H6 u6 => ⟨_, u6.2.1, trivial, fun H7 u7 => ⟨_, u7.2.1, trivial, fun H8 u8 => ?_⟩⟩⟩⟩⟩⟩⟩⟩
  have f : hFr a (a + 1) H1 H8 := (((((u2.fr.trans u3.fr).trans u4.fr).trans u5.fr).trans u6.fr).trans u7.fr).trans u8.fr
  have hs1 : H1.1 = a + 2 := n1.1
  exact ⟨rfl, ⟨u8.2.1, (f.2 _ (by omega)).trans n1.2.1⟩, f.1.trans hs1, fun q hq => (f.2 q (by omega)).trans (n1.2.2 q (show q ≠ a + 1 by omega))⟩
set_option maxRecDepth 100000 in
set_option maxHeartbeats 4000000 in
theorem c_Se_init {K : hK} {H : hAH} {a : Nat} (hc : H.2 a = some se0) (hs : H.1 = a + 1) : hCT K M_Se_init [.ref a] H 6 74 (fun r H' => r = none ∧ RSe K H' a 0 (fun _ => z0) ∧ hEx a (a + 7) H H') := by
  refine hCT.go (okc_Se_init K _ _) [] 90 (by decide +kernel) rfl rfl ?_
  rcases H with ⟨hs', hf⟩
  obtain rfl : hs' = a + 1 := hs
  refine ⟨14, rfl, by decide, by decide, by decide, fun H1 n1 => ⟨_, (n1.2.2 a (show a ≠ a + 1 by omega)).trans hc, trivial, fun H2 u2 => ⟨_, u2.2.1, trivial, fun H3 u3 => ?_⟩⟩⟩
  have z3 : H3.1 = a + 2 := u3.1.trans (u2.1.trans n1.1)
  rcases H3 with ⟨hs', f3⟩
  obtain rfl : hs' = a + 2 := z3
  refine ⟨12, rfl, by decide, by decide, by decide, fun H4 n4 => ⟨_, (n4.2.2 a (show a ≠ a + 2 by omega)).trans u3.2.1, trivial, fun H5 u5 => ?_⟩⟩
  have z5 : H5.1 = a + 3 := u5.1.trans n4.1
  rcases H5 with ⟨hs', f5⟩
  obtain rfl : hs' = a + 3 := z5
  refine ⟨12, rfl, by decide, by decide, by decide, fun H6 n6 => ⟨_, (n6.2.2 a (show a ≠ a + 3 by omega)).trans u5.2.1, trivial, fun H7 u7 => ?_⟩⟩
  have z7 : H7.1 = a + 4 := u7.1.trans n6.1
  rcases H7 with ⟨hs', f7⟩
  obtain rfl : hs' = a + 4 := z7
  refine ⟨12, rfl, by decide, by decide, by decide, fun H8 n8 => ⟨_, (n8.2.2 a (show a ≠ a + 4 by omega)).trans u7.2.1, trivial, fun H9 u9 => ?_⟩⟩
  have z9 : H9.1 = a + 5 := u9.1.trans n8.1
  rcases H9 with ⟨hs', f9⟩
  obtain rfl : hs' = a + 5 := z9
  refine ⟨12, rfl, by decide, by decide, by decide, fun HA nA => ⟨_, (nA.2.2 a (show a ≠ a + 5 by omega)).trans u9.2.1, trivial, fun HB uB => ?_⟩⟩
  have zB : HB.1 = a + 6 := uB.1.trans nA.1
  rcases HB with ⟨hs', fB⟩
  obtain rfl : hs' = a + 6 := zB
  refine ⟨12, rfl, by decide, by decide, by decide, fun HC nC => ⟨_, (nC.2.2 a (show a ≠ a + 6 by omega)).trans uB.2.1, trivial, fun HD uD => ?_⟩⟩
  have zD : HD.1 = a + 7 := uD.1.trans nC.1
  have oD : ∀ q, q ≠ a → q ≠ a + 6 → HD.2 q = fB q := fun q h1 h2 => (uD.2.2 q h1).trans (nC.2.2 q h2)
  have oB : ∀ q, q ≠ a → q ≠ a + 5 → fB q = f9 q := fun q h1 h2 => (uB.2.2 q h1).trans (nA.2.2 q h2)
  have o9 : ∀ q, q ≠ a → q ≠ a + 4 → f9 q = f7 q := fun q h1 h2 => (u9.2.2 q h1).trans (n8.2.2 q h2)
  have o7 : ∀ q, q ≠ a → q ≠ a + 3 → f7 q = f5 q := fun q h1 h2 => (u7.2.2 q h1).trans (n6.2.2 q h2)
  have o5 : ∀ q, q ≠ a → q ≠ a + 2 → f5 q = f3 q := fun q h1 h2 => (u5.2.2 q h1).trans (n4.2.2 q h2)
  have o3 : ∀ q, q ≠ a → q ≠ a + 1 → f3 q = hf q := fun q h1 h2 => ((u3.2.2 q h1).trans (u2.2.2 q h1)).trans (n1.2.2 q h2)
  refine ⟨rfl, ⟨uD.2.1, ?_, fun i hi => ?_⟩, zD, fun q hq => ?_⟩
  · rw [oD _ (by omega) (by omega), oB _ (by omega) (by omega), o9 _ (by omega) (by omega), o7 _ (by omega) (by omega), o5 _ (by omega) (by omega)]
    exact ((u3.2.2 _ (by omega)).trans (u2.2.2 _ (by omega))).trans n1.2.1
  · match i, hi with
    | 0, _ =>
      rw [oD _ (by omega) (by omega), oB _ (by omega) (by omega), o9 _ (by omega) (by omega), o7 _ (by omega) (by omega)]
      exact (u5.2.2 _ (by omega)).trans n4.2.1
    | 1, _ =>
      rw [oD _ (by omega) (by omega), oB _ (by omega) (by omega), o9 _ (by omega) (by omega)]
      exact (u7.2.2 _ (by omega)).trans n6.2.1
    | 2, _ =>
      rw [oD _ (by omega) (by omega), oB _ (by omega) (by omega)]
      exact (u9.2.2 _ (by omega)).trans n8.2.1
    | 3, _ =>
      rw [oD _ (by omega) (by omega)]
      exact (uB.2.2 _ (by omega)).trans nA.2.1
    | 4, _ => exact (uD.2.2 _ (by omega)).trans nC.2.1
  · rw [oD _ (by omega) (by omega), oB _ (by omega) (by omega), o9 _ (by omega) (by omega), o7 _ (by omega) (by omega), o5 _ (by omega) (by omega), o3 _ (by omega) (by omega)]
