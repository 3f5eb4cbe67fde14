/-! THE CLASS IS MADE -/
def hEx (lo hi : Nat) (H H' : hAH) : Prop := H'.1 = hi ∧ ∀ q, (q < lo ∨ hi ≤ q) → H'.2 q = H.2 q
theorem hEx.fr {lo hi : Nat} {H H' : hAH} (h : hEx lo hi H H') : hFr lo hi H (H.1, H'.2) := ⟨rfl, h.2⟩
theorem hEx.new {lo : Nat} {H H1 H2 : hAH} {c : va_E} (h : hEx lo H1.1 H H1) (hl : lo ≤ H1.1) (n : hNew H1 c H2) : hEx lo H2.1 H H2 := ⟨rfl, fun q hq => by
  have := n.1
  rw [n.2.2 q (by omega)]
  exact h.2 q (by omega)⟩
theorem hEx.upd {lo hi a : Nat} {H H1 H2 : hAH} {c : va_E} (h : hEx lo hi H H1) (u : hUpd H1 a c H2) (ha : lo ≤ a) (ha2 : a < hi) : hEx lo hi H H2 := ⟨u.1.trans h.1, fun q hq => by
  rw [u.2.2 q (by omega)]
  exact h.2 q hq⟩
theorem hEx.rfl {lo : Nat} {H : hAH} : hEx lo H.1 H H := ⟨Eq.refl _, fun _ _ => Eq.refl _⟩
theorem hEx.trans {lo lo1 h1 h2 : Nat} {H H1 H2 : hAH} (a : hEx lo h1 H H1) (b : hEx lo1 h2 H1 H2) (hl : lo ≤ lo1) (hh : h1 ≤ h2) : hEx lo h2 H H2 := ⟨b.1, fun q hq => by
  rw [b.2 q (by omega)]
  exact a.2 q (by omega)⟩
def z0 : Nat → Int32 := fun _ => 0
def gu0 : va_E := .inr (0, [.int 0, .int 0, .int 0, .int 0, .int 0, .int 0, .int 0, .int 0, .int 0, .null])
set_option maxRecDepth 100000 in
set_option maxHeartbeats 4000000 in
theorem c_Gu_init {K : hK} {H : hAH} {a : Nat} (h : H.2 a = some gu0) (hs : H.1 = a + 1) : hCT K M_Gu_init [.ref a] H 1 60 (fun r H' => r = none ∧ RGu K H' a z0 z0 ∧ hEx a (a + 2) H H') := by
  refine hCT.go (okc_Gu_init K _ _) [] 60 (by decide +kernel) rfl rfl ?_
  refine ⟨60, rfl, by decide, by decide, by decide, fun H1 n1 => ⟨_, (n1.2.2 a (by omega)).trans h, trivial, fun H2 u2 => ⟨rfl, ⟨?_, ?_⟩, ?_⟩⟩⟩
  · rw [u2.2.1, hs]
    rfl
  · rw [u2.2.2 _ (by omega), ← hs]
    exact n1.2.1
  · have e := (hEx.rfl (lo := a)).new (by omega) n1
    have hH1 := n1.1
    rw [show a + 2 = H1.1 by omega]
    exact e.upd u2 (Nat.le_refl _) (by omega)
def setFi (k : Nat) : Int32 := if k = 0 then 10000 else if k = 1 then 500 else if k = 2 then 12 else if k = 3 then 10 else 200
def hSetF (K : hK) : Prop := K.2.2.2.2.2 (K.2.2.2.2.1 0) = some (5, setFi)
def grefI (s i : Nat) : Nat → Option Nat := fun j => if j < i then some (s + 3 + 2 * j) else none
def setI (i : Nat) : Nat → Int32 := fun j => if j < i then setFi j else 0
def st0 : va_E := .inr (4, [.null, .int 0, .null, .int 0, .int 0, .int 0, .int 0, .int 0, .int 0, .int 0])
def S0 : Nat → Nat → Int32 := fun r => if r = 1 then setI 5 else z0
theorem RGu.ex {K : hK} {H H' : hAH} {g lo hi : Nat} {G T : Nat → Int32} (h : RGu K H g G T) (f : hEx lo hi H H') (hd : hi ≤ g ∨ g + 2 ≤ lo) : RGu K H' g G T := RGu.fr (H' := (H.1, H'.2)) h f.fr hd
theorem RSt.ex {K : hK} {H H' : hAH} {s lo hi : Nat} {S : Nat → Nat → Int32} (h : RSt K H s S) (f : hEx lo hi H H') (hd : hi ≤ s ∨ s + 27 ≤ lo) : RSt K H' s S := RSt.fr (H' := (H.1, H'.2)) h f.fr hd
def stA (K : hK) (H0 : hAH) (s i : Nat) (H : hAH) : Prop := H.2 s = some (stCell s z0) ∧ H.2 (s + 1) = some (hRefs K 3 12 (grefI s i)) ∧ H.2 (s + 2) = some (hInts K 0 5 z0) ∧ (∀ k, k < i → RGu K H (s + 3 + 2 * k) z0 z0) ∧ H.1 = s + 3 + 2 * i ∧ hEx s (s + 3 + 2 * i) H0 H
def stB (K : hK) (H0 : hAH) (s i : Nat) (H : hAH) : Prop := H.2 s = some (stCell s z0) ∧ H.2 (s + 1) = some (hRefs K 3 12 (gref s)) ∧ H.2 (s + 2) = some (hInts K 0 5 (setI i)) ∧ (∀ k, k < 12 → RGu K H (s + 3 + 2 * k) z0 z0) ∧ H.1 = s + 27 ∧ hEx s (s + 27) H0 H
def stQ (K : hK) (H0 : hAH) (s : Nat) : hPost := fun r H' => r = none ∧ RSt K H' s S0 ∧ hEx s (s + 27) H0 H'
theorem setI_s (i : Nat) : upd (setI i) i (setFi i) = setI (i + 1) := by
  funext j
  unfold setI
  by_cases e : j = i
  · rw [e, upd_s, if_pos (by omega)]
  · rw [upd_n e]
    by_cases h : j < i
    · rw [if_pos h, if_pos (by omega)]
    · rw [if_neg h, if_neg (by omega)]
theorem grefI_s (s i : Nat) : va_up (grefI s i) i (some (s + 3 + 2 * i)) = grefI s (i + 1) := by
  funext j
  show (if j = i then some (s + 3 + 2 * i) else if j < i then some (s + 3 + 2 * j) else none) = if j < i + 1 then some (s + 3 + 2 * j) else none
  by_cases e : j = i
  · rw [if_pos e, if_pos (by omega), e]
  · rw [if_neg e]
    by_cases h : j < i
    · rw [if_pos h, if_pos (by omega)]
    · rw [if_neg h, if_neg (by omega)]
set_option maxRecDepth 100000 in
set_option maxHeartbeats 4000000 in
theorem l_St_initB {K : hK} {H0 : hAH} {s : Nat} (hF : hSetF K) : ∀ (m i : Nat) (w : Int32) (H : hAH), i + m = 5 → w = nI i → stB K H0 s i H → hJ K M_St_init (26, 857) (stQ K H0 s) 89 (26, 857) [some (.ref s), some (.int w)] [] H := by
  intro m
  induction m with
  | zero =>
    intro i w H hi hw h
    obtain rfl : i = 5 := by omega
    refine hGo_sound (okc_St_init K _ _) [89] 60 _ _ _ _ _ ?_
    refine ⟨fun _ => ⟨rfl, ⟨h.1, h.2.1, h.2.2.1, fun k hk => ?_⟩, h.2.2.2.2.2⟩, fun h => absurd (by rw [hw]; exact nI_le (a := 5) (by omega) (by omega)) h⟩
    have := h.2.2.2.1 k hk
    unfold S0
    rw [if_neg (by omega), if_neg (by omega)]
    exact this
  | succ m ih =>
    intro i w H hi hw h
    refine hGo_sound (okc_St_init K _ _) [89] 60 _ _ _ _ _ ?_
    refine ⟨fun h => absurd (by rw [hw] at h; exact h) (nI_ge (b := 5) (by omega) (by omega)), fun _ => ⟨_, h.1, 5, _, i, Or.inr hF, hw, by omega, by decide, 5, _, i, h.2.2.1, hw, by omega, by decide, fun H1 u1 => ?_⟩⟩
    refine ih (i + 1) _ H1 (by omega) (by rw [hw, nI_1]) ⟨(u1.2.2 _ (by omega)).trans h.1, (u1.2.2 _ (by omega)).trans h.2.1, ?_, fun k hk => (h.2.2.2.1 k hk).fr u1.fr (by omega), u1.1.trans h.2.2.2.2.1, h.2.2.2.2.2.upd u1 (by omega) (by omega)⟩
    rw [u1.2.1, setI_s]
set_option maxRecDepth 100000 in
set_option maxHeartbeats 4000000 in
theorem l_St_initA {K : hK} {H0 : hAH} {s : Nat} (hF : hSetF K) : ∀ (m i : Nat) (w : Int32) (H : hAH), i + m = 12 → w = nI i → stA K H0 s i H → hJ K M_St_init (26, 857) (stQ K H0 s) 62 (2 + 2 * i, 17 + 70 * i) [some (.ref s), some (.int w)] [] H := by
  intro m
  induction m with
  | zero =>
    intro i w H hi hw h
    obtain rfl : i = 12 := by omega
    refine hGo_sound (okc_St_init K _ _) [62, 89] 60 _ _ _ _ _ ?_
    refine ⟨fun _ => ?_, fun h => absurd (by rw [hw]; exact nI_le (a := 12) (by omega) (by omega)) h⟩
    exact l_St_initB hF 5 0 _ H (by decide) rfl ⟨h.1, h.2.1, h.2.2.1, h.2.2.2.1, h.2.2.2.2.1, h.2.2.2.2.2⟩
  | succ m ih =>
    intro i w H hi hw h
    obtain ⟨h1, h2, h3, h4, h5, h6⟩ := h
    rcases H with ⟨hs, hf⟩
    obtain rfl : hs = s + 3 + 2 * i := h5
    refine hGo_sound (okc_St_init K _ _) [62, 89] 60 _ _ _ _ _ ?_
    refine ⟨fun h => absurd (by rw [hw] at h; exact h) (nI_ge (b := 12) (by omega) (by omega)), fun _ => ⟨_, h1, ?_, ?_, fun H1 n1 => ?_⟩⟩
    · show 2 + 2 * i + 1 ≤ 26; omega
    · show 17 + 70 * i + 10 ≤ 857; omega
    · have hs1 : H1.1 = s + 3 + 2 * i + 1 := n1.1
      have e1 : hEx s (s + 3 + 2 * i + 1) H0 H1 := hs1 ▸ h6.new (H1 := (s + 3 + 2 * i, hf)) (show s ≤ s + 3 + 2 * i by omega) n1
      have o1 : ∀ q, q < s + 3 + 2 * i → H1.2 q = hf q := fun q hq => n1.2.2 q (show q ≠ s + 3 + 2 * i by omega)
      refine ⟨1, 60, _, c_Gu_init (a := s + 3 + 2 * i) n1.2.1 hs1, ?_, ?_, ?_⟩
      · show 2 + 2 * i + 1 + 1 ≤ 26; omega
      · show 17 + 70 * i + 10 + 60 ≤ 857; omega
      · rintro _ H2 ⟨rfl, hg, e2⟩
        have o2 : ∀ q, q < s + 3 + 2 * i → H2.2 q = hf q := fun q hq => (e2.2 q (Or.inl hq)).trans (o1 q hq)
        refine ⟨12, _, i, _, (o2 _ (by omega)).trans h2, hg.1, hw, by omega, by decide, fun H3 u3 => ?_⟩
        have e3 : hEx s (s + 3 + 2 * i + 2) H0 H2 := e1.trans e2 (by omega) (by omega)
        have o3 : ∀ q, q < s + 3 + 2 * i → q ≠ s + 1 → H3.2 q = hf q := fun q hq hn => (u3.2.2 q hn).trans (o2 q hq)
        refine ih (i + 1) _ H3 (by omega) (by rw [hw, nI_1]) ⟨(o3 _ (by omega) (by omega)).trans h1, ?_, (o3 _ (by omega) (by omega)).trans h3, fun k hk => ?_, u3.1.trans e2.1, e3.upd u3 (by omega) (by omega)⟩
        · rw [u3.2.1, grefI_s]
        · by_cases e : k = i
          · rw [e]; exact hg.fr u3.fr (by omega)
          · exact ⟨(o3 _ (by omega) (by omega)).trans (h4 k (by omega)).1, (o3 _ (by omega) (by omega)).trans (h4 k (by omega)).2⟩
set_option maxRecDepth 100000 in
set_option maxHeartbeats 4000000 in
theorem c_St_init {K : hK} {H : hAH} {s : Nat} (hF : hSetF K) (h : H.2 s = some st0) (hs : H.1 = s + 1) : hCT K M_St_init [.ref s] H 26 857 (stQ K H s) := by
  refine hCT.go (okc_St_init K _ _) [62] 90 (by decide +kernel) rfl rfl ?_
  rcases H with ⟨hs', hf⟩
  obtain rfl : hs' = s + 1 := hs
  refine ⟨12, rfl, by decide, by decide, by decide, fun H1 n1 => ⟨_, (n1.2.2 s (show s ≠ s + 1 by omega)).trans h, trivial, fun H2 u2 => ⟨_, u2.2.1, trivial, fun H3 u3 => ?_⟩⟩⟩
  have hs3 : H3.1 = s + 2 := u3.1.trans (u2.1.trans n1.1)
  rcases H3 with ⟨hs', hf3⟩
  obtain rfl : hs' = s + 2 := hs3
  refine ⟨5, rfl, by decide, by decide, by decide, fun H4 n4 => ⟨_, (n4.2.2 s (show s ≠ s + 2 by omega)).trans u3.2.1, trivial, fun H5 u5 => ⟨_, u5.2.1, trivial, fun H6 u6 => ⟨_, u6.2.1, Or.inl rfl, fun H7 u7 => ⟨_, u7.2.1, trivial, fun H8 u8 => ⟨_, u8.2.1, trivial, fun H9 u9 => ⟨_, u9.2.1, trivial, fun H10 u10 => ⟨_, u10.2.1, trivial, fun H11 u11 => ⟨_, u11.2.1, trivial, fun H12 u12 => ?_⟩⟩⟩⟩⟩⟩⟩⟩⟩
  have f : hFr s (s + 1) H4 H12 := ((((((u5.fr.trans u6.fr).trans u7.fr).trans u8.fr).trans u9.fr).trans u10.fr).trans u11.fr).trans u12.fr
  have f3 : hFr s (s + 1) H1 (s + 2, hf3) := u2.fr.trans u3.fr
  have hs4 : H4.1 = s + 3 := n4.1
  refine l_St_initA hF 12 0 _ H12 (by decide) rfl ⟨u12.2.1, ?_, ?_, fun k hk => absurd hk (Nat.not_lt_zero k), f.1.trans hs4, ⟨f.1.trans hs4, fun q hq => ?_⟩⟩
  · rw [f.2 _ (by omega), n4.2.2 _ (show s + 1 ≠ s + 2 by omega)]
    refine (f3.2 (s + 1) (by omega)).trans (n1.2.1.trans ?_)
    congr 2
  · rw [f.2 _ (by omega)]
    exact n4.2.1
  · rw [f.2 _ (by omega), n4.2.2 _ (show q ≠ s + 2 by omega)]
    exact (f3.2 q (by omega)).trans (n1.2.2 q (show q ≠ s + 1 by omega))
