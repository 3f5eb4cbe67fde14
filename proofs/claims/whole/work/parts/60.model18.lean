/-! THE REFERENCE: the text: characters, and over an atom -/
def pl (c : Nat → Int32) (p L : Nat) : Nat → Int32 := upd (upd c 3 (nI p)) 4 (nI L)
theorem pl_3 {c : Nat → Int32} {p L : Nat} : pl c p L 3 = nI p := by
  unfold pl
  rw [upd_n (by decide), upd_s]
theorem pl_4 {c : Nat → Int32} {p L : Nat} : pl c p L 4 = nI L := upd_s
theorem pl_p {c : Nat → Int32} {p L q : Nat} : upd (pl c p L) 3 (nI q) = pl c q L := by
  funext j
  unfold pl
  by_cases e : j = 3
  · rw [e, upd_s, upd_n (by decide), upd_s]
  · rw [upd_n e]
    by_cases e4 : j = 4
    · rw [e4, upd_s, upd_s]
    · rw [upd_n e4, upd_n e4, upd_n e, upd_n e]
theorem pl_L {c : Nat → Int32} {p L M : Nat} : upd (pl c p L) 4 (nI M) = pl c p M := by
  funext j
  unfold pl
  by_cases e4 : j = 4
  · rw [e4, upd_s, upd_s]
  · rw [upd_n e4, upd_n e4, upd_n e4]
theorem pl_i {c : Nat → Int32} {p L : Nat} (h3 : c 3 = nI p) (h4 : c 4 = nI L) : pl c p L = c := by
  funext j
  unfold pl
  by_cases e4 : j = 4
  · rw [e4, upd_s, h4]
  · rw [upd_n e4]
    by_cases e : j = 3
    · rw [e, upd_s, h3]
    · rw [upd_n e]
def tXo (c : Nat → Int32) (B : Nat → Nat → Int32) (tx : Nat → Nat) (len : Nat) : Prop := c 2 = nI len ∧ len ≤ 60 ∧ ∀ j, j < len → B 3 j = nI (tx j) ∧ tx j < 65536
theorem tXo.pl {c : Nat → Int32} {B : Nat → Nat → Int32} {tx : Nat → Nat} {len : Nat} (t : tXo c B tx len) (p L : Nat) : tXo (pl c p L) B tx len := by
  refine ⟨?_, t.2⟩
  show upd (upd c 3 (nI p)) 4 (nI L) 2 = _
  rw [upd_n (by decide), upd_n (by decide)]
  exact t.1
def chI (tx : Nat → Nat) (len p : Nat) : Int32 := if p < len then nI (tx p) else -1
def letAt (tx : Nat → Nat) (len p : Nat) : Bool := decide (p < len) && isLet (tx p)
def digAt (tx : Nat → Nat) (len p a b : Nat) : Bool := decide (p < len) && isDig (tx p) a b
theorem letAt_t {tx : Nat → Nat} {len p : Nat} (h : letAt tx len p = true) : p < len ∧ isLet (tx p) = true := by
  unfold letAt at h
  simpa using h
theorem digAt_t {tx : Nat → Nat} {len p a b : Nat} (h : digAt tx len p a b = true) : p < len ∧ isDig (tx p) a b = true := by
  unfold digAt at h
  simpa using h
theorem letAt_f {tx : Nat → Nat} {len p : Nat} (h : letAt tx len p = false) (hp : p < len) : isLet (tx p) = false := by
  unfold letAt at h
  rw [decide_eq_true hp] at h
  exact h
theorem digAt_f {tx : Nat → Nat} {len p a b : Nat} (h : digAt tx len p a b = false) (hp : p < len) : isDig (tx p) a b = false := by
  unfold digAt at h
  rw [decide_eq_true hp] at h
  exact h
theorem nI_nm1 {k : Nat} (hk : k < 65536) : nI k ≠ -1 := fun q => by
  have := nI_pos (n := k) (by omega)
  rw [q] at this
  exact absurd (by decide) this
theorem chI_eq {tx : Nat → Nat} {len p k : Nat} (t : ∀ j, j < len → tx j < 65536) (hk : k < 65536) : chI tx len p = nI k ↔ p < len ∧ tx p = k := by
  unfold chI
  by_cases hp : p < len
  · rw [if_pos hp, ieq (t p hp) hk]
    exact ⟨fun h => ⟨hp, h⟩, fun h => h.2⟩
  · rw [if_neg hp]
    exact ⟨fun h => absurd h.symm (nI_nm1 hk), fun h => absurd h.1 hp⟩
theorem chI_in {tx : Nat → Nat} {len p a b : Nat} (t : ∀ j, j < len → tx j < 65536) (ha : a < 65536) (hb : b < 65536) : decide (nI a ≤ chI tx len p ∧ chI tx len p ≤ nI b) = digAt tx len p a b := by
  unfold chI digAt isDig
  by_cases hp : p < len
  · have := t p hp
    rw [if_pos hp, decide_eq_true hp, Bool.true_and]
    rw [show (decide (nI a ≤ nI (tx p) ∧ nI (tx p) ≤ nI b)) = decide (a ≤ tx p ∧ tx p ≤ b) from decide_eq_decide.mpr (by rw [nI_leI (by omega) (by omega), nI_leI (by omega) (by omega)])]
    exact Bool.decide_and _ _
  · rw [if_neg hp, decide_eq_false hp, Bool.false_and]
    refine decide_eq_false fun q => ?_
    have h1 := nI_pos' (n := a) (by omega)
    exact absurd (Int32.le_trans h1 q.1) (by decide)
theorem letBit {t L : Nat} (h : isLet t = true) : nI L ||| ((1 : Int32) <<< ((nI t - 97) &&& 31)) = nI (L ||| 2 ^ (t - 97)) := by
  have hs := isLet_spec h
  rw [show (nI t - 97 : Int32) = nI (t - 97) from isub (n := 97) hs.1, shl_1 _ (by omega), nI_or]
section TXA
variable {K : hK} {H : hAH} {m len p L : Nat} {c : Nat → Int32} {B : Nat → Nat → Int32} {tx : Nat → Nat}
theorem RMo.inc {H' : hAH} (h : RMo K H m (pl c p L) B) (u : hUpd H m (moCell m (upd (pl c p L) 3 (pl c p L 3 + 1))) H') : RMo K H' m (pl c (p + 1) L) B := h.sc u (by rw [pl_3, nI_1, pl_p])
set_option maxRecDepth 100000 in
set_option maxHeartbeats 4000000 in
theorem c_Mo_charAt {w : Int32} (h : RMo K H m c B) (t : tXo c B tx len) (ew : w = nI p) (hp : p ≤ 60) : hCT K M_Mo_charAt [.ref m, .int w] H 0 0 (fun r H' => r = some (.int (chI tx len p)) ∧ H' = H) := by
  obtain ⟨t1, t2, t3⟩ := t
  refine hCT.go (okc_Mo_charAt K _ _) [] 40 (by decide +kernel) rfl rfl ?_
  refine ⟨_, h.1, fun q => ?_, fun q => ?_⟩
  · rw [t1, ew] at q
    have hz : ¬ p < len := fun z => nI_ge z (by omega) q
    exact ⟨trivial, by unfold chI; rw [if_neg hz], rfl⟩
  · rw [t1, ew] at q
    have hz : p < len := Nat.lt_of_not_le fun z => q (nI_le z (by omega))
    exact ⟨_, h.1, 60, _, p, Or.inl h.tx, ew, by omega, by decide, trivial, by unfold chI; rw [if_pos hz, (t3 p hz).1], rfl⟩
set_option maxRecDepth 100000 in
set_option maxHeartbeats 4000000 in
theorem c_Mo_isLetter (h : RMo K H m c B) (t : tXo c B tx len) (e3 : c 3 = nI p) (hp : p ≤ 60) : hCT K M_Mo_isLetter [.ref m] H 0 0 (fun r H' => r = some (.int (b2i (letAt tx len p))) ∧ H' = H) := by
  obtain ⟨t1, t2, t3⟩ := t
  refine hCT.go (okc_Mo_isLetter K _ _) [] 60 (by decide +kernel) rfl rfl ?_
  refine ⟨_, h.1, _, h.1, fun q => ?_, fun q => ?_⟩
  · rw [t1, e3] at q
    have hz : ¬ p < len := fun z => nI_ge z (by omega) q
    exact ⟨Or.inl rfl, by unfold letAt; rw [decide_eq_false hz]; rfl, rfl⟩
  · rw [t1, e3] at q
    have hz : p < len := Nat.lt_of_not_le fun z => q (nI_le z (by omega))
    obtain ⟨t4, t5⟩ := t3 p hz
    refine ⟨_, h.1, _, h.1, 60, _, p, Or.inl h.tx, e3, by omega, by decide, _, c_Mo_in K H _ _ _, ?_⟩
    rintro _ H ⟨rfl, rfl⟩
    have e : decide ((97 : Int32) ≤ B 3 p ∧ B 3 p ≤ 108) = isLet (tx p) := by
      rw [t4]
      show decide (nI 97 ≤ nI (tx p) ∧ nI (tx p) ≤ nI 108) = _
      rw [show (decide (nI 97 ≤ nI (tx p) ∧ nI (tx p) ≤ nI 108)) = decide (97 ≤ tx p ∧ tx p < 109) from decide_eq_decide.mpr (by rw [nI_leI (by omega) (by omega), nI_leI (by omega) (by omega)]; omega)]
      exact Bool.decide_and _ _
    rw [b2i_if, e]
    refine ⟨fun hl => ?_, fun hl => ?_⟩
    · exact ⟨Or.inl rfl, by unfold letAt; rw [b2i_0.mp hl, Bool.and_false]; rfl, rfl⟩
    · exact ⟨Or.inr rfl, by unfold letAt; rw [b2i_n0.mp hl, decide_eq_true hz]; rfl, rfl⟩
/-- behind an atom, with nothing left of it -/
def rsE (tx : Nat → Nat) (len p : Nat) : Prop := (tR tx p).1 3 = 4 ∨ ((tR tx p).1 3 = 5 ∧ letAt tx len p = false) ∨ ((tR tx p).1 3 = 6 ∧ digAt tx len p 48 50 = false)
theorem rsE.b (h : rsE tx len p) (hp : p < len) : rsB (tR tx p).1 (tx p) := by
  rcases h with h | ⟨h, h2⟩ | ⟨h, h2⟩
  · exact Or.inl h
  · exact Or.inr (Or.inl ⟨h, fun q => by rw [letAt_f h2 hp] at q; cases q⟩)
  · exact Or.inr (Or.inr ⟨h, fun q => by rw [digAt_f h2 hp] at q; cases q⟩)
theorem rsE.four (h : rsE tx len p) : 4 ≤ (tR tx p).1 3 := by
  rcases h with h | ⟨h, -⟩ | ⟨h, -⟩ <;> omega
/-- what going over an atom ends with -/
def oaP (tx : Nat → Nat) (len p : Nat) (b : Bool) (p' L' : Nat) : Prop := p' ≤ len ∧ (b = false → tF tx len = nI p') ∧ (b = true → p < p' ∧ gdTo tx p' ∧ rsE tx len p' ∧ (tR tx p').1 2 = (tR tx p).1 2 ∧ L' = (tR tx p').1 1)
def oaQ (K : hK) (H : hAH) (m : Nat) (c : Nat → Int32) (B : Nat → Nat → Int32) (tx : Nat → Nat) (len p : Nat) : hPost := fun r H' => ∃ b p' L', r = some (.int (b2i b)) ∧ oaP tx len p b p' L' ∧ RMo K H' m (pl c p' L') B ∧ hFr m (m + 11) H H'
/-- the text ends, or goes wrong, within an atom -/
theorem tF_in {q : Nat} (g : gdTo tx q) (hq : q ≤ len) (h4 : ¬ 4 ≤ (tR tx q).1 3) (hk : q < len → rdOk (tR tx q).1 (tx q) = false) : tF tx len = nI q := by
  by_cases e : q < len
  · exact tF_no g e (hk e)
  · obtain rfl : q = len := by omega
    rw [tF_end g]
    unfold rdWhole
    rw [decide_eq_false h4]
    rfl
set_option maxRecDepth 100000 in
set_option maxHeartbeats 4000000 in
theorem l_oaL {Q : hPost} {H0 : hAH} {p0 f0 : Nat} {w1 : Int32} (t : tXo c B tx len) (hf : p0 < f0) (hend : ∀ b p' L' H2, oaP tx len p0 b p' L' → RMo K H2 m (pl c p' L') B → hFr m (m + 11) H0 H2 → Q (some (.int (b2i b))) H2) : ∀ (d p L : Nat) (H1 : hAH), p + d = len → f0 ≤ p → gdTo tx p → ((p = f0 ∧ (tR tx p).1 3 = 3) ∨ (f0 < p ∧ (tR tx p).1 3 = 5)) → (tR tx p).1 2 = (tR tx p0).1 2 → (tR tx p).1 1 = L → 0 < (tR tx p).1 0 → RMo K H1 m (pl c p L) B → hFr m (m + 11) H0 H1 → hJ K M_Mo_overAtom (0, 0) Q 209 (0, 0) [some (.ref m), some (.int w1), some (.int (nI f0))] [] H1 := by
  have hlen := t.2.1
  -- no letter here
  have out : ∀ (p L : Nat) (H1 : hAH), p ≤ len → f0 ≤ p → letAt tx len p = false → gdTo tx p → ((p = f0 ∧ (tR tx p).1 3 = 3) ∨ (f0 < p ∧ (tR tx p).1 3 = 5)) → (tR tx p).1 2 = (tR tx p0).1 2 → (tR tx p).1 1 = L → RMo K H1 m (pl c p L) B → hFr m (m + 11) H0 H1 → hJ K M_Mo_overAtom (0, 0) Q 252 (0, 0) [some (.ref m), some (.int w1), some (.int (nI f0))] [] H1 := by
    intro p L H1 hp hfp hl g hs h2 h1 h f
    refine hGo_sound (okc_Mo_overAtom K _ _) [209] 40 _ _ _ _ _ ?_
    refine ⟨_, h.1, fun q => ?_, fun q => ?_⟩
    · rw [pl_3, nI_leI (by omega) (by omega)] at q
      obtain ⟨e, e3⟩ : p = f0 ∧ (tR tx p).1 3 = 3 := hs.resolve_right fun z => by omega
      refine ⟨Or.inl rfl, hend false p L H1 ⟨hp, fun _ => ?_, fun z => by cases z⟩ h f⟩
      refine tF_in g hp (by omega) fun hlt => ?_
      unfold rdOk
      rw [if_neg (by omega), if_neg (by omega), if_neg (by omega), if_pos e3]
      exact letAt_f hl hlt
    · rw [pl_3, nI_leI (by omega) (by omega)] at q
      obtain ⟨e, e3⟩ : f0 < p ∧ (tR tx p).1 3 = 5 := hs.resolve_left fun z => by omega
      exact ⟨Or.inr rfl, hend true p L H1 ⟨hp, fun z => (by cases z), fun _ => ⟨by omega, g, Or.inr (Or.inl ⟨e3, hl⟩), h2, h1.symm⟩⟩ h f⟩
  intro d
  induction d with
  | zero =>
    intro p L H1 hd hfp g hs h2 h1 h0 h f
    have hl : letAt tx len p = false := by
      unfold letAt
      rw [decide_eq_false (by omega)]; rfl
    refine hGo_sound (okc_Mo_overAtom K _ _) [209, 252] 40 _ _ _ _ _ ?_
    refine ⟨_, h.1, _, c_Mo_isLetter h (t.pl p L) pl_3 (by omega), ?_⟩
    rintro _ H1 ⟨rfl, rfl⟩
    refine ⟨fun _ => ?_, fun q => absurd (b2i_n0.mp q) (by rw [hl]; decide)⟩
    exact out p L _ (by omega) hfp hl g hs h2 h1 h f
  | succ d ih =>
    intro p L H1 hd hfp g hs h2 h1 h0 h f
    refine hGo_sound (okc_Mo_overAtom K _ _) [209, 252] 40 _ _ _ _ _ ?_
    refine ⟨_, h.1, _, c_Mo_isLetter h (t.pl p L) pl_3 (by omega), ?_⟩
    rintro _ H1 ⟨rfl, rfl⟩
    refine ⟨fun q => ?_, fun q => ?_⟩
    · exact out p L _ (by omega) hfp (b2i_0.mp q) g hs h2 h1 h f
    · obtain ⟨hlt, hl⟩ := letAt_t (b2i_n0.mp q)
      obtain ⟨t4, t5⟩ := t.2.2 p hlt
      refine ⟨_, h.1, _, h.1, _, h.1, 60, _, p, Or.inl h.tx, pl_3, by omega, by decide, _, h.1, trivial, fun H2 u2 => ?_⟩
      have k2 : RMo K H2 m (pl c p (L ||| 2 ^ (tx p - 97))) B := h.sc u2 (by
        show moCell m (upd (pl c p L) 4 (pl c p L 4 ||| ((1 : Int32) <<< ((B 3 p - 97) &&& 31)))) = _
        rw [pl_4, t4, letBit hl, pl_L])
      refine ⟨_, k2.1, _, k2.1, trivial, fun H3 u3 => ?_⟩
      have k3 : RMo K H3 m (pl c (p + 1) (L ||| 2 ^ (tx p - 97))) B := k2.inc u3
      have h35 : (tR tx p).1 3 = 3 ∨ (tR tx p).1 3 = 5 := hs.imp (fun z => z.2) (fun z => z.2)
      obtain ⟨s3, s2, s1, s0, -, -, -⟩ := st_l35 (P := (tR tx p).1) (T := (tR tx p).2) (c := tx p) h35 hl h0
      rw [← tR_s] at s3 s2 s1 s0
      have hk : rdOk (tR tx p).1 (tx p) = true := by
        unfold rdOk
        rcases h35 with e | e
        · rw [if_neg (by omega), if_neg (by omega), if_neg (by omega), if_pos e]; exact hl
        · rw [if_neg (by omega), if_neg (by omega), if_neg (by omega), if_neg (by omega), if_pos e, hl]; rfl
      exact ih (p + 1) _ H3 (by omega) (by omega) (g.succ hk) (Or.inr ⟨by omega, s3⟩) (s2.trans h2) (by rw [s1, h1]) (by rw [s0]; exact h0) k3 ((f.trans (u2.fr' (by omega) (by omega))).trans (u3.fr' (by omega) (by omega)))
set_option maxRecDepth 100000 in
set_option maxHeartbeats 4000000 in
theorem c_Mo_overAtom (h : RMo K H m (pl c p L) B) (t : tXo c B tx len) (hp : p ≤ len) (g : gdTo tx p) (h3 : (tR tx p).1 3 = 0) (hL : (tR tx p).1 1 = L) (hno : ¬ (p < len ∧ tx p = 40 ∧ (tR tx p).1 2 < 8)) : hCT K M_Mo_overAtom [.ref m] H 0 0 (oaQ K H m c B tx len p) := by
  have hlen := t.2.1
  have tl : ∀ j, j < len → tx j < 65536 := fun j hj => (t.2.2 j hj).2
  have h60 : p < len → (tR tx p).1 0 < 60 := fun q => by
    have := tR_0 tx p
    omega
  have rest : ∀ b p' L' H2, oaP tx len p b p' L' → RMo K H2 m (pl c p' L') B → hFr m (m + 11) H H2 → oaQ K H m c B tx len p (some (.int (b2i b))) H2 := fun b p' L' H2 q1 q2 q3 => ⟨b, p', L', rfl, q1, q2, q3⟩
  have e0 : ∀ x, x < len → (tR tx x).1 3 = 0 → rdOk (tR tx x).1 (tx x) = atomOk ((tR tx x).1 2) (tx x) := fun x _ q => by
    unfold rdOk
    rw [if_pos q]
  refine hCT.go (okc_Mo_overAtom K _ _) [209] 90 (by decide +kernel) rfl rfl ?_
  refine ⟨_, h.1, _, h.1, _, c_Mo_charAt h (t.pl p L) pl_3 (by omega), ?_⟩
  rintro _ H ⟨rfl, rfl⟩
  refine ⟨fun n42 => ?_, fun i42 => ?_⟩
  · have n42 : ¬ (p < len ∧ tx p = 42) := fun q => n42 ((chI_eq tl (k := 42) (by decide)).mpr q)
    refine ⟨_, h.1, _, c_Mo_isLetter h (t.pl p L) pl_3 (by omega), ?_⟩
    rintro _ H ⟨rfl, rfl⟩
    refine ⟨fun nl => ?_, fun il => ?_⟩
    · have nl := b2i_0.mp nl
      refine ⟨fun n35 => ?_, fun i35 => ?_⟩
      · have n35 : ¬ (p < len ∧ tx p = 35) := fun q => n35 ((chI_eq tl (k := 35) (by decide)).mpr q)
        refine ⟨_, c_Mo_in K H _ _ _, ?_⟩
        rintro _ H ⟨rfl, rfl⟩
        have ed : decide ((49 : Int32) ≤ chI tx len p ∧ chI tx len p ≤ 57) = digAt tx len p 49 57 := chI_in tl (a := 49) (b := 57) (by decide) (by decide)
        rw [b2i_if, ed]
        refine ⟨fun id => ?_, fun nd => ?_⟩
        · -- a digit
          obtain ⟨hlt, hd⟩ := digAt_t (b2i_n0.mp id)
          have hk : rdOk (tR tx p).1 (tx p) = true := by
            rw [e0 p hlt h3]
            unfold atomOk
            rw [if_neg (by have := isDig_spec hd; omega), hd]
            simp
          obtain ⟨s3, s2, s1, -, -, s0, -⟩ := st_dig (T := (tR tx p).2) h3 hd (h60 hlt)
          rw [← tR_s] at s3 s2 s1 s0
          refine ⟨_, h.1, _, h.1, trivial, fun H2 u2 => ?_⟩
          have k2 : RMo K H2 m (pl c (p + 1) L) B := h.inc u2
          refine ⟨_, k2.1, _, k2.1, _, c_Mo_charAt k2 (t.pl (p + 1) L) pl_3 (by omega), ?_⟩
          rintro _ H2 ⟨rfl, rfl⟩
          refine ⟨fun i58 => ?_, fun n58 => ?_⟩
          · obtain ⟨hlt2, h58⟩ := (chI_eq tl (k := 58) (by decide)).mp i58
            have hk2 : rdOk (tR tx (p + 1)).1 (tx (p + 1)) = true := by
              unfold rdOk
              rw [if_neg (by omega), if_neg (by omega), if_pos s3, decide_eq_true h58]
            obtain ⟨r3, r2, r1, r0, -, -, -⟩ := st_col (c := tx (p + 1)) (T := (tR tx (p + 1)).2) s3
            rw [← tR_s] at r3 r2 r1 r0
            refine ⟨_, k2.1, _, k2.1, trivial, fun H3 u3 => ?_⟩
            have k3 : RMo K H3 m (pl c (p + 1 + 1) L) B := k2.inc u3
            refine ⟨_, k3.1, ?_⟩
            rw [pl_3]
            exact l_oaL (p0 := p) (f0 := p + 1 + 1) t (by omega) rest (len - (p + 1 + 1)) (p + 1 + 1) L H3 (by omega) (Nat.le_refl _) ((g.succ hk).succ hk2) (Or.inl ⟨rfl, r3⟩) (r2.trans s2) (by rw [r1, s1, hL]) (by rw [r0]; exact s0) k3 ((u2.fr' (by omega) (by omega)).trans (u3.fr' (by omega) (by omega)))
          · have n58 : ¬ (p + 1 < len ∧ tx (p + 1) = 58) := fun q => n58 ((chI_eq tl (k := 58) (by decide)).mpr q)
            refine ⟨Or.inl rfl, rest false (p + 1) L H2 ⟨by omega, fun _ => ?_, fun z => by cases z⟩ k2 (u2.fr' (by omega) (by omega))⟩
            refine tF_in (g.succ hk) (by omega) (by omega) fun hlt2 => ?_
            unfold rdOk
            rw [if_neg (by omega), if_neg (by omega), if_pos s3, decide_eq_false fun q => n58 ⟨hlt2, q⟩]
        · -- nothing that can stand here
          have nd := b2i_0.mp nd
          refine ⟨Or.inl rfl, rest false p L H ⟨hp, fun _ => ?_, fun z => by cases z⟩ h hFr.rfl⟩
          refine tF_in g hp (by omega) fun hlt => ?_
          rw [e0 p hlt h3]
          unfold atomOk
          by_cases e40 : tx p = 40
          · rw [if_pos e40, decide_eq_false fun q => hno ⟨hlt, e40, q⟩]
          · rw [if_neg e40, decide_eq_false fun q => n42 ⟨hlt, q⟩, decide_eq_false fun q => n35 ⟨hlt, q⟩, letAt_f nl hlt, digAt_f nd hlt]
            rfl
      · -- a number of guests
        obtain ⟨hlt, e35⟩ := (chI_eq tl (k := 35) (by decide)).mp i35
        have hk : rdOk (tR tx p).1 (tx p) = true := by
          rw [e0 p hlt h3]
          unfold atomOk
          rw [if_neg (by omega), decide_eq_true e35]
          simp
        obtain ⟨s3, s2, s1, s0, -⟩ := st_hash (T := (tR tx p).2) h3 e35
        rw [← tR_s] at s3 s2 s1 s0
        refine ⟨_, h.1, _, h.1, trivial, fun H2 u2 => ?_⟩
        have k2 : RMo K H2 m (pl c (p + 1) L) B := h.inc u2
        refine ⟨_, k2.1, _, k2.1, _, c_Mo_charAt k2 (t.pl (p + 1) L) pl_3 (by omega), ?_⟩
        rintro _ H2 ⟨rfl, rfl⟩
        refine ⟨_, c_Mo_in K H2 _ _ _, ?_⟩
        rintro _ H2 ⟨rfl, rfl⟩
        have ed : decide ((49 : Int32) ≤ chI tx len (p + 1) ∧ chI tx len (p + 1) ≤ 57) = digAt tx len (p + 1) 49 57 := chI_in tl (a := 49) (b := 57) (by decide) (by decide)
        rw [b2i_if, ed]
        have er : ∀ x, (tR tx x).1 3 = 1 → rdOk (tR tx x).1 (tx x) = isDig (tx x) 49 57 := fun x q => by
          unfold rdOk
          rw [if_neg (by omega), if_pos q]
        refine ⟨fun id => ?_, fun nd => ?_⟩
        · obtain ⟨hlt2, hd⟩ := digAt_t (b2i_n0.mp id)
          have hk2 : rdOk (tR tx (p + 1)).1 (tx (p + 1)) = true := by rw [er _ s3]; exact hd
          obtain ⟨r3, r2, r1, r0, -⟩ := st_num (c := tx (p + 1)) (T := (tR tx (p + 1)).2) s3 (by rw [s0]; exact h60 hlt)
          rw [← tR_s] at r3 r2 r1 r0
          refine ⟨_, k2.1, _, k2.1, trivial, fun H3 u3 => ?_⟩
          have k3 : RMo K H3 m (pl c (p + 1 + 1) L) B := k2.inc u3
          have f3 : hFr m (m + 11) H H3 := (u2.fr' (by omega) (by omega)).trans (u3.fr' (by omega) (by omega))
          have es : pl c (p + 1 + 1) L 3 - 1 = nI (p + 1) := by rw [pl_3]; exact nI_pred (p + 1)
          refine ⟨_, k3.1, _, k3.1, _, k3.1, _, c_Mo_charAt k3 (t.pl (p + 1 + 1) L) es (by omega), ?_⟩
          rintro _ H3 ⟨rfl, rfl⟩
          refine ⟨fun n49 => ?_, fun i49 => ?_⟩
          · have n49 : ¬ tx (p + 1) = 49 := fun q => n49 ((chI_eq tl (k := 49) (by decide)).mpr ⟨hlt2, q⟩)
            rw [if_neg n49] at r3
            refine ⟨_, k3.1, trivial, fun H4 u4 => ?_⟩
            have k4 : RMo K H4 m (pl c (p + 1 + 1) L) B := k3.sc u4 (by
              show moCell m (upd (pl c (p + 1 + 1) L) 3 (pl c (p + 1 + 1) L 3 + 0)) = _
              rw [pl_3, Int32.add_zero, pl_p])
            exact ⟨Or.inr rfl, rest true (p + 1 + 1) L H4 ⟨by omega, fun z => (by cases z), fun _ => ⟨by omega, (g.succ hk).succ hk2, Or.inl r3, r2.trans s2, by rw [r1, s1, hL]⟩⟩ k4 (f3.trans (u4.fr' (by omega) (by omega)))⟩
          · obtain ⟨-, i49⟩ := (chI_eq tl (k := 49) (by decide)).mp i49
            rw [if_pos i49] at r3
            refine ⟨_, k3.1, _, k3.1, _, c_Mo_charAt k3 (t.pl (p + 1 + 1) L) pl_3 (by omega), ?_⟩
            rintro _ H3 ⟨rfl, rfl⟩
            refine ⟨_, c_Mo_in K H3 _ _ _, ?_⟩
            rintro _ H3 ⟨rfl, rfl⟩
            have ed2 : decide ((48 : Int32) ≤ chI tx len (p + 1 + 1) ∧ chI tx len (p + 1 + 1) ≤ 50) = digAt tx len (p + 1 + 1) 48 50 := chI_in tl (a := 48) (b := 50) (by decide) (by decide)
            rw [b2i_if, ed2]
            refine ⟨fun nd2 => ?_, fun id2 => ?_⟩
            · refine ⟨_, k3.1, trivial, fun H4 u4 => ?_⟩
              have k4 : RMo K H4 m (pl c (p + 1 + 1) L) B := k3.sc u4 (by
                show moCell m (upd (pl c (p + 1 + 1) L) 3 (pl c (p + 1 + 1) L 3 + 0)) = _
                rw [pl_3, Int32.add_zero, pl_p])
              exact ⟨Or.inr rfl, rest true (p + 1 + 1) L H4 ⟨by omega, fun z => (by cases z), fun _ => ⟨by omega, (g.succ hk).succ hk2, Or.inr (Or.inr ⟨r3, b2i_0.mp nd2⟩), r2.trans s2, by rw [r1, s1, hL]⟩⟩ k4 (f3.trans (u4.fr' (by omega) (by omega)))⟩
            · obtain ⟨hlt3, hd3⟩ := digAt_t (b2i_n0.mp id2)
              refine ⟨_, k3.1, trivial, fun H4 u4 => ?_⟩
              have k4 : RMo K H4 m (pl c (p + 1 + 1 + 1) L) B := k3.inc u4
              have hk3 : rdOk (tR tx (p + 1 + 1)).1 (tx (p + 1 + 1)) = true := by
                unfold rdOk
                rw [if_neg (by omega), if_neg (by omega), if_neg (by omega), if_neg (by omega), if_neg (by omega), if_pos r3, hd3]
                rfl
              obtain ⟨v3, v2, v1, -⟩ := st_sec (c := tx (p + 1 + 1)) (T := (tR tx (p + 1 + 1)).2) r3 hd3 r0
              rw [← tR_s] at v3 v2 v1
              exact ⟨Or.inr rfl, rest true (p + 1 + 1 + 1) L H4 ⟨by omega, fun z => (by cases z), fun _ => ⟨by omega, ((g.succ hk).succ hk2).succ hk3, Or.inl v3, (v2.trans r2).trans s2, by rw [v1, r1, s1, hL]⟩⟩ k4 (f3.trans (u4.fr' (by omega) (by omega)))⟩
        · have nd := b2i_0.mp nd
          refine ⟨Or.inl rfl, rest false (p + 1) L H2 ⟨by omega, fun _ => ?_, fun z => by cases z⟩ k2 (u2.fr' (by omega) (by omega))⟩
          refine tF_in (g.succ hk) (by omega) (by omega) fun hlt2 => ?_
          rw [er _ s3]
          exact digAt_f nd hlt2
    · -- a letter
      obtain ⟨hlt, hl⟩ := letAt_t (b2i_n0.mp il)
      have ec : chI tx len p = nI (tx p) := if_pos hlt
      have hk : rdOk (tR tx p).1 (tx p) = true := by
        rw [e0 p hlt h3]
        unfold atomOk
        rw [if_neg (isLet_n hl).1, hl]
        simp
      obtain ⟨s3, s2, s1, -⟩ := st_let (T := (tR tx p).2) h3 hl (h60 hlt)
      rw [← tR_s] at s3 s2 s1
      refine ⟨_, h.1, _, h.1, trivial, fun H2 u2 => ?_⟩
      have k2 : RMo K H2 m (pl c p (L ||| 2 ^ (tx p - 97))) B := h.sc u2 (by
        show moCell m (upd (pl c p L) 4 (pl c p L 4 ||| ((1 : Int32) <<< ((chI tx len p - 97) &&& 31)))) = _
        rw [pl_4, ec, letBit hl, pl_L])
      refine ⟨_, k2.1, _, k2.1, trivial, fun H3 u3 => ?_⟩
      have k3 : RMo K H3 m (pl c (p + 1) (L ||| 2 ^ (tx p - 97))) B := k2.inc u3
      exact ⟨Or.inr rfl, rest true (p + 1) _ H3 ⟨by omega, fun z => (by cases z), fun _ => ⟨by omega, g.succ hk, Or.inl s3, s2, by rw [s1, hL]⟩⟩ k3 ((u2.fr' (by omega) (by omega)).trans (u3.fr' (by omega) (by omega)))⟩
  · -- always met
    obtain ⟨hlt, e42⟩ := (chI_eq tl (k := 42) (by decide)).mp i42
    have hk : rdOk (tR tx p).1 (tx p) = true := by
      rw [e0 p hlt h3]
      unfold atomOk
      rw [if_neg (by omega), decide_eq_true e42]
      rfl
    obtain ⟨s3, s2, s1, -⟩ := st_star (T := (tR tx p).2) h3 e42 (h60 hlt)
    rw [← tR_s] at s3 s2 s1
    refine ⟨_, h.1, _, h.1, trivial, fun H2 u2 => ?_⟩
    have k2 : RMo K H2 m (pl c (p + 1) L) B := h.inc u2
    exact ⟨Or.inr rfl, rest true (p + 1) L H2 ⟨by omega, fun z => (by cases z), fun _ => ⟨by omega, g.succ hk, Or.inl s3, s2, by rw [s1, hL]⟩⟩ k2 (u2.fr' (by omega) (by omega))⟩
end TXA
