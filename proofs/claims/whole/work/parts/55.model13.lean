/-! THE REFERENCE is made -/
def mo0 : va_E := .inr (6, [.null, .null, .int 0, .null, .int 0, .null, .int 0, .null, .null, .int 0, .int 0, .null, .null, .null, .null, .int 0])
def moB (j : Nat) : Nat → Int32 := if j = 4 then upd (upd (upd (upd (upd (fun _ => 0) 0 0) 1 0) 2 1) 3 0) 4 0 else if j = 5 then upd (upd (upd (upd (upd (fun _ => 0) 0 99999) 1 9999) 2 12) 3 999) 4 9999 else z0
theorem moB_set : ∀ j, j < 5 → moB 4 j = setLo j ∧ moB 5 j = setHi j := by decide +kernel
set_option maxRecDepth 100000 in
set_option maxHeartbeats 4000000 in
theorem c_Mo_init {K : hK} {H : hAH} {m : Nat} (hc : H.2 m = some mo0) (hs : H.1 = m + 1) : hCT K M_Mo_init [.ref m] H 10 10017 (fun r H' => r = none ∧ MPx K H' m Y0 ∧ hEx m (m + 11) H H') := by
  refine hCT.go (okc_Mo_init K _ _) [] 200 (by decide +kernel) rfl rfl ?_
  rcases H with ⟨hs', hf⟩
  obtain rfl : hs' = m + 1 := hs
  refine ⟨1647, rfl, by decide, by decide, by decide, fun H1 n1 => ⟨_, (n1.2.2 m (show m ≠ m + 1 by omega)).trans hc, trivial, fun H2 u2 => ?_⟩⟩
  have z2 : H2.1 = m + 2 := u2.1.trans n1.1
  rcases H2 with ⟨hs', f2⟩
  obtain rfl : hs' = m + 2 := z2
  refine ⟨6588, rfl, by decide, by decide, by decide, fun H3 n3 => ⟨_, (n3.2.2 m (show m ≠ m + 2 by omega)).trans u2.2.1, trivial, fun H4 u4 => ?_⟩⟩
  have z4 : H4.1 = m + 3 := u4.1.trans n3.1
  rcases H4 with ⟨hs', f4⟩
  obtain rfl : hs' = m + 3 := z4
  refine ⟨1647, rfl, by decide, by decide, by decide, fun H5 n5 => ⟨_, (n5.2.2 m (show m ≠ m + 3 by omega)).trans u4.2.1, trivial, fun H6 u6 => ?_⟩⟩
  have z6 : H6.1 = m + 4 := u6.1.trans n5.1
  rcases H6 with ⟨hs', f6⟩
  obtain rfl : hs' = m + 4 := z6
  refine ⟨60, rfl, by decide, by decide, by decide, fun H7 n7 => ⟨_, (n7.2.2 m (show m ≠ m + 4 by omega)).trans u6.2.1, trivial, fun H8 u8 => ?_⟩⟩
  have z8 : H8.1 = m + 5 := u8.1.trans n7.1
  rcases H8 with ⟨hs', f8⟩
  obtain rfl : hs' = m + 5 := z8
  refine ⟨5, rfl, by decide, by decide, by decide, fun H9 n9 => ?_⟩
  refine ⟨5, _, 0, n9.2.1, rfl, by decide, by decide, fun Ha ua => ⟨5, _, 1, ua.2.1, rfl, by decide, by decide, fun Hb ub => ⟨5, _, 2, ub.2.1, rfl, by decide, by decide, fun Hc uc => ⟨5, _, 3, uc.2.1, rfl, by decide, by decide, fun Hd ud => ⟨5, _, 4, ud.2.1, rfl, by decide, by decide, fun He ue => ?_⟩⟩⟩⟩⟩
  have fe : hFr (m + 5) (m + 6) H9 He := (((ua.fr.trans ub.fr).trans uc.fr).trans ud.fr).trans ue.fr
  refine ⟨_, (fe.2 m (by omega)).trans ((n9.2.2 m (show m ≠ m + 5 by omega)).trans u8.2.1), trivial, fun HA uA => ?_⟩
  have zA : HA.1 = m + 6 := uA.1.trans (fe.1.trans n9.1)
  rcases HA with ⟨hs', fA⟩
  obtain rfl : hs' = m + 6 := zA
  refine ⟨5, rfl, by decide, by decide, by decide, fun HB nB => ?_⟩
  refine ⟨5, _, 0, nB.2.1, rfl, by decide, by decide, fun Hf uf => ⟨5, _, 1, uf.2.1, rfl, by decide, by decide, fun Hg ug => ⟨5, _, 2, ug.2.1, rfl, by decide, by decide, fun Hh uh => ⟨5, _, 3, uh.2.1, rfl, by decide, by decide, fun Hi ui => ⟨5, _, 4, ui.2.1, rfl, by decide, by decide, fun Hj uj => ?_⟩⟩⟩⟩⟩
  have fj : hFr (m + 6) (m + 7) HB Hj := (((uf.fr.trans ug.fr).trans uh.fr).trans ui.fr).trans uj.fr
  refine ⟨_, (fj.2 m (by omega)).trans ((nB.2.2 m (show m ≠ m + 6 by omega)).trans uA.2.1), trivial, fun HC uC => ?_⟩
  have zC : HC.1 = m + 7 := uC.1.trans (fj.1.trans nB.1)
  rcases HC with ⟨hs', fC⟩
  obtain rfl : hs' = m + 7 := zC
  refine ⟨9, rfl, by decide, by decide, by decide, fun HD nD => ⟨_, (nD.2.2 m (show m ≠ m + 7 by omega)).trans uC.2.1, trivial, fun HE uE => ?_⟩⟩
  have zE : HE.1 = m + 8 := uE.1.trans nD.1
  rcases HE with ⟨hs', fE⟩
  obtain rfl : hs' = m + 8 := zE
  refine ⟨9, rfl, by decide, by decide, by decide, fun HF nF => ⟨_, (nF.2.2 m (show m ≠ m + 8 by omega)).trans uE.2.1, trivial, fun HG uG => ?_⟩⟩
  have zG : HG.1 = m + 9 := uG.1.trans nF.1
  rcases HG with ⟨hs', fG⟩
  obtain rfl : hs' = m + 9 := zG
  refine ⟨12, rfl, by decide, by decide, by decide, fun HI nI' => ⟨_, (nI'.2.2 m (show m ≠ m + 9 by omega)).trans uG.2.1, trivial, fun HK uK => ?_⟩⟩
  have zK : HK.1 = m + 10 := uK.1.trans nI'.1
  rcases HK with ⟨hs', fK⟩
  obtain rfl : hs' = m + 10 := zK
  refine ⟨12, rfl, by decide, by decide, by decide, fun HL nL => ⟨_, (nL.2.2 m (show m ≠ m + 10 by omega)).trans uK.2.1, trivial, fun HM uM => ?_⟩⟩
  have zM : HM.1 = m + 11 := uM.1.trans nL.1
  -- what lies below, seen from here
  have o1 : ∀ q, q ≠ m → q ≠ m + 10 → HM.2 q = fK q := fun q h1 h2 => (uM.2.2 q h1).trans (nL.2.2 q h2)
  have o2 : ∀ q, q ≠ m → q ≠ m + 9 → fK q = fG q := fun q h1 h2 => (uK.2.2 q h1).trans (nI'.2.2 q h2)
  have o3 : ∀ q, q ≠ m → q ≠ m + 8 → fG q = fE q := fun q h1 h2 => (uG.2.2 q h1).trans (nF.2.2 q h2)
  have o4 : ∀ q, q ≠ m → q ≠ m + 7 → fE q = fC q := fun q h1 h2 => (uE.2.2 q h1).trans (nD.2.2 q h2)
  have o5 : ∀ q, q ≠ m → q ≠ m + 6 → fC q = fA q := fun q h1 h2 => (uC.2.2 q h1).trans ((fj.2 q (by omega)).trans (nB.2.2 q h2))
  have o6 : ∀ q, q ≠ m → q ≠ m + 5 → fA q = f8 q := fun q h1 h2 => (uA.2.2 q h1).trans ((fe.2 q (by omega)).trans (n9.2.2 q h2))
  have o7 : ∀ q, q ≠ m → q ≠ m + 4 → f8 q = f6 q := fun q h1 h2 => (u8.2.2 q h1).trans (n7.2.2 q h2)
  have o8 : ∀ q, q ≠ m → q ≠ m + 3 → f6 q = f4 q := fun q h1 h2 => (u6.2.2 q h1).trans (n5.2.2 q h2)
  have o9 : ∀ q, q ≠ m → q ≠ m + 2 → f4 q = f2 q := fun q h1 h2 => (u4.2.2 q h1).trans (n3.2.2 q h2)
  have oX : ∀ q, q ≠ m → q ≠ m + 1 → f2 q = hf q := fun q h1 h2 => (u2.2.2 q h1).trans (n1.2.2 q h2)
  have hM : RMo K HM m z0 moB := by
    refine ⟨uM.2.1, fun j hj => ?_⟩
    match j, hj with
    | 0, _ =>
      rw [o1 _ (by omega) (by omega), o2 _ (by omega) (by omega), o3 _ (by omega) (by omega), o4 _ (by omega) (by omega), o5 _ (by omega) (by omega), o6 _ (by omega) (by omega), o7 _ (by omega) (by omega), o8 _ (by omega) (by omega), o9 _ (by omega) (by omega)]
      exact (u2.2.2 _ (by omega)).trans n1.2.1
    | 1, _ =>
      rw [o1 _ (by omega) (by omega), o2 _ (by omega) (by omega), o3 _ (by omega) (by omega), o4 _ (by omega) (by omega), o5 _ (by omega) (by omega), o6 _ (by omega) (by omega), o7 _ (by omega) (by omega), o8 _ (by omega) (by omega)]
      exact (u4.2.2 _ (by omega)).trans n3.2.1
    | 2, _ =>
      rw [o1 _ (by omega) (by omega), o2 _ (by omega) (by omega), o3 _ (by omega) (by omega), o4 _ (by omega) (by omega), o5 _ (by omega) (by omega), o6 _ (by omega) (by omega), o7 _ (by omega) (by omega)]
      exact (u6.2.2 _ (by omega)).trans n5.2.1
    | 3, _ =>
      rw [o1 _ (by omega) (by omega), o2 _ (by omega) (by omega), o3 _ (by omega) (by omega), o4 _ (by omega) (by omega), o5 _ (by omega) (by omega), o6 _ (by omega) (by omega)]
      exact (u8.2.2 _ (by omega)).trans n7.2.1
    | 4, _ =>
      rw [o1 _ (by omega) (by omega), o2 _ (by omega) (by omega), o3 _ (by omega) (by omega), o4 _ (by omega) (by omega), o5 _ (by omega) (by omega)]
      exact (uA.2.2 _ (by omega)).trans ue.2.1
    | 5, _ =>
      rw [o1 _ (by omega) (by omega), o2 _ (by omega) (by omega), o3 _ (by omega) (by omega), o4 _ (by omega) (by omega)]
      exact (uC.2.2 _ (by omega)).trans uj.2.1
    | 6, _ =>
      rw [o1 _ (by omega) (by omega), o2 _ (by omega) (by omega), o3 _ (by omega) (by omega)]
      exact (uE.2.2 _ (by omega)).trans nD.2.1
    | 7, _ =>
      rw [o1 _ (by omega) (by omega), o2 _ (by omega) (by omega)]
      exact (uG.2.2 _ (by omega)).trans nF.2.1
    | 8, _ =>
      rw [o1 _ (by omega) (by omega)]
      exact (uK.2.2 _ (by omega)).trans nI'.2.1
    | 9, _ => exact (uM.2.2 _ (by omega)).trans nL.2.1
  refine ⟨_, hM.1, 1647, _, 2, hM.v, rfl, by decide, by decide, fun P1 v1 => ?_⟩
  have h1 := hM.wv v1
  refine ⟨_, h1.1, 1647, _, 3, h1.v, rfl, by decide, by decide, fun P2 v2 => ?_⟩
  have h2 := h1.wv v2
  refine ⟨_, h2.1, 1647, _, 4, h2.v, rfl, by decide, by decide, fun P3 v3 => ?_⟩
  have h3 := h2.wv v3
  refine ⟨_, h3.1, 1647, _, 5, h3.v, rfl, by decide, by decide, fun P4 v4 => ?_⟩
  have h4 := h3.wv v4
  refine ⟨_, h4.1, 1647, _, 6, h4.v, rfl, by decide, by decide, fun P5 v5 => ⟨rfl, ?_, ?_⟩⟩
  · have h5 := h4.wv v5
    simp only [upB_u, upB_s] at h5
    refine ⟨_, _, h5, ?_, rfl, fun i hi => absurd hi (Nat.not_lt_zero i), rfl, fun q => absurd (show (0 : Int32) = 1 from q) (by decide), rfl, fun j hj => absurd hj (Nat.not_lt_zero j), fun j hj => ?_⟩
    · rw [upB_s]
      funext j
      show upd (upd (upd (upd (upd z0 2 10000) 3 500) 4 12) 5 10) 6 200 j = V0 j
      unfold V0
      by_cases e6 : j = 6
      · rw [e6]; rfl
      · rw [upd_n e6]
        by_cases e5 : j = 5
        · rw [e5]; rfl
        · rw [upd_n e5]
          by_cases e4 : j = 4
          · rw [e4]; rfl
          · rw [upd_n e4]
            by_cases e3 : j = 3
            · rw [e3]; rfl
            · rw [upd_n e3]
              by_cases e2 : j = 2
              · rw [e2]; rfl
              · rw [upd_n e2, if_neg e2, if_neg e3, if_neg e4, if_neg e5, if_neg e6]
                rfl
    · exact moB_set j hj
  · refine ⟨v5.1.trans (v4.1.trans (v3.1.trans (v2.1.trans (v1.1.trans zM)))), fun q hq => ?_⟩
    rw [v5.2.2 q (by omega), v4.2.2 q (by omega), v3.2.2 q (by omega), v2.2.2 q (by omega), v1.2.2 q (by omega), o1 _ (by omega) (by omega), o2 _ (by omega) (by omega), o3 _ (by omega) (by omega), o4 _ (by omega) (by omega), o5 _ (by omega) (by omega), o6 _ (by omega) (by omega), o7 _ (by omega) (by omega), o8 _ (by omega) (by omega), o9 _ (by omega) (by omega), oX _ (by omega) (by omega)]
