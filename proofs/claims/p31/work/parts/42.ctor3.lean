/-! THE CLASS IS MADE: the fresh party -/
def V0 (i : Nat) : Int32 := if i = 2 then 10000 else if i = 3 then 500 else if i = 4 then 12 else if i = 5 then 10 else if i = 6 then 200 else 0
def Y0 : hY := (V0, 0, fun _ _ => 0, 0, fun _ => 0, 0, fun _ => 0)
theorem V0_hi {i : Nat} (h : i < 2 ∨ 7 ≤ i) : V0 i = 0 := by
  unfold V0
  rw [if_neg (by omega), if_neg (by omega), if_neg (by omega), if_neg (by omega), if_neg (by omega)]
theorem V0_n : vN V0 = 0 := rfl
theorem V0_g {k f : Nat} : vG V0 k f = 0 := V0_hi (by omega)
theorem WF.zero : WF V0 := by
  refine ⟨⟨rfl, by decide⟩, ⟨0, by decide, rfl⟩, ⟨⟨10000, by decide, rfl⟩, ⟨500, by decide, rfl⟩, ⟨12, by decide, by decide, rfl⟩, ⟨10, by decide, rfl⟩, ⟨200, by decide, rfl⟩⟩, ⟨Or.inl rfl, 0, by decide, rfl, fun _ => rfl⟩, fun k hk => absurd hk (Nat.not_lt_zero k), ⟨?_, ?_⟩, fun k _ _ => ⟨V0_g, V0_g, V0_g, V0_g⟩⟩
  · rw [V0_hi (by decide)]
    refine (Eq.trans ?_ (sumI_cong (p := fun _ => 0) fun k _ => V0_g.symm))
    decide
  · rw [V0_hi (by decide)]
    refine (Eq.trans ?_ (sumI_cong (p := fun _ => 0) fun k _ => V0_g.symm))
    decide
theorem YOk.zero : YOk Y0 := ⟨WF.zero, by decide, fun i hi => absurd hi (Nat.not_lt_zero i), Or.inl rfl, fun q => absurd (show (0 : Int32) = 1 from q) (by decide), by decide, fun j hj => absurd hj (Nat.not_lt_zero j)⟩
theorem Enc.zero : Enc S0 V0 := by
  refine ⟨⟨rfl, rfl, rfl, rfl, rfl, rfl, rfl, rfl⟩, fun j hj => ?_, fun k hk => absurd hk (Nat.not_lt_zero k)⟩
  match j, hj with
  | 0, _ => rfl
  | 1, _ => rfl
  | 2, _ => rfl
  | 3, _ => rfl
  | 4, _ => rfl
def pa0 : va_E := .inr (5, [.null, .null, .null, .int 0, .null, .int 0, .null, .null])
set_option maxRecDepth 100000 in
set_option maxHeartbeats 4000000 in
theorem c_Pa_init {K : hK} {H : hAH} {b : Nat} (hF : hSetF K) (hc : H.2 b = some pa0) (hs : H.1 = b + 1) : hCT K M_Pa_init [.ref b] H 174 5416 (fun r H' => r = none ∧ CP K H' b Y0 ∧ hEx b (b + 175) H H') := by
  refine hCT.go (okc_Pa_init K _ _) [] 90 (by decide +kernel) rfl rfl ?_
  rcases H with ⟨hs', hf⟩
  obtain rfl : hs' = b + 1 := hs
  refine ⟨by decide, by decide, fun H1 n1 => ?_⟩
  have z1 : H1.1 = b + 1 + 1 := n1.1
  refine ⟨26, 857, _, c_St_init (s := b + 1) hF n1.2.1 z1, by decide, by decide, ?_⟩
  rintro _ H2 ⟨rfl, r2, e2⟩
  have k2 : H2.2 b = some pa0 := ((e2.2 b (by omega)).trans (n1.2.2 b (show b ≠ b + 1 by omega))).trans hc
  refine ⟨_, k2, trivial, fun H3 u3 => ?_⟩
  have z3 : H3.1 = b + 28 := u3.1.trans e2.1
  have r3 := r2.fr u3.fr (by omega)
  rcases H3 with ⟨hs', f3⟩
  obtain rfl : hs' = b + 28 := z3
  refine ⟨by decide, by decide, fun H4 n4 => ?_⟩
  have z4 : H4.1 = b + 28 + 1 := n4.1
  have o4 : ∀ q, q < b + 28 → H4.2 q = f3 q := fun q hq => n4.2.2 q (show q ≠ b + 28 by omega)
  refine ⟨109, 3472, _, c_Hi_init (h := b + 28) hF n4.2.1 z4, by decide, by decide, ?_⟩
  rintro _ H5 ⟨rfl, r5, e5⟩
  have o5 : ∀ q, q < b + 28 → H5.2 q = f3 q := fun q hq => (e5.2 q (Or.inl hq)).trans (o4 q hq)
  refine ⟨_, (o5 b (by omega)).trans u3.2.1, trivial, fun H6 u6 => ?_⟩
  have z6 : H6.1 = b + 138 := u6.1.trans e5.1
  have r6 := r5.fr u6.fr (by omega)
  have o6 : ∀ q, q < b + 28 → q ≠ b → H6.2 q = f3 q := fun q hq hb => (u6.2.2 q hb).trans (o5 q hq)
  rcases H6 with ⟨hs', f6⟩
  obtain rfl : hs' = b + 138 := z6
  refine ⟨by decide, by decide, fun H7 n7 => ?_⟩
  have z7 : H7.1 = b + 138 + 1 := n7.1
  refine ⟨26, 857, _, c_St_init (s := b + 138) hF n7.2.1 z7, by decide, by decide, ?_⟩
  rintro _ H8 ⟨rfl, r8, e8⟩
  have o8 : ∀ q, q < b + 138 → H8.2 q = f6 q := fun q hq => (e8.2 q (Or.inl hq)).trans (n7.2.2 q (show q ≠ b + 138 by omega))
  refine ⟨_, (o8 b (by omega)).trans u6.2.1, trivial, fun H9 u9 => ⟨_, u9.2.1, Or.inl rfl, fun HA uA => ?_⟩⟩
  have oA : ∀ q, q ≠ b → HA.2 q = H8.2 q := fun q hq => (uA.2.2 q hq).trans (u9.2.2 q hq)
  have zA : HA.1 = b + 165 := (uA.1.trans u9.1).trans e8.1
  have rA := (r8.fr u9.fr (by omega)).fr uA.fr (by omega)
  rcases HA with ⟨hs', fA⟩
  obtain rfl : hs' = b + 165 := zA
  refine ⟨60, rfl, by decide, by decide, by decide, fun HB nB => ?_⟩
  have zB : HB.1 = b + 166 := nB.1
  have oB : ∀ q, q < b + 165 → HB.2 q = fA q := fun q hq => nB.2.2 q (show q ≠ b + 165 by omega)
  refine ⟨_, (oB b (by omega)).trans uA.2.1, trivial, fun HC uC => ⟨_, uC.2.1, trivial, fun HD uD => ?_⟩⟩
  have oD : ∀ q, q ≠ b → HD.2 q = HB.2 q := fun q hq => (uD.2.2 q hq).trans (uC.2.2 q hq)
  have zD : HD.1 = b + 166 := (uD.1.trans uC.1).trans zB
  rcases HD with ⟨hs', fD⟩
  obtain rfl : hs' = b + 166 := zD
  refine ⟨by decide, by decide, fun HE nE => ?_⟩
  have zE : HE.1 = b + 166 + 1 := nE.1
  refine ⟨1, 60, _, c_Re_init (a := b + 166) nE.2.1 zE, by decide, by decide, ?_⟩
  rintro _ HF ⟨rfl, rF, eF⟩
  have oF : ∀ q, q < b + 166 → HF.2 q = fD q := fun q hq => (eF.2 q (Or.inl hq)).trans (nE.2.2 q (show q ≠ b + 166 by omega))
  refine ⟨_, (oF b (by omega)).trans uD.2.1, trivial, fun HG uG => ?_⟩
  have zG : HG.1 = b + 168 := uG.1.trans eF.1
  have oG : ∀ q, q < b + 166 → q ≠ b → HG.2 q = fD q := fun q hq hb => (uG.2.2 q hb).trans (oF q hq)
  have gG : ∀ q, q ≠ b → HG.2 q = HF.2 q := uG.2.2
  rcases HG with ⟨hs', fG⟩
  obtain rfl : hs' = b + 168 := zG
  refine ⟨by decide, by decide, fun HH nH => ?_⟩
  have zH : HH.1 = b + 168 + 1 := nH.1
  refine ⟨6, 74, _, c_Se_init (a := b + 168) nH.2.1 zH, by decide, by decide, ?_⟩
  rintro _ HI ⟨rfl, rI, eI⟩
  have oI : ∀ q, q < b + 168 → HI.2 q = fG q := fun q hq => (eI.2 q (Or.inl hq)).trans (nH.2.2 q (show q ≠ b + 168 by omega))
  refine ⟨_, (oI b (by omega)).trans uG.2.1, trivial, fun HJ uJ => ?_⟩
  -- what lies below, seen from the end
  have p1 : ∀ q, q ≠ b → q < b + 168 → HJ.2 q = HF.2 q := fun q hb hq => (uJ.2.2 q hb).trans ((oI q hq).trans (gG q hb))
  have p2 : ∀ q, q ≠ b → q < b + 166 → HJ.2 q = HB.2 q := fun q hb hq => (p1 q hb (by omega)).trans ((oF q hq).trans (oD q hb))
  have p3 : ∀ q, q ≠ b → q < b + 165 → HJ.2 q = H8.2 q := fun q hb hq => (p2 q hb (by omega)).trans ((oB q hq).trans (oA q hb))
  have p4 : ∀ q, q ≠ b → q < b + 138 → HJ.2 q = f6 q := fun q hb hq => (p3 q hb (by omega)).trans (o8 q hq)
  have p5 : ∀ q, q ≠ b → q < b + 28 → HJ.2 q = f3 q := fun q hb hq => (p4 q hb (by omega)).trans (o6 q hq hb)
  refine ⟨rfl, ⟨S0, S0, id, fun _ => S0, z0, fun _ => 0, z0, 0, fun _ => z0, ?_, ⟨?_, Enc.zero⟩, ⟨?_, ⟨fun i hi => hi, fun i _ j _ e => e⟩, fun i hi => absurd hi (Nat.not_lt_zero i)⟩, ⟨?_, fun q => absurd (show (0 : Int32) = 1 from q) (by decide)⟩, ⟨?_, fun j hj => absurd hj (Nat.not_lt_zero j)⟩, ⟨?_, ?_⟩, rI.fr uJ.fr (by omega)⟩, uJ.1.trans eI.1, fun q hq => ?_⟩
  · exact uJ.2.1
  · exact ⟨(p5 _ (by omega) (by omega)).trans r3.1, (p5 _ (by omega) (by omega)).trans r3.2.1, (p5 _ (by omega) (by omega)).trans r3.2.2.1, fun k hk => ⟨(p5 _ (by omega) (by omega)).trans (r3.2.2.2 k hk).1, (p5 _ (by omega) (by omega)).trans (r3.2.2.2 k hk).2⟩⟩
  · obtain ⟨q1, ⟨g, q2, q3⟩, q4⟩ := r6
    exact ⟨(p4 _ (by omega) (by omega)).trans q1, ⟨g, (p4 _ (by omega) (by omega)).trans q2, q3⟩, fun i hi => ⟨(p4 _ (by omega) (by omega)).trans (q4 i hi).1, (p4 _ (by omega) (by omega)).trans (q4 i hi).2.1, (p4 _ (by omega) (by omega)).trans (q4 i hi).2.2.1, fun k hk => ⟨(p4 _ (by omega) (by omega)).trans ((q4 i hi).2.2.2 k hk).1, (p4 _ (by omega) (by omega)).trans ((q4 i hi).2.2.2 k hk).2⟩⟩⟩
  · exact ⟨(p3 _ (by omega) (by omega)).trans r8.1, (p3 _ (by omega) (by omega)).trans r8.2.1, (p3 _ (by omega) (by omega)).trans r8.2.2.1, fun k hk => ⟨(p3 _ (by omega) (by omega)).trans (r8.2.2.2 k hk).1, (p3 _ (by omega) (by omega)).trans (r8.2.2.2 k hk).2⟩⟩
  · exact (p2 _ (by omega) (by omega)).trans nB.2.1
  · exact (p1 _ (by omega) (by omega)).trans rF.1
  · exact (p1 _ (by omega) (by omega)).trans rF.2
  · have t1 : HJ.2 q = fG q := (uJ.2.2 q (by omega)).trans ((eI.2 q (by omega)).trans (nH.2.2 q (show q ≠ b + 168 by omega)))
    have t2 : fG q = fD q := (uG.2.2 q (by omega)).trans ((eF.2 q (by omega)).trans (nE.2.2 q (show q ≠ b + 166 by omega)))
    have t3 : fD q = fA q := (oD q (by omega)).trans (nB.2.2 q (show q ≠ b + 165 by omega))
    have t4 : fA q = f6 q := (oA q (by omega)).trans ((e8.2 q (by omega)).trans (n7.2.2 q (show q ≠ b + 138 by omega)))
    have t5 : f6 q = f3 q := (u6.2.2 q (by omega)).trans ((e5.2 q (by omega)).trans (n4.2.2 q (show q ≠ b + 28 by omega)))
    have t6 : f3 q = hf q := (u3.2.2 q (by omega)).trans ((e2.2 q (by omega)).trans (n1.2.2 q (show q ≠ b + 1 by omega)))
    exact t1.trans (t2.trans (t3.trans (t4.trans (t5.trans t6))))
