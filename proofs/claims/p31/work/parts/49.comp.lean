/-! THE LAW: the companies -/
section LCO
variable {K : hK} {H : hAH} {b : Nat} {Y : hY}
theorem shl_n {n : Nat} (hn : n ≤ 12) : (1 : Int32) <<< (nI n &&& 31) = nI (2 ^ n) := shl_1 n (by omega)
set_option maxRecDepth 100000 in
set_option maxHeartbeats 4000000 in
/-- the inner loop: is this set's every guest content -/
theorem l_compI {i many all ch : Nat} {le : Int32} {st : Bool} (hi : i < 2 ^ vN Y.1) (hn : vN Y.1 ≤ 12) (back : ∀ (H : hAH) (l9 : Option Value), PY K H b Y → hJ K M_La_companies (0, 0) (RQ K b Y 1) 215 (0, 0) [some (.ref b), some (.int (nI many)), some (.int (nI all)), some (.int (nI ch)), some (.int le), some (.int 1), some (.int (nI i)), some (.int (b2i st)), some (.int (b2i (vStb Y.1 i))), l9] [] H) :
    ∀ (m k : Nat) (w : Int32) (H : hAH), k + m = vN Y.1 → PY K H b Y → w = nI k → hJ K M_La_companies (0, 0) (RQ K b Y 1) 135 (0, 0) [some (.ref b), some (.int (nI many)), some (.int (nI all)), some (.int (nI ch)), some (.int le), some (.int 1), some (.int (nI i)), some (.int (b2i st)), some (.int (b2i (allB (vOkG Y.1 i (vFee Y.1 (nI (pop i)))) k))), some (.int w)] [] H := by
  have h12 := two12 hn
  intro m
  induction m with
  | zero =>
    intro k w H hk p ew
    have es := stb_n p.w hi
    rw [show vN Y.1 = k by omega] at es
    refine hGo_sound (okc_La_companies K _ _) [135, 215] 60 _ _ _ _ _ ?_
    rw [ew]
    refine ⟨_, p.obj, _, q_n p, ?_⟩
    rintro _ H1 ⟨rfl, p1⟩
    refine ⟨fun _ => ?_, fun z => absurd (nI_le (by omega) (by omega)) z⟩
    rw [← es]
    exact back H1 _ p1
  | succ m ih =>
    intro k w H hk p ew
    refine hGo_sound (okc_La_companies K _ _) [135, 215, 207] 60 _ _ _ _ _ ?_
    rw [ew]
    refine ⟨_, p.obj, _, q_n p, ?_⟩
    rintro _ H1 ⟨rfl, p1⟩
    refine ⟨fun z => absurd ((nI_leI (by omega) (by omega)).mp z) (by omega), fun _ => ⟨fun z => ?_, fun z => ?_⟩⟩
    · have hf := b2i_0.mp z
      have es : vStb Y.1 i = false := by
        rw [stb_n p.w hi]
        cases h : allB (vOkG Y.1 i (vFee Y.1 (nI (pop i)))) (vN Y.1)
        · rfl
        · have : allB (vOkG Y.1 i (vFee Y.1 (nI (pop i)))) k = true := (allB_iff _ _).mpr fun j hj => (allB_iff _ _).mp h j (show j < vN Y.1 by omega)
          rw [hf] at this
          cases this
      rw [hf, ← es]
      exact back H1 _ p1
    · have ht := b2i_n0.mp z
      have next : ∀ (H : hAH) (v : Bool) (l8 : Option Value), PY K H b Y → v = vOkG Y.1 i (vFee Y.1 (nI (pop i))) k → hJ K M_La_companies (0, 0) (RQ K b Y 1) 207 (0, 0) [some (.ref b), some (.int (nI many)), some (.int (nI all)), some (.int (nI ch)), some (.int le), some (.int 1), some (.int (nI i)), some (.int (b2i st)), l8, some (.int (nI k))] [.int (b2i v)] H := by
        intro H v l8 p ev
        refine hGo_sound (okc_La_companies K _ _) [135, 215] 60 _ _ _ _ _ ?_
        have := ih (k + 1) _ H (by omega) p (nI_1 k)
        rw [allB, ht, ← ev, Bool.true_and] at this
        exact this
      have hk' : k < vN Y.1 := by omega
      have e1 := sh1_bit i (k := k) (by omega)
      cases hb : i.testBit k
      · rw [hb] at e1
        refine ⟨fun _ => next H1 true _ p1 ?_, fun q => absurd e1 q⟩
        unfold vOkG
        rw [hb]; rfl
      · rw [hb] at e1
        refine ⟨fun q => absurd (q.symm.trans e1) (by decide), fun _ => ?_⟩
        have eo : ∀ (a1 a2 a3 : Bool), (!decide (vG Y.1 k 2 = 0)) = a1 → decide (vFee Y.1 (nI (pop i)) ≤ vG Y.1 k 0) = a2 → vMet Y.1 k i = a3 → vOkG Y.1 i (vFee Y.1 (nI (pop i))) k = (a1 && a2 && a3) := fun a1 a2 a3 h1 h2 h3 => by
          unfold vOkG
          rw [hb, h1, h2, h3, decide_eq_true hk']
          cases a1 <;> cases a2 <;> cases a3 <;> rfl
        refine ⟨_, p1.obj, _, q_gu p1 hk' (f := 2) (by decide), ?_⟩
        rintro _ H2 ⟨rfl, p2⟩
        have h01 := (p.w.2.2.2.2.1 k hk').2.2.1
        refine ⟨fun q => next H2 false _ p2 ?_, fun q => ?_⟩
        · have h0 := h01.resolve_right q
          rw [eo false _ _ (by rw [decide_eq_true h0]; rfl) rfl rfl]
          rfl
        · have a1 : (!decide (vG Y.1 k 2 = 0)) = true := by rw [q]; decide
          refine ⟨_, p2.obj, _, q_met p2 (a_met p.w hk' hi), ?_⟩
          rintro _ H3 ⟨rfl, p3⟩
          refine ⟨fun q3 => next H3 false _ p3 ?_, fun q3 => ?_⟩
          · have h0 : vMet Y.1 k i = false := by
              cases h : vMet Y.1 k i
              · rfl
              · rw [h] at q3; exact absurd rfl q3
            rw [eo true _ false a1 rfl h0]
            cases decide (vFee Y.1 (nI (pop i)) ≤ vG Y.1 k 0) <;> rfl
          · have h0 : vMet Y.1 k i = true := by
              cases h : vMet Y.1 k i
              · rw [h] at q3; exact absurd q3 (by decide)
              · rfl
            refine ⟨_, c_ones K H3 i, ?_⟩
            rintro _ _ ⟨rfl, rfl⟩
            refine ⟨_, p3.obj, _, q_fee p3 (a_fee (bit_pos (by omega) hb) (pop_le i)), ?_⟩
            rintro _ H4 ⟨rfl, p4⟩
            refine ⟨_, p4.obj, _, q_gu p4 hk' (f := 0) (by decide), ?_⟩
            rintro _ H5 ⟨rfl, p5⟩
            refine ⟨fun q5 => next H5 false _ p5 ?_, fun q5 => next H5 true _ p5 ?_⟩
            · rw [eo true false true a1 (decide_eq_false (Int32.not_le.mpr q5)) h0]
              rfl
            · rw [eo true true true a1 (decide_eq_true (Int32.not_lt.mp q5)) h0]
              rfl
set_option maxRecDepth 100000 in
set_option maxHeartbeats 4000000 in
/-- behind the set's own question: the tests against the greatest, the least and the chosen -/
theorem l_compT {i many all ch : Nat} {le : Int32} {st : Bool} {l9 : Option Value} (p : PY K H b Y) (hi : i < 2 ^ vN Y.1) (est : st = vStb Y.1 i) (eall : all = vGr Y.1) (ech : ch = vCh Y.1) (ele : le = oI (smO (vStb Y.1) (2 ^ vN Y.1 - 1)))
    (next : ∀ (H : hAH) (c : Nat) (w : Int32) (l7 l8 l9 : Option Value), PY K H b Y → c = many + (if st then 1 else 0) → w = nI (i + 1) → hJ K M_La_companies (0, 0) (RQ K b Y 1) 95 (0, 0) [some (.ref b), some (.int (nI c)), some (.int (nI all)), some (.int (nI ch)), some (.int le), some (.int 1), some (.int w), l7, l8, l9] [] H) :
    hJ K M_La_companies (0, 0) (RQ K b Y 1) 215 (0, 0) [some (.ref b), some (.int (nI many)), some (.int (nI all)), some (.int (nI ch)), some (.int le), some (.int 1), some (.int (nI i)), some (.int (b2i st)), some (.int (b2i st)), l9] [] H := by
  have w := p.w
  have hn := w.1.2
  have h12 := two12 hn
  cases st
  · refine hGo_sound (okc_La_companies K _ _) [95] 90 _ _ _ _ _ ?_
    refine ⟨fun _ => ?_, fun z => absurd rfl z⟩
    refine ⟨fun z => absurd rfl z, fun _ => ?_⟩
    refine ⟨fun _ => ?_, fun z => absurd rfl z⟩
    refine ⟨fun _ => ?_, fun z => absurd rfl z⟩
    refine ⟨fun z => absurd z (by decide), fun _ => ?_⟩
    refine ⟨fun _ => ?_, fun z => absurd rfl z⟩
    rw [Int32.add_zero]
    exact next H many _ _ _ _ p rfl (nI_1 i)
  · have hs : vStb Y.1 i = true := est.symm
    have fin : ∀ (H : hAH) (l9 : Option Value), PY K H b Y → hJ K M_La_companies (0, 0) (RQ K b Y 1) 387 (0, 0) [some (.ref b), some (.int (nI (many + 1))), some (.int (nI all)), some (.int (nI ch)), some (.int le), some (.int 1), some (.int (nI i)), some (.int 1), some (.int 1), l9] [] H := by
      intro H l9 p
      refine hGo_sound (okc_La_companies K _ _) [95] 30 _ _ _ _ _ ?_
      exact next H (many + 1) _ _ _ _ p rfl (nI_1 i)
    have tst : ∀ (H : hAH) (l5 l9 : Option Value), PY K H b Y → hJ K M_La_companies (0, 0) (RQ K b Y 1) 287 (0, 0) [some (.ref b), some (.int (nI (many + 1))), some (.int (nI all)), some (.int (nI ch)), some (.int le), l5, some (.int (nI i)), some (.int 1), some (.int 1), l9] [] H := by
      intro H l5 l9 p
      refine hGo_sound (okc_La_companies K _ _) [95, 387] 90 _ _ _ _ _ ?_
      refine ⟨fun z => absurd z (by decide), fun _ => ?_⟩
      refine ⟨_, c_ones K H i, ?_⟩
      rintro _ _ ⟨rfl, rfl⟩
      refine ⟨_, p.obj, _, q_count p (x := 5) (v := Y.1 4) rfl, ?_⟩
      rintro _ H1 ⟨rfl, p1⟩
      refine ⟨fun z => ?_, fun z => ?_⟩
      · refine ⟨fun q => absurd q (by decide), fun _ => ?_⟩
        exact ⟨fun _ => fin H1 _ p1, fun q => absurd rfl q⟩
      · have hb := ch_best w hi ⟨hs, Int32.not_lt.mp z⟩
        have pl1 := pop_le i
        have pl2 := pop_le (vCh Y.1)
        rw [← ech] at hb pl2
        refine ⟨fun q => absurd q (by decide), fun _ => ⟨fun q => absurd q (by decide), fun _ => ?_⟩⟩
        refine ⟨_, c_ones K H1 i, ?_⟩
        rintro _ _ ⟨rfl, rfl⟩
        refine ⟨_, c_ones K _ ch, ?_⟩
        rintro _ _ ⟨rfl, rfl⟩
        refine ⟨fun _ => fin _ _ p1, fun q1 => ?_⟩
        refine ⟨_, c_ones K _ i, ?_⟩
        rintro _ _ ⟨rfl, rfl⟩
        refine ⟨_, c_ones K _ ch, ?_⟩
        rintro _ _ ⟨rfl, rfl⟩
        have h2 : pop i = pop ch ∧ (vWs Y.1 i < vWs Y.1 ch ∨ vWs Y.1 i = vWs Y.1 ch ∧ ch ≤ i) := by
          rcases hb with h | h
          · exact absurd (nI_lt h (by omega)) q1
          · exact h
        refine ⟨fun q => absurd (congrArg nI h2.1) q, fun _ => ?_⟩
        refine ⟨_, c_weight p1 i, ?_⟩
        rintro _ H2 ⟨rfl, p2⟩
        refine ⟨_, c_weight p2 ch, ?_⟩
        rintro _ H3 ⟨rfl, p3⟩
        refine ⟨fun _ => fin _ _ p3, fun q2 => ?_⟩
        refine ⟨_, c_weight p3 i, ?_⟩
        rintro _ H4 ⟨rfl, p4⟩
        refine ⟨_, c_weight p4 ch, ?_⟩
        rintro _ H5 ⟨rfl, p5⟩
        have h3 : vWs Y.1 i = vWs Y.1 ch ∧ ch ≤ i := by
          rcases h2.2 with h | h
          · exact absurd h q2
          · exact h
        refine ⟨fun q => absurd h3.1 q, fun _ => ?_⟩
        exact ⟨fun q => absurd q (nI_nlt h3.2 (by omega)), fun _ => fin _ _ p5⟩
    refine hGo_sound (okc_La_companies K _ _) [95, 287] 90 _ _ _ _ _ ?_
    refine ⟨fun z => absurd z (by decide), fun _ => ?_⟩
    refine ⟨fun z => absurd rfl z, fun _ => ?_⟩
    refine ⟨fun z => absurd z (by decide), fun _ => ?_⟩
    have hsub : nI i &&& (nI all ^^^ (-1)) = 0 := (part_iff (by omega) (by rw [eall]; exact gr_lt _)).mpr (by rw [eall]; exact stb_gr w (by omega) hs)
    refine ⟨fun z => absurd hsub z, fun _ => ?_⟩
    have em : nI many + 1 = nI (many + 1) := nI_1 many
    rw [em]
    refine ⟨fun _ => tst H _ _ p, fun z => ?_⟩
    have hi0 : i ≠ 0 := fun q => z (by rw [q]; rfl)
    rcases hm : smO (vStb Y.1) (2 ^ vN Y.1 - 1) with _ | s
    · exact absurd (sm_none w hm i hi hs) hi0
    · rw [hm] at ele
      obtain ⟨s1, s2, s3, s4⟩ := (sm_spec _ _).2 s hm
      have h5 := s4 i (by omega) (by omega) hs
      subst ele
      have pl1 := pop_le i
      have pl2 := pop_le s
      refine ⟨_, c_ones K _ i, ?_⟩
      rintro _ _ ⟨rfl, rfl⟩
      refine ⟨_, c_ones K _ s, ?_⟩
      rintro _ _ ⟨rfl, rfl⟩
      refine ⟨fun _ => tst _ _ _ p, fun q1 => ?_⟩
      refine ⟨_, c_ones K _ i, ?_⟩
      rintro _ _ ⟨rfl, rfl⟩
      refine ⟨_, c_ones K _ s, ?_⟩
      rintro _ _ ⟨rfl, rfl⟩
      have h6 : pop i = pop s ∧ s ≤ i := by
        rcases h5 with h | h
        · exact absurd (nI_lt h (by omega)) q1
        · exact h
      refine ⟨fun q => absurd (congrArg nI h6.1) q, fun _ => ?_⟩
      exact ⟨fun q => absurd q (nI_nlt h6.2 (by omega)), fun _ => tst _ _ _ p⟩
set_option maxRecDepth 100000 in
set_option maxHeartbeats 4000000 in
theorem l_comp {all ch : Nat} {le : Int32} (hn : vN Y.1 ≤ 12) (eall : all = vGr Y.1) (ech : ch = vCh Y.1) (ele : le = oI (smO (vStb Y.1) (2 ^ vN Y.1 - 1))) :
    ∀ (d i c : Nat) (w : Int32) (l7 l8 l9 : Option Value) (H : hAH), i + d = 2 ^ vN Y.1 → PY K H b Y → c = cnt (vStb Y.1) i → w = nI i → hJ K M_La_companies (0, 0) (RQ K b Y 1) 95 (0, 0) [some (.ref b), some (.int (nI c)), some (.int (nI all)), some (.int (nI ch)), some (.int le), some (.int 1), some (.int w), l7, l8, l9] [] H := by
  have h12 := two12 hn
  intro d
  induction d with
  | zero =>
    intro i c w l7 l8 l9 H hi p ec ew
    obtain rfl : i = 2 ^ vN Y.1 := by omega
    refine hGo_sound (okc_La_companies K _ _) [95] 60 _ _ _ _ _ ?_
    rw [ew]
    refine ⟨_, p.obj, _, q_n p, ?_⟩
    rintro _ H1 ⟨rfl, p1⟩
    refine ⟨fun _ => ?_, fun z => absurd (by rw [shl_n hn]; exact Int32.le_refl _) z⟩
    refine ⟨fun z => absurd z (by decide), fun _ => ?_⟩
    refine ⟨_, p1.obj, _, q_companies p1 (v := nI c) (by rw [ec]; rfl), ?_⟩
    rintro _ H2 ⟨rfl, p2⟩
    exact ⟨fun z => absurd rfl z, fun _ => ⟨Or.inr rfl, rfl, p2⟩⟩
  | succ d ih =>
    intro i c w l7 l8 l9 H hi p ec ew
    have hi' : i < 2 ^ vN Y.1 := by omega
    refine hGo_sound (okc_La_companies K _ _) [95, 135] 60 _ _ _ _ _ ?_
    rw [ew]
    refine ⟨_, p.obj, _, q_n p, ?_⟩
    rintro _ H1 ⟨rfl, p1⟩
    refine ⟨fun z => ?_, fun _ => ?_⟩
    · rw [shl_n hn] at z
      exact absurd ((nI_leI (by omega) (by omega)).mp z) (by omega)
    · refine ⟨fun z => absurd z (by decide), fun _ => ?_⟩
      refine ⟨_, p1.obj, _, q_stable p1 (a_stable p.w hi'), ?_⟩
      rintro _ H2 ⟨rfl, p2⟩
      have go : ∀ (H : hAH) (st : Bool), PY K H b Y → st = vStb Y.1 i → hJ K M_La_companies (0, 0) (RQ K b Y 1) 135 (0, 0) [some (.ref b), some (.int (nI c)), some (.int (nI all)), some (.int (nI ch)), some (.int le), some (.int 1), some (.int (nI i)), some (.int (b2i st)), some (.int (b2i true)), some (.int 0)] [] H := by
        intro H st p est
        refine l_compI (st := st) hi' hn (fun H l9 p => ?_) (vN Y.1) 0 0 H (by omega) p rfl
        rw [← est]
        refine l_compT p hi' est eall ech ele fun H c' w l7 l8 l9 p ec' ew => ?_
        refine ih (i + 1) c' w l7 l8 l9 H (by omega) p ?_ ew
        rw [ec', ec, cnt, est]
      cases hst : vStb Y.1 i
      · exact ⟨fun _ => go H2 false p2 hst.symm, fun z => absurd z (by decide)⟩
      · exact ⟨fun z => absurd rfl z, fun _ => go H2 true p2 hst.symm⟩
set_option maxRecDepth 100000 in
set_option maxHeartbeats 4000000 in
theorem c_companiesL (p : PY K H b Y) : hCT K M_La_companies [.ref b] H 0 0 (RQ K b Y 1) := by
  have w := p.w
  have hn := w.1.2
  have h12 := two12 hn
  have hp := Nat.two_pow_pos (vN Y.1)
  have hfit := ch_fits w
  have loop := fun (H : hAH) (p : PY K H b Y) => l_comp (K := K) (b := b) (Y := Y) (all := vGr Y.1) (ch := vCh Y.1) hn rfl rfl rfl (2 ^ vN Y.1) 0 0 0 none none none H (by omega) p rfl rfl
  refine hCT.go (okc_La_companies K _ _) [95] 120 (by decide +kernel) rfl rfl ?_
  refine ⟨_, p.obj, _, q_company p (v := nI (vGr Y.1)) rfl, ?_⟩
  rintro _ H1 ⟨rfl, p1⟩
  refine ⟨_, p1.obj, _, q_company p1 (v := nI (vCh Y.1)) rfl, ?_⟩
  rintro _ H2 ⟨rfl, p2⟩
  refine ⟨_, p2.obj, _, q_company p2 (v := oI (smO (vStb Y.1) (2 ^ vN Y.1 - 1))) rfl, ?_⟩
  rintro _ H3 ⟨rfl, p3⟩
  refine ⟨_, p3.obj, _, q_stable p3 (v := 1) (by rw [a_stable w (gr_lt2 w), gr_stb]; rfl), ?_⟩
  rintro _ H4 ⟨rfl, p4⟩
  refine ⟨fun z => absurd rfl z, fun _ => ?_⟩
  refine ⟨_, p4.obj, _, q_stable p4 (v := 1) (by rw [a_stable w (ch_lt w), hfit.1]; rfl), ?_⟩
  rintro _ H5 ⟨rfl, p5⟩
  refine ⟨fun z => absurd rfl z, fun _ => ?_⟩
  refine ⟨_, c_ones K _ (vCh Y.1), ?_⟩
  rintro _ _ ⟨rfl, rfl⟩
  refine ⟨_, p5.obj, _, q_count p5 (x := 5) (v := Y.1 4) rfl, ?_⟩
  rintro _ H6 ⟨rfl, p6⟩
  refine ⟨fun z => absurd z (Int32.not_lt.mpr hfit.2), fun _ => ?_⟩
  have loop6 := loop H6 p6
  rcases hm : smO (vStb Y.1) (2 ^ vN Y.1 - 1) with _ | s
  · rw [hm] at loop6
    have hz : vGr Y.1 = 0 := sm_none w hm _ (gr_lt2 w) gr_stb
    refine ⟨fun z => absurd z (by decide), fun _ => ?_⟩
    refine ⟨fun z => absurd rfl z, fun _ => ?_⟩
    refine ⟨fun z => absurd (by rw [hz]; rfl) z, fun _ => ?_⟩
    exact loop6
  · rw [hm] at loop6
    obtain ⟨s1, s2, s3, -⟩ := (sm_spec _ _).2 s hm
    have loop7 := loop
    rw [hm] at loop7
    refine ⟨fun _ => ?_, fun z => absurd (nI_pos' (by omega)) z⟩
    refine ⟨_, p6.obj, _, q_stable p6 (v := 1) (by
      show sp_stable Y (nI s) = 1
      rw [a_stable w (by omega), s3]; rfl), ?_⟩
    rintro _ H7 ⟨rfl, p7⟩
    refine ⟨fun z => absurd rfl z, fun _ => ?_⟩
    refine ⟨fun z => absurd z (nI_nle (by omega) (by omega)), fun _ => ?_⟩
    exact loop7 H7 p7
end LCO
