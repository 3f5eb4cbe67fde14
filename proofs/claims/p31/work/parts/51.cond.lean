/-! THE LAW: a condition is typed, and given -/
section LCD
variable {K : hK} {H : hAH} {b g len k : Nat} {Y : hY} {tx : Nat → Nat}
/-- an act of the law: all is well, and the party that stands there then -/
def AQ (K : hK) (b : Nat) (Y : hY) : hPost := fun r H' => r = some (.int 1) ∧ ∃ Y', PY K H' b Y' ∧ vN Y'.1 = vN Y.1 ∧ ∀ m, m ≤ 77 → LI m Y.1 → LI (m + 3) Y'.1
theorem i2c_nI {q : Nat} (hq : q < 65536) : ((nI q).toUInt32 % 65536).toInt32 = nI q := by
  rw [pk_char, pk_tn (by omega), Nat.mod_eq_of_lt hq]
theorem shr_any {n s : Nat} (hn : n < 2147483648) (hs : s < 32) : nI n >>> (nI s &&& 31) = nI (n / 2 ^ s) := pk_shrN hn _ s (sh_amt s hs)
theorem q_ty (p : PY K H b (ytx Y len tx)) (hl : len < 60) {x : Int32} {c : Nat} (e : x = nI c) (hc : c < 65536) : hCT K M_Pa_type [.ref b, .int x] H 0 0 (RQ K b (ytx Y (len + 1) (up tx len c)) (nI (len + 1))) := by
  subst e
  have := q_type p hc
  rw [a_type Y hl] at this
  exact this
abbrev dJ (K : hK) (b : Nat) (Y : hY) (pc : Nat) (ls : hLs) (H : hAH) : Prop := hJ K M_La_condition (0, 0) (AQ K b Y) pc (0, 0) ls [] H
set_option maxRecDepth 100000 in
set_option maxHeartbeats 4000000 in
/-- an atom -/
theorem d_atom {y zz : Nat} (p : PY K H b (ytx Y len tx)) (hn0 : 0 < vN Y.1) (ht : TX (vN Y.1) tx len 0) (hl : len ≤ 5 * k + 1) (hk : k ≤ 2) (hz : zz < 2147483648)
    (next : ∀ (H : hAH) (len' : Nat) (tx' : Nat → Nat), PY K H b (ytx Y len' tx') → TB (vN Y.1) tx' len' → len' ≤ 5 * (k + 1) → dJ K b Y 247 [some (.ref b), some (.int (nI g)), some (.int (nI y)), some (.int 1), some (.int (nI k)), some (.int (nI zz)), some (.int (nI (zz % 4)))] H) :
    dJ K b Y 83 [some (.ref b), some (.int (nI g)), some (.int (nI y)), some (.int 1), some (.int (nI k)), some (.int (nI zz)), some (.int (nI (zz % 4)))] H := by
  have w : WF Y.1 := p.w
  have hn := w.1.2
  have z2 : nI zz >>> ((2 : Int32) &&& 31) = nI (zz / 4) := shr_any (s := 2) hz (by decide)
  have z3 : nI zz >>> ((3 : Int32) &&& 31) = nI (zz / 8) := shr_any (s := 3) hz (by decide)
  have z4 : nI zz >>> ((4 : Int32) &&& 31) = nI (zz / 16) := shr_any (s := 4) hz (by decide)
  have hz4 : zz / 4 < 2147483648 := by omega
  have hz8 : zz / 8 < 2147483648 := by omega
  have hz16 : zz / 16 < 2147483648 := by omega
  have m2 : zz / 4 % vN Y.1 < vN Y.1 := Nat.mod_lt _ hn0
  have m3 : zz / 8 % vN Y.1 < vN Y.1 := Nat.mod_lt _ hn0
  have m4 : zz / 16 % vN Y.1 < vN Y.1 := Nat.mod_lt _ hn0
  have r2 := pk_rem (a := zz / 4) (d := vN Y.1) hz4 hn0 (by omega)
  have r3 := pk_rem (a := zz / 8) (d := vN Y.1) hz8 hn0 (by omega)
  have r4 := pk_rem (a := zz / 16) (d := vN Y.1) hz16 hn0 (by omega)
  have hm := Nat.mod_lt zz (show 4 > 0 by decide)
  refine hGo_sound (okc_La_condition K _ _) [247] 120 _ _ _ _ _ ?_
  refine ⟨fun q => ⟨fun q2 => ?_, fun q2 => ?_⟩, fun q => ?_⟩
  · have h3 : zz % 4 = 3 := by
      have h1 := (nI_leI (a := 2) (by decide) (by omega)).mp q
      have h2 : zz % 4 ≠ 2 := fun e => q2 (by rw [e]; rfl)
      omega
    refine ⟨fun q => absurd q (by decide), fun _ => ?_⟩
    have r6 := pk_rem (a := zz / 4) (d := 2) hz4 (by decide) (by decide)
    have m6 := Nat.mod_lt (zz / 4) (show 2 > 0 by decide)
    refine ⟨by decide, ?_⟩
    refine ⟨_, p.obj, _, q_ty p (by omega) (c := 49 + zz / 4 % 2) (by
      rw [z2, show (nI (zz / 4) - nI (zz / 4) / 2 * 2 : Int32) = nI (zz / 4 % 2) from r6]
      show ((nI 49 + _).toUInt32 % 65536).toInt32 = _
      rw [nI_add, i2c_nI (by omega)]) (by omega), ?_⟩
    rintro _ H1 ⟨rfl, p1⟩
    refine ⟨fun q => absurd q (nI_nle (by omega) (by omega)), fun _ => ?_⟩
    have t1 := ht.dig m6
    refine ⟨_, p1.obj, _, q_ty p1 (by omega) (c := 58) rfl (by decide), ?_⟩
    rintro _ H2 ⟨rfl, p2⟩
    refine ⟨fun q => absurd q (nI_nle (by omega) (by omega)), fun _ => ?_⟩
    have t2 := t1.col
    refine ⟨_, p2.obj, _, q_n p2, ?_⟩
    rintro _ H3 ⟨rfl, p3⟩
    refine ⟨nI_ne0 (n := vN Y.1) hn0 (by omega), ?_⟩
    refine ⟨_, p3.obj, _, q_ty p3 (by omega) (c := 97 + zz / 8 % vN Y.1) (by
      show ((97 + (nI zz >>> ((3 : Int32) &&& 31) - nI zz >>> ((3 : Int32) &&& 31) / nI (vN Y.1) * nI (vN Y.1))).toUInt32 % 65536).toInt32 = _
      rw [z3, r3]
      show ((nI 97 + _).toUInt32 % 65536).toInt32 = _
      rw [nI_add, i2c_nI (by omega)]) (by omega), ?_⟩
    rintro _ H4 ⟨rfl, p4⟩
    refine ⟨fun q => absurd q (nI_nle (by omega) (by omega)), fun _ => ?_⟩
    have t3 := t2.let3 (Or.inl rfl) hn m3
    refine ⟨_, p4.obj, _, q_n p4, ?_⟩
    rintro _ H5 ⟨rfl, p5⟩
    refine ⟨nI_ne0 (n := vN Y.1) hn0 (by omega), ?_⟩
    refine ⟨_, p5.obj, _, q_ty p5 (by omega) (c := 97 + zz / 16 % vN Y.1) (by
      show ((97 + (nI zz >>> ((4 : Int32) &&& 31) - nI zz >>> ((4 : Int32) &&& 31) / nI (vN Y.1) * nI (vN Y.1))).toUInt32 % 65536).toInt32 = _
      rw [z4, r4]
      show ((nI 97 + _).toUInt32 % 65536).toInt32 = _
      rw [nI_add, i2c_nI (by omega)]) (by omega), ?_⟩
    rintro _ H6 ⟨rfl, p6⟩
    refine ⟨fun q => absurd q (nI_nle (by omega) (by omega)), fun _ => ?_⟩
    have t4 := t3.let3 (Or.inr rfl) hn m4
    exact next H6 _ _ p6 ⟨5, Or.inr (Or.inl rfl), t4⟩ (by omega)
  · refine ⟨fun q => absurd q (by decide), fun _ => ?_⟩
    refine ⟨_, p.obj, _, q_ty p (by omega) (c := 35) rfl (by decide), ?_⟩
    rintro _ H1 ⟨rfl, p1⟩
    refine ⟨fun q => absurd q (nI_nle (by omega) (by omega)), fun _ => ?_⟩
    have t1 := ht.hash
    have r6 := pk_rem (a := zz / 4) (d := 6) hz4 (by decide) (by decide)
    have m6 := Nat.mod_lt (zz / 4) (show 6 > 0 by decide)
    refine ⟨by decide, ?_⟩
    refine ⟨_, p1.obj, _, q_ty p1 (by omega) (c := 49 + zz / 4 % 6) (by
      rw [z2, show (nI (zz / 4) - nI (zz / 4) / 6 * 6 : Int32) = nI (zz / 4 % 6) from r6]
      show ((nI 49 + _).toUInt32 % 65536).toInt32 = _
      rw [nI_add, i2c_nI (by omega)]) (by omega), ?_⟩
    rintro _ H2 ⟨rfl, p2⟩
    refine ⟨fun q => absurd q (nI_nle (by omega) (by omega)), fun _ => ?_⟩
    exact next H2 _ _ p2 (t1.num m6) (by omega)
  · refine ⟨fun q => absurd q (by decide), fun _ => ?_⟩
    refine ⟨_, p.obj, _, q_n p, ?_⟩
    rintro _ H1 ⟨rfl, p1⟩
    refine ⟨nI_ne0 (n := vN Y.1) hn0 (by omega), ?_⟩
    refine ⟨_, p1.obj, _, q_ty p1 (by omega) (c := 97 + zz / 4 % vN Y.1) (by
      show ((97 + (nI zz >>> ((2 : Int32) &&& 31) - nI zz >>> ((2 : Int32) &&& 31) / nI (vN Y.1) * nI (vN Y.1))).toUInt32 % 65536).toInt32 = _
      rw [z2, r2]
      show ((nI 97 + _).toUInt32 % 65536).toInt32 = _
      rw [nI_add, i2c_nI (by omega)]) (by omega), ?_⟩
    rintro _ H2 ⟨rfl, p2⟩
    refine ⟨fun q => absurd q (nI_nle (by omega) (by omega)), fun _ => ?_⟩
    exact next H2 _ _ p2 ⟨4, Or.inl rfl, ht.let0 hn m2⟩ (by omega)
set_option maxRecDepth 100000 in
set_option maxHeartbeats 4000000 in
/-- the condition is given -/
theorem d_give {y : Nat} {l4 l5 l6 : Option Value} (p : PY K H b (ytx Y len tx)) (hg : g < vN Y.1) (ht : TB (vN Y.1) tx len) : dJ K b Y 253 [some (.ref b), some (.int (nI g)), some (.int (nI y)), some (.int 1), l4, l5, l6] H := by
  have w : WF Y.1 := p.w
  have hn := w.1.2
  have h12 := two12 hn
  have hL := ht.lt
  have ea := a_setc w hg ht
  have enn := nn_setCondition w hg ht
  have eli : ∀ m, m ≤ 77 → LI m Y.1 → LI (m + 3) (sp_setCondition (ytx Y len tx) (nI g)).2.1 := fun m _ i => (li_setCondition p.2 (m := m) i (nI g)).mono (by omega)
  have give : ∀ (H : hAH) (late : Int32) (l6 : Option Value), PY K H b (ytx Y len tx) → late = (if Y.1 5 < Y.1 1 then Y.1 6 else 0) → dJ K b Y 287 [some (.ref b), some (.int (nI g)), some (.int (nI y)), some (.int 1), some (.int (vG Y.1 g 3)), some (.int late), l6] H := by
    intro H late l6 p el
    refine hGo_sound (okc_La_condition K _ _) [] 120 _ _ _ _ _ ?_
    refine ⟨_, p.obj, _, q_setCondition p (nI g), ?_⟩
    rintro _ H1 ⟨rfl, p1⟩
    refine ⟨fun q => absurd q (by decide), fun _ => ?_⟩
    by_cases h7 : Y.1 7 = 1
    · rw [if_pos h7] at ea
      refine ⟨_, p1.obj, _, q_count p1 (x := 8) (v := 1) (by rw [ea]; exact h7), ?_⟩
      rintro _ H2 ⟨rfl, p2⟩
      refine ⟨fun q => absurd rfl q, fun _ => ?_⟩
      refine ⟨fun q => absurd (by rw [ea]) q, fun _ => ?_⟩
      exact ⟨Or.inr rfl, rfl, _, p2, enn, eli⟩
    · rw [if_neg h7] at ea
      have hn' : vN (chgV (cndV Y.1 g (tL tx len) (tM tx len)) g) = vN Y.1 := by rw [chg_n, cnd_n]
      have e1 : (sp_setCondition (ytx Y len tx) (nI g)).1 = nI (pop (tL tx len)) := by rw [ea]
      have e2 : (sp_setCondition (ytx Y len tx) (nI g)).2.1 = chgV (cndV Y.1 g (tL tx len) (tM tx len)) g := by rw [ea]; rfl
      have hg' : g < vN (sp_setCondition (ytx Y len tx) (nI g)).2.1 := by rw [e2, hn']; exact hg
      have g4 : vG (sp_setCondition (ytx Y len tx) (nI g)).2.1 g 4 = nI (tL tx len) := by
        rw [e2, chg_gj (by decide) (Or.inr (by decide)), cnd_g (by omega) (by decide), if_pos ⟨rfl, rfl⟩]
      have g3 : vG (sp_setCondition (ytx Y len tx) (nI g)).2.1 g 3 = vG Y.1 g 3 + late := by
        rw [e2, chg_g (by decide), if_pos rfl, cnd_g (by omega) (by decide), if_neg (fun q => absurd q.2 (by decide)), cnd_o (by omega) (by omega), cnd_o (by omega) (by omega), cnd_o (by omega) (by omega), el]
      have e7 : (sp_setCondition (ytx Y len tx) (nI g)).2.1 7 = Y.1 7 := by
        rw [e2, chg_o (by decide), cnd_o (by omega) (by omega)]
      refine ⟨_, p1.obj, _, q_count p1 (x := 8) (v := Y.1 7) e7, ?_⟩
      rintro _ H2 ⟨rfl, p2⟩
      refine ⟨fun _ => ?_, fun q => absurd q h7⟩
      have pl := pop_le (tL tx len)
      refine ⟨fun q => absurd q (by rw [e1]; exact nI_pos (by omega)), fun _ => ?_⟩
      refine ⟨_, p2.obj, _, q_guest p2 (x := 4) (v := nI (tL tx len)) (by
        have := a_guest p2.w hg' (f := 4) (by decide)
        rw [g4] at this
        exact this), ?_⟩
      rintro _ H3 ⟨rfl, p3⟩
      refine ⟨_, c_ones K H3 (tL tx len), ?_⟩
      rintro _ _ ⟨rfl, rfl⟩
      refine ⟨fun q => absurd e1 q, fun _ => ?_⟩
      refine ⟨_, p3.obj, _, q_guest p3 (x := 3) (v := vG Y.1 g 3 + late) (by
        have := a_guest p3.w hg' (f := 3) (by decide)
        rw [g3] at this
        exact this), ?_⟩
      rintro _ H4 ⟨rfl, p4⟩
      refine ⟨fun q => absurd rfl q, fun _ => ?_⟩
      exact ⟨Or.inr rfl, rfl, _, p4, enn, eli⟩
  refine hGo_sound (okc_La_condition K _ _) [287] 60 _ _ _ _ _ ?_
  refine ⟨_, p.obj, _, q_gu p (k := g) hg (f := 3) (by decide), ?_⟩
  rintro _ H1 ⟨rfl, p1⟩
  refine ⟨_, p1.obj, _, q_count p1 (x := 0) (v := Y.1 1) rfl, ?_⟩
  rintro _ H2 ⟨rfl, p2⟩
  refine ⟨_, p2.obj, _, q_count p2 (x := 6) (v := Y.1 5) rfl, ?_⟩
  rintro _ H3 ⟨rfl, p3⟩
  refine ⟨fun q => ?_, fun q => ?_⟩
  · exact give H3 0 _ p3 (if_neg (Int32.not_lt.mpr q)).symm
  · refine ⟨_, p3.obj, _, q_count p3 (x := 7) (v := Y.1 6) rfl, ?_⟩
    rintro _ H4 ⟨rfl, p4⟩
    exact give H4 (Y.1 6) _ p4 (if_pos (Int32.not_le.mp q)).symm
set_option maxRecDepth 100000 in
set_option maxHeartbeats 4000000 in
/-- token by token -/
theorem l_cond {y : Nat} (hg : g < vN Y.1) (hy : y < 2147483648) : ∀ (d k len : Nat) (tx : Nat → Nat) (v : Int32) (l5 l6 : Option Value) (H : hAH), k + d = 1 + y % 3 → PY K H b (ytx Y len tx) → len ≤ 5 * k → (k = 0 → TX (vN Y.1) tx len 0) → (0 < k → TB (vN Y.1) tx len) → v = nI k → dJ K b Y 16 [some (.ref b), some (.int (nI g)), some (.int (nI y)), some (.int 1), some (.int v), l5, l6] H := by
  have h3 := Nat.mod_lt y (show 3 > 0 by decide)
  have er : (nI y - nI y / 3 * 3 : Int32) = nI (y % 3) := pk_rem (d := 3) hy (by decide) (by decide)
  have e1 : (1 : Int32) + (nI y - nI y / 3 * 3) = nI (1 + y % 3) := by
    rw [er]
    exact nI_add 1 _
  intro d
  induction d with
  | zero =>
    intro k len tx v l5 l6 H hk p hl h0 hB ev
    refine hGo_sound (okc_La_condition K _ _) [16, 253] 60 _ _ _ _ _ ?_
    rw [ev]
    refine ⟨by decide, ?_⟩
    refine ⟨fun _ => d_give p hg (hB (by omega)), fun z => absurd (by rw [e1]; exact nI_le (by omega) (by omega)) z⟩
  | succ d ih =>
    intro k len tx v l5 l6 H hk p hl h0 hB ev
    have w : WF Y.1 := p.w
    have hn := w.1.2
    have es : nI y >>> (((3 : Int32) + 7 * nI k) &&& 31) = nI (y / 2 ^ (3 + 7 * k)) := by
      rw [show (3 : Int32) + 7 * nI k = nI (3 + 7 * k) by
        rw [show (7 : Int32) * nI k = nI (7 * k) from pk_mul 7 k]
        exact nI_add 3 _]
      exact shr_any hy (by omega)
    have hz : y / 2 ^ (3 + 7 * k) < 2147483648 := Nat.lt_of_le_of_lt (Nat.div_le_self _ _) hy
    generalize hzz : y / 2 ^ (3 + 7 * k) = zz at *
    have ea : nI zz &&& 3 = nI (zz % 4) := pk_andN (by omega) (m := 3) 2 (by decide)
    have atom : ∀ (H : hAH) (len' : Nat) (tx' : Nat → Nat), PY K H b (ytx Y len' tx') → TX (vN Y.1) tx' len' 0 → len' ≤ 5 * k + 1 → dJ K b Y 83 [some (.ref b), some (.int (nI g)), some (.int (nI y)), some (.int 1), some (.int (nI k)), some (.int (nI zz)), some (.int (nI (zz % 4)))] H := by
      intro H len' tx' p ht hl
      refine d_atom p (by omega) ht hl (by omega) hz fun H len' tx' p hB hl => ?_
      refine hGo_sound (okc_La_condition K _ _) [16] 20 _ _ _ _ _ ?_
      exact ih (k + 1) len' tx' _ _ _ H (by omega) p hl (fun q => by omega) (fun _ => hB) (nI_1 k)
    refine hGo_sound (okc_La_condition K _ _) [16, 253, 83] 90 _ _ _ _ _ ?_
    rw [ev]
    refine ⟨by decide, ?_⟩
    refine ⟨fun z => ?_, fun _ => ?_⟩
    · rw [e1] at z
      exact absurd ((nI_leI (by omega) (by omega)).mp z) (by omega)
    · refine ⟨fun z => absurd z (by decide), fun _ => ?_⟩
      by_cases hk0 : k = 0
      · subst hk0
        refine ⟨fun _ => ?_, fun z => absurd rfl z⟩
        rw [es, ea]
        exact atom H len tx p (h0 rfl) (by omega)
      · have hB' := hB (by omega)
        refine ⟨fun z => absurd z (nI_ne0 (by omega) (by omega)), fun _ => ?_⟩
        rw [es, ea]
        refine ⟨fun _ => ?_, fun _ => ?_⟩
        · refine ⟨_, p.obj, _, q_ty p (by omega) (c := 124) rfl (by decide), ?_⟩
          rintro _ H1 ⟨rfl, p1⟩
          refine ⟨fun q => absurd q (nI_nle (by omega) (by omega)), fun _ => ?_⟩
          exact atom H1 _ _ p1 (hB'.op (Or.inr rfl)) (by omega)
        · refine ⟨_, p.obj, _, q_ty p (by omega) (c := 38) rfl (by decide), ?_⟩
          rintro _ H1 ⟨rfl, p1⟩
          refine ⟨fun q => absurd q (nI_nle (by omega) (by omega)), fun _ => ?_⟩
          exact atom H1 _ _ p1 (hB'.op (Or.inl rfl)) (by omega)
set_option maxRecDepth 100000 in
set_option maxHeartbeats 4000000 in
theorem c_condition (p : PY K H b Y) (hg : g < vN Y.1) {y : Nat} (hy : y < 2147483648) : hCT K M_La_condition [.ref b, .int (nI g), .int (nI y)] H 0 0 (AQ K b Y) := by
  have hlen := p.2.2.2.2.2.2.1
  refine hCT.go (okc_La_condition K _ _) [16] 60 (by decide +kernel) rfl rfl ?_
  refine ⟨_, p.obj, _, q_clearText p, ?_⟩
  rintro _ H1 ⟨rfl, p1⟩
  refine ⟨fun z => absurd z (nI_pos (by omega)), fun _ => ?_⟩
  exact l_cond (Y := Y) hg hy (1 + y % 3) 0 0 Y.2.2.2.2.2.2 0 none none H1 (by omega) p1 (Nat.zero_le _) (fun _ => TX.zero) (fun q => absurd q (by decide)) rfl
end LCD
