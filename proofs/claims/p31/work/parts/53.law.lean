/-! THE LAW: a party is made, acts, is asked; at the end it is brought back -/
def lwQ : hPost := fun r _ => r = some (.int 1)
section LLW
variable {K : hK} {H : hAH} {a b L x m : Nat} {xs : Nat → Int32} {Y : hY} {B : Nat × Nat} {cu : hCu}
theorem zgr_0 : vGr V0 = 0 := by
  have := gr_lt2 WF.zero
  rw [V0_n] at this
  omega
theorem zch_0 : vCh V0 = 0 := by
  have := ch_lt WF.zero
  rw [V0_n] at this
  omega
theorem zeL_0 : eL (vS V0) = 0 := by
  refine Classical.byContradiction fun q => ?_
  refine (eL_spec (vS V0)).2.2 0 (by omega) ?_
  refine Nat.eq_of_testBit_eq fun k => ?_
  rw [Nat.zero_testBit]
  cases h : (eaw (vS V0) (ess (vS V0) 0)).testBit k
  · rfl
  · exact absurd (show k < vN V0 from (eaw_in h).2.1) (by rw [V0_n]; omega)
theorem z_company2 : sp_company Y0 2 = -5 := by
  show oI (smO (vStb V0) (2 ^ vN V0 - 1)) = -5
  rw [V0_n]
  rfl
theorem z_companies : sp_companies Y0 = 1 := by
  show nI (cnt (vStb V0) (2 ^ vN V0)) = 1
  rw [V0_n, show (2 : Nat) ^ 0 = 0 + 1 from rfl, cnt, stb_0]
  rfl
theorem z_fix : sp_fix Y0 = (-5, Y0) := by
  unfold sp_fix
  rw [if_neg (show ¬ Y0.1 7 = 1 from (by decide : ¬ V0 7 = 1)), if_pos (show vCh Y0.1 = 0 from zch_0)]
theorem set_val {j p q : Nat} (hj : j ≤ 4) (h7 : ¬ Y.1 7 = 1) (ep : Y.1 (2 + j) = nI p) (hp : p < 2147483648) (hq : q < 2147483648) (hpq : p ≠ q) (h1 : setLo j ≤ nI q) (h2 : nI q ≤ setHi j) : sp_set Y (nI j) (nI q) = (nI p, yAct Y (upd Y.1 (2 + j) (nI q))) := by
  unfold sp_set
  rw [if_neg (not_not_intro ⟨nI_le (a := 0) (by omega) (by omega), nI_le (b := 4) hj (by decide)⟩), clp_nI (by omega), if_neg (not_not_intro ⟨h1, h2⟩), if_neg h7, ep, if_neg (fun e => hpq (nI_inj (by omega) (by omega) e))]
theorem add_val (w : WF Y.1) (h7 : ¬ Y.1 7 = 1) {k l t : Nat} (hk : vN Y.1 = k) (hlt : k < 12) (hl : l ≤ 99999) (h1 : 1 ≤ t) (h9 : t ≤ 9) : sp_addGuest Y (nI l) (nI t) = (nI k, yAct Y (addV Y.1 k (nI l) (nI t))) := by
  unfold sp_addGuest
  rw [if_neg (not_or.mpr ⟨not_not_intro ⟨nI_le (a := 0) (by omega) (by omega), nI_le (b := 99999) hl (by decide)⟩, not_not_intro ⟨nI_le (a := 1) h1 (by omega), nI_le (b := 9) h9 (by decide)⟩⟩), if_neg h7, if_neg (by omega), hk]
theorem q_setE (p : PY K H b Y) (hK' : hSetK K) {x y u v : Int32} (e1 : x = u) (e2 : y = v) : hCT K M_Pa_set [.ref b, .int x, .int y] H 0 0 (RQ K b (sp_set Y u v).2 (sp_set Y u v).1) := by
  subst e1 e2
  exact q_set p hK' x y
theorem q_addGuestE (p : PY K H b Y) {x y u v : Int32} (e1 : x = u) (e2 : y = v) : hCT K M_Pa_addGuest [.ref b, .int x, .int y] H 0 0 (RQ K b (sp_addGuest Y u v).2 (sp_addGuest Y u v).1) := by
  subst e1 e2
  exact q_addGuest p x y
theorem un_val {V : Nat → Int32} : ∃ j Hs, sp_undo (yAct Y V) = (nI j, (Y.1, j, Hs, Y.2.2.2)) ∧ j ≤ Y.2.1 := by
  by_cases h : Y.2.1 = 4
  · refine ⟨3, recH Y.1 Y.2.1 Y.2.2.1, ?_, by omega⟩
    have ez : (yAct Y V).2.1 = 4 := if_pos h
    unfold sp_undo
    rw [if_neg (by rw [ez]; decide), ez]
    have er : (yAct Y V).2.2.1 (4 - 1) = Y.1 := by
      show recH Y.1 Y.2.1 Y.2.2.1 3 = Y.1
      unfold recH
      rw [if_pos h, if_pos rfl]
    rw [er]
    rfl
  · refine ⟨Y.2.1, recH Y.1 Y.2.1 Y.2.2.1, ?_, Nat.le_refl _⟩
    have ez : (yAct Y V).2.1 = Y.2.1 + 1 := if_neg h
    unfold sp_undo
    rw [if_neg (by rw [ez]; omega), ez, Nat.add_sub_cancel]
    have er : (yAct Y V).2.2.1 Y.2.1 = Y.1 := by
      show recH Y.1 Y.2.1 Y.2.2.1 Y.2.1 = Y.1
      unfold recH
      rw [if_neg h, if_pos rfl]
    rw [er]
    rfl
abbrev wJ (K : hK) (B : Nat × Nat) (pc : Nat) (cu : hCu) (ls : hLs) (H : hAH) : Prop := hJ K M_La_law B lwQ pc cu ls [] H
set_option maxRecDepth 100000 in
set_option maxHeartbeats 4000000 in
/-- the end: snapshot, undo -/
theorem w_end {l4 l5 : Option Value} (p : PY K H b Y) (i : LI m Y.1) (hm : m ≤ 80) : wJ K B 223 cu [some (.ref a), some (.ref b), some (.int (nI x)), some (.int 1), l4, l5] H := by
  have w := p.w
  refine hGo_sound (okc_La_law K _ _) [] 150 _ _ _ _ _ ?_
  refine ⟨_, p.obj, _, q_company p (x := 0) (v := nI (vGr Y.1)) rfl, ?_⟩
  rintro _ H1 ⟨rfl, p1⟩
  refine ⟨_, p1.obj, _, q_count p1 (x := 0) (v := Y.1 1) rfl, ?_⟩
  rintro _ H2 ⟨rfl, p2⟩
  refine ⟨fun q => absurd q (by decide), fun _ => ?_⟩
  refine ⟨_, p2.obj, _, q_keep p2, ?_⟩
  rintro _ H3 ⟨rfl, p3⟩
  refine ⟨_, p3.obj, _, q_count p3 (x := 1) (v := Y.1 0) rfl, ?_⟩
  rintro _ H4 ⟨rfl, p4⟩
  refine ⟨fun q => absurd rfl q, fun _ => ?_⟩
  obtain ⟨v1, -⟩ := ps_val (Y := (sp_keep Y).2) w i hm (e := 1) (by decide) (by decide)
  refine ⟨_, p4.obj, _, q_passE p4 (d := nI 1) rfl, ?_⟩
  rintro _ H5 ⟨rfl, p5⟩
  rw [v1] at p5
  refine ⟨fun q => absurd (by rw [v1]; rfl) q, fun _ => ?_⟩
  obtain ⟨j, Hs, eu, hj⟩ := un_val (Y := (sp_keep Y).2) (V := upd (sp_keep Y).2.1 1 ((sp_keep Y).2.1 1 + nI 1))
  have hj4 : j ≤ 4 := Nat.le_trans hj p.2.2.1
  refine ⟨_, p5.obj, _, q_undo p5, ?_⟩
  rintro _ H6 ⟨rfl, p6⟩
  rw [eu] at p6
  refine ⟨fun q => absurd (by rw [eu] at q; exact q) (nI_pos (n := j) (by omega)), fun _ => ?_⟩
  refine ⟨_, p6.obj, _, q_count p6 (x := 0) (v := Y.1 1) rfl, ?_⟩
  rintro _ H7 ⟨rfl, p7⟩
  refine ⟨fun q => absurd rfl q, fun _ => ?_⟩
  obtain ⟨v2, -⟩ := ps_val (Y := ((sp_keep Y).2.1, j, Hs, (sp_keep Y).2.2.2.2)) w i hm (e := 2) (by decide) (by decide)
  refine ⟨_, p7.obj, _, q_passE p7 (d := nI 2) rfl, ?_⟩
  rintro _ H8 ⟨rfl, p8⟩
  rw [v2] at p8
  refine ⟨fun q => absurd (by rw [v2]; rfl) q, fun _ => ?_⟩
  have er : ∀ V, sp_restore (yAct ((sp_keep Y).2.1, j, Hs, (sp_keep Y).2.2.2.2) V) = (Y.1 0, yAct (yAct ((sp_keep Y).2.1, j, Hs, (sp_keep Y).2.2.2.2) V) Y.1) := fun V => if_neg (show ¬ (1 : Int32) = 0 by decide)
  refine ⟨_, p8.obj, _, q_restore p8, ?_⟩
  rintro _ H9 ⟨rfl, p9⟩
  rw [er] at p9
  refine ⟨_, p9.obj, _, q_count p9 (x := 1) (v := Y.1 0) rfl, ?_⟩
  rintro _ HA ⟨rfl, pA⟩
  refine ⟨fun q => absurd (by rw [er]) q, fun _ => ?_⟩
  refine ⟨fun q => absurd q (by decide), fun _ => ?_⟩
  refine ⟨_, pA.obj, _, q_count pA (x := 0) (v := Y.1 1) rfl, ?_⟩
  rintro _ HB ⟨rfl, pB⟩
  refine ⟨fun q => absurd rfl q, fun _ => ?_⟩
  refine ⟨_, pB.obj, _, q_company pB (x := 0) (v := nI (vGr Y.1)) rfl, ?_⟩
  rintro _ HC ⟨rfl, pC⟩
  exact ⟨fun q => absurd rfl q, fun _ => ⟨Or.inr rfl, rfl⟩⟩
set_option maxRecDepth 100000 in
set_option maxHeartbeats 4000000 in
/-- the turns -/
theorem l_turns (hs : K.2.2.2.2.2 a = some (L, xs)) (hL : L ≤ 260) (hK' : hSetK K) : ∀ (d t : Nat) (v : Int32) (l5 : Option Value) (Y : hY) (H : hAH), t + d = 26 → PY K H b Y → 0 < vN Y.1 → LI (2 + 3 * t) Y.1 → v = nI t → wJ K B 170 cu [some (.ref a), some (.ref b), some (.int (nI x)), some (.int 1), some (.int v), l5] H := by
  intro d
  induction d with
  | zero =>
    intro t v l5 Y H ht p h0 i ev
    obtain rfl : t = 26 := by omega
    refine hGo_sound (okc_La_law K _ _) [170, 223] 30 _ _ _ _ _ ?_
    rw [ev]
    exact ⟨fun _ => w_end p i (by decide), fun z => absurd (Int32.le_refl _) z⟩
  | succ d ih =>
    intro t v l5 Y H ht p h0 i ev
    refine hGo_sound (okc_La_law K _ _) [170, 223] 60 _ _ _ _ _ ?_
    rw [ev]
    refine ⟨fun z => absurd ((nI_leI (b := t) (a := 26) (by decide) (by omega)).mp z) (by omega), fun _ => ⟨fun z => absurd z (by decide), fun _ => ?_⟩⟩
    have ec : (8 : Int32) + nI t = nI (8 + t) := nI_add 8 t
    have cc := c_cell (H := H) hs hL (k := 8 + t) (by omega)
    rw [← ec] at cc
    refine ⟨_, cc, ?_⟩
    rintro _ _ ⟨rfl, n, hn, rfl⟩
    refine ⟨_, c_acts p hK' h0 i (by omega) hn, ?_⟩
    rintro _ H1 ⟨rfl, Y', p1, hn1, hi1⟩
    have i1 : LI (2 + 3 * (t + 1)) Y'.1 := (hi1 _ (by omega) i).mono (by omega)
    refine ⟨fun z => absurd z (by decide), fun _ => ?_⟩
    refine ⟨_, c_companiesL p1, ?_⟩
    rintro _ H2 ⟨rfl, p2⟩
    refine ⟨fun z => absurd z (by decide), fun _ => ?_⟩
    refine ⟨_, c_guests p2 i1 (by omega), ?_⟩
    rintro _ H3 ⟨rfl, p3⟩
    refine ⟨fun z => absurd z (by decide), fun _ => ?_⟩
    exact ih (t + 1) _ _ Y' H3 (by omega) p3 (by rw [hn1]; exact h0) i1 (nI_1 t)
set_option maxRecDepth 100000 in
set_option maxHeartbeats 4000000 in
/-- the guests are added -/
theorem l_adds (hs : K.2.2.2.2.2 a = some (L, xs)) (hL : L ≤ 260) (hK' : hSetK K) (hx : x < 2147483648) : ∀ (d k : Nat) (v : Int32) (l5 : Option Value) (Y : hY) (H : hAH), k + d = 3 + x % 4 → PY K H b Y → vN Y.1 = k → ¬ Y.1 7 = 1 → LI 2 Y.1 → v = nI k → wJ K B 102 cu [some (.ref a), some (.ref b), some (.int (nI x)), some (.int 1), some (.int v), l5] H := by
  have h4 := Nat.mod_lt x (show 4 > 0 by decide)
  have e1 : (3 : Int32) + (nI x - nI x / 4 * 4) = nI (3 + x % 4) := by
    rw [show (nI x - nI x / 4 * 4 : Int32) = nI (x % 4) from pk_rem (d := 4) hx (by decide) (by decide)]
    exact nI_add 3 _
  intro d
  induction d with
  | zero =>
    intro k v l5 Y H hk p en h7 i ev
    refine hGo_sound (okc_La_law K _ _) [102, 170] 30 _ _ _ _ _ ?_
    rw [ev]
    refine ⟨by decide, ?_⟩
    refine ⟨fun _ => ?_, fun z => absurd (by rw [e1]; exact nI_le (by omega) (by omega)) z⟩
    exact l_turns hs hL hK' 26 0 0 l5 Y H rfl p (by omega) i rfl
  | succ d ih =>
    intro k v l5 Y H hk p en h7 i ev
    refine hGo_sound (okc_La_law K _ _) [102, 170, 126] 60 _ _ _ _ _ ?_
    rw [ev]
    refine ⟨by decide, ?_⟩
    refine ⟨fun z => ?_, fun _ => ⟨fun z => absurd z (by decide), fun _ => ?_⟩⟩
    · rw [e1] at z
      exact absurd ((nI_leI (by omega) (by omega)).mp z) (by omega)
    have ec : (1 : Int32) + nI k = nI (1 + k) := nI_add 1 k
    have cc := c_cell (H := H) hs hL (k := 1 + k) (by omega)
    rw [← ec] at cc
    refine ⟨_, cc, ?_⟩
    rintro _ _ ⟨rfl, n, hn, rfl⟩
    have m1 := Nat.mod_lt n (show 4000 > 0 by decide)
    have m2 := Nat.mod_lt (n / 4096) (show 9 > 0 by decide)
    have ea : (200 : Int32) + (nI n - nI n / 4000 * 4000) = nI (200 + n % 4000) := by
      rw [show (nI n - nI n / 4000 * 4000 : Int32) = nI (n % 4000) from pk_rem (d := 4000) hn (by decide) (by decide)]
      exact nI_add 200 _
    have z12 : nI n >>> ((12 : Int32) &&& 31) = nI (n / 4096) := shr_any (s := 12) hn (by decide)
    have eb : (1 : Int32) + (nI n >>> ((12 : Int32) &&& 31) - nI n >>> ((12 : Int32) &&& 31) / 9 * 9) = nI (1 + n / 4096 % 9) := by
      rw [z12, show (nI (n / 4096) - nI (n / 4096) / 9 * 9 : Int32) = nI (n / 4096 % 9) from pk_rem (d := 9) (by omega) (by decide) (by decide)]
      exact nI_add 1 _
    have av := add_val p.w h7 en (by omega) (l := 200 + n % 4000) (t := 1 + n / 4096 % 9) (by omega) (by omega) (by omega)
    refine hGo_sound (okc_La_law K _ _) [102, 170] 60 _ _ _ _ _ ?_
    refine ⟨by decide, ?_⟩
    refine ⟨by decide, ?_⟩
    refine ⟨_, p.obj, _, q_addGuestE p ea eb, ?_⟩
    rintro _ H1 ⟨rfl, p1⟩
    refine ⟨fun z => absurd (by rw [av]) z, fun _ => ?_⟩
    refine ih (k + 1) _ _ _ H1 (by omega) p1 ?_ ?_ (li_addGuest p.2 i _ _) (nI_1 k)
    · rw [av]
      exact nI_clamp (n := k + 1) (by omega)
    · rw [av]
      show ¬ addV Y.1 k _ _ 7 = 1
      unfold addV
      rw [if_neg (by omega), if_neg (by omega), if_neg (by omega), if_neg (by omega), if_neg (by omega), if_neg (by omega)]
      exact h7
set_option maxRecDepth 100000 in
set_option maxHeartbeats 4000000 in
theorem l_body (hs : K.2.2.2.2.2 a = some (L, xs)) (hF : hSetF K) (hK' : hSetK K) (hL : L ≤ 260) : hJ K M_La_law (600000, 7302249) lwQ 0 (0, 0) (hEnt [.ref a] 6) [] H := by
  rcases H with ⟨b, hf⟩
  refine hGo_sound (okc_La_law K _ _) [102] 150 _ _ _ _ _ ?_
  refine ⟨by decide, by decide, fun H1 n1 => ?_⟩
  have z1 : H1.1 = b + 1 := n1.1
  refine ⟨174, 5416, _, c_Pa_init hF n1.2.1 z1, by decide, by decide, ?_⟩
  rintro _ H2 ⟨rfl, cp, -⟩
  have p : PY K H2 b Y0 := ⟨cp, YOk.zero⟩
  refine ⟨_, c_cell (k := 0) hs hL (by decide), ?_⟩
  rintro _ _ ⟨rfl, x, hx, rfl⟩
  refine ⟨_, p.obj, _, q_company p (x := 0) (v := 0) (by show nI (vGr V0) = 0; rw [zgr_0]; rfl), ?_⟩
  rintro _ H3 ⟨rfl, p3⟩
  refine ⟨fun z => absurd rfl z, fun _ => ?_⟩
  refine ⟨_, p3.obj, _, q_company p3 z_company2, ?_⟩
  rintro _ H4 ⟨rfl, p4⟩
  refine ⟨fun z => absurd rfl z, fun _ => ?_⟩
  refine ⟨_, p4.obj, _, q_companies p4 z_companies, ?_⟩
  rintro _ H5 ⟨rfl, p5⟩
  refine ⟨fun z => absurd rfl z, fun _ => ?_⟩
  refine ⟨_, p5.obj, _, q_rounds p5 (v := 1) (by show nI (eL (vS V0) + 1) = 1; rw [zeL_0]; rfl), ?_⟩
  rintro _ H6 ⟨rfl, p6⟩
  refine ⟨fun z => absurd rfl z, fun _ => ?_⟩
  refine ⟨_, p6.obj, _, q_fix p6, ?_⟩
  rintro _ H7 ⟨rfl, p7⟩
  rw [z_fix] at p7
  refine ⟨fun z => absurd (by rw [z_fix]) z, fun _ => ?_⟩
  have m1 := Nat.mod_lt x (show 6000 > 0 by decide)
  have m2 := Nat.mod_lt x (show 300 > 0 by decide)
  have ea : (900 : Int32) + (nI x - nI x / 6000 * 6000) = nI (900 + x % 6000) := by
    rw [show (nI x - nI x / 6000 * 6000 : Int32) = nI (x % 6000) from pk_rem (d := 6000) hx (by decide) (by decide)]
    exact nI_add 900 _
  have eb : (nI x - nI x / 300 * 300 : Int32) = nI (x % 300) := pk_rem (d := 300) hx (by decide) (by decide)
  have s1 := set_val (Y := Y0) (j := 0) (p := 10000) (q := 900 + x % 6000) (by decide) (show ¬ V0 7 = 1 by decide) rfl (by decide) (by omega) (by omega) (nI_le (a := 0) (by omega) (by omega)) (nI_le (b := 99999) (by omega) (by decide))
  refine ⟨by decide, ?_⟩
  refine ⟨_, p7.obj, _, q_setE p7 hK' (u := nI 0) rfl ea, ?_⟩
  rintro _ H8 ⟨rfl, p8⟩
  rw [s1] at p8
  refine ⟨fun z => absurd (by rw [s1]; rfl) z, fun _ => ?_⟩
  have s2 := set_val (Y := yAct Y0 (upd Y0.1 (2 + 0) (nI (900 + x % 6000)))) (j := 1) (p := 500) (q := x % 300) (by decide) (show ¬ V0 7 = 1 by decide) rfl (by decide) (by omega) (by omega) (nI_le (a := 0) (by omega) (by omega)) (nI_le (b := 9999) (by omega) (by decide))
  refine ⟨by decide, ?_⟩
  refine ⟨_, p8.obj, _, q_setE p8 hK' (u := nI 1) rfl eb, ?_⟩
  rintro _ H9 ⟨rfl, p9⟩
  have i9 : LI 2 (sp_set (yAct Y0 (upd Y0.1 (2 + 0) (nI (900 + x % 6000)))) (nI 1) (nI (x % 300))).2.1 := by
    refine li_set (m := 1) ?_ _ _
    have := li_set (m := 0) (Y := Y0) LI.zero (nI 0) (nI (900 + x % 6000))
    rw [s1] at this
    exact this
  refine ⟨fun z => absurd (by rw [s2]; rfl) z, fun _ => ?_⟩
  refine l_adds hs hL hK' hx (3 + x % 4) 0 0 _ _ H9 (by omega) p9 ?_ ?_ i9 rfl
  · rw [s2]; rfl
  · rw [s2]
    show ¬ V0 7 = 1
    decide
end LLW
