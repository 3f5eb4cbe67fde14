/-! THE LAW: its acts -/
section LAC
variable {K : hK} {H : hAH} {b y zz g : Nat} {Y : hY} {fx : Bool} {left : Int32} {l6 l7 l8 l9 l10 l11 l12 : Option Value}
abbrev aJ (K : hK) (b : Nat) (Y : hY) (pc : Nat) (ls : hLs) (H : hAH) : Prop := hJ K M_La_acts (0, 0) (AQ K b Y) pc (0, 0) ls [] H
abbrev aL (b y zz g : Nat) (fx : Bool) (left : Int32) (l6 l7 l8 l9 l10 l11 l12 : Option Value) : hLs := [some (.ref b), some (.int (nI y)), some (.int (nI zz)), some (.int (nI g)), some (.int (b2i fx)), some (.int left), l6, l7, l8, l9, l10, l11, l12]
/-- whether a company is fixed, and those of it who are left -/
def FX (Y : hY) (fx : Bool) (left : Int32) : Prop := (fx = true ∧ Y.1 7 = 1 ∧ ∃ yl, yl < 4096 ∧ Y.1 8 = nI yl ∧ left = nI yl) ∨ (fx = false ∧ ¬ Y.1 7 = 1)
theorem AQ.ok {H : hAH} {Y Y' : hY} (p : PY K H b Y') (hn : vN Y'.1 = vN Y.1) {j : Nat} (hj : j ≤ 3) (hi : ∀ m, m ≤ 77 → LI m Y.1 → LI (m + j) Y'.1) : AQ K b Y (some (.int 1)) H := ⟨rfl, Y', p, hn, fun m h i => (hi m h i).mono (by omega)⟩
theorem AQ.same {H : hAH} {Y : hY} (p : PY K H b Y) : AQ K b Y (some (.int 1)) H := AQ.ok (j := 0) p rfl (by decide) fun _ _ i => i
theorem c_conditionE (p : PY K H b Y) (hg : g < vN Y.1) {x : Int32} {y : Nat} (e : x = nI y) (hy : y < 2147483648) : hCT K M_La_condition [.ref b, .int (nI g), .int x] H 0 0 (AQ K b Y) := by
  subst e
  exact c_condition p hg hy
set_option maxRecDepth 100000 in
set_option maxHeartbeats 4000000 in
theorem a_cond (p : PY K H b Y) (hg : g < vN Y.1) (hz : zz < 2147483648) : aJ K b Y 84 (aL b y zz g fx left l6 l7 l8 l9 l10 l11 l12) H := by
  refine hGo_sound (okc_La_acts K _ _) [] 30 _ _ _ _ _ ?_
  refine ⟨_, c_conditionE p hg (y := zz / 8) (shr_any (s := 3) hz (by decide)) (by omega), ?_⟩
  rintro _ H1 ⟨rfl, q⟩
  exact ⟨Or.inr rfl, rfl, q⟩
theorem q_setLimitE (p : PY K H b Y) (g : Int32) {x l : Int32} (e : x = l) : hCT K M_Pa_setLimit [.ref b, .int g, .int x] H 0 0 (RQ K b (sp_setLimit Y g l).2 (sp_setLimit Y g l).1) := by
  subst e
  exact q_setLimit p g x
set_option maxRecDepth 100000 in
set_option maxHeartbeats 4000000 in
/-- the least limit is tried -/
theorem a_limit (p : PY K H b Y) (hg : g < vN Y.1) (hf : FX Y fx left) : aJ K b Y 93 (aL b y zz g fx left l6 l7 l8 l9 l10 l11 l12) H := by
  have w := p.w
  have hn := w.1.2
  refine hGo_sound (okc_La_acts K _ _) [174] 120 _ _ _ _ _ ?_
  refine ⟨_, p.obj, _, q_gu p hg (f := 0) (by decide), ?_⟩
  rintro _ H1 ⟨rfl, p1⟩
  rcases ll_val w hg with ⟨e, -⟩ | ⟨d, hd, e, hb, ef⟩
  · refine ⟨_, p1.obj, _, q_leastLimit p1 e, ?_⟩
    rintro _ H2 ⟨rfl, p2⟩
    exact ⟨fun _ => ⟨Or.inr rfl, AQ.same p2⟩, fun z => absurd (by decide) z⟩
  · refine ⟨_, p1.obj, _, q_leastLimit p1 e, ?_⟩
    rintro _ H2 ⟨rfl, p2⟩
    refine ⟨fun z => absurd z (nI_pos (by omega)), fun _ => ?_⟩
    rcases hf with ⟨rfl, -, -⟩ | ⟨rfl, h7⟩
    · exact ⟨fun _ => ⟨Or.inr rfl, AQ.same p2⟩, fun z => absurd z (by decide)⟩
    · refine ⟨fun z => absurd rfl z, fun _ => ?_⟩
      have s174 : ∀ (H : hAH) (Y' : hY), PY K H b Y' → vN Y'.1 = vN Y.1 → (∀ m, m ≤ 77 → LI m Y.1 → LI (m + 2) Y'.1) → aJ K b Y 174 (aL b y zz g false left (some (.int (vG Y.1 g 0))) (some (.int (nI d))) l8 l9 l10 l11 l12) H := by
        intro H Y' p' hn' hi'
        refine hGo_sound (okc_La_acts K _ _) [] 60 _ _ _ _ _ ?_
        refine ⟨_, p'.obj, _, q_setLimit p' (nI g) (vG Y.1 g 0), ?_⟩
        rintro _ H1 ⟨rfl, p1⟩
        refine ⟨fun q => absurd q (Int32.not_lt.mpr (sl_ge p'.w _ _)), fun _ => ?_⟩
        refine ⟨Or.inr rfl, AQ.ok (j := 3) p1 ?_ (by decide) fun m h i => li_setLimit p'.2 (hi' m h i) _ _⟩
        rw [(sl_sim p'.w (by rw [hn']; exact hg) _).1, hn']
      have sim1 := sl_sim w hg (nI d)
      obtain ⟨lim1, ans1⟩ := sl_lim w hg h7 hd
      refine ⟨_, p2.obj, _, q_setLimit p2 (nI g) (nI d), ?_⟩
      rintro _ H3 ⟨rfl, p3⟩
      refine ⟨fun q => ?_, fun _ => ?_⟩
      · rw [ans1] at q
        obtain ⟨d0, h0, e0⟩ := (w.2.2.2.2.1 g hg).1
        rw [e0] at q
        split at q
        · exact absurd q (by decide)
        · exact absurd (show nI d0 < 0 by rw [q]; decide) (nI_pos (by omega))
      · refine ⟨_, p3.obj, _, q_company p3 (x := 0) (v := nI (vGr (sp_setLimit Y (nI g) (nI d)).2.1)) rfl, ?_⟩
        rintro _ H4 ⟨rfl, p4⟩
        have b1 := ll_in w p3.w sim1 hg ef hb lim1
        refine ⟨fun q => absurd (by rw [sh1_bit _ (by omega), b1]; rfl) q, fun _ => ?_⟩
        have hn1 := sim1.1
        refine ⟨fun _ => s174 H4 _ p4 hn1 fun m _ i => (li_setLimit p.2 i _ _).mono (by omega), fun hz => ?_⟩
        obtain ⟨d', rfl⟩ : ∃ d', d = d' + 1 := ⟨d - 1, by
          have : d ≠ 0 := fun q => hz (by rw [q]; rfl)
          omega⟩
        have hg1 : g < vN (sp_setLimit Y (nI g) (nI (d' + 1))).2.1 := by rw [hn1]; exact hg
        have h71 : ¬ (sp_setLimit Y (nI g) (nI (d' + 1))).2.1 7 = 1 := by rw [sim1.2.2.2.1]; exact h7
        have sim2 := sl_sim p3.w hg1 (nI d')
        obtain ⟨lim2, ans2⟩ := sl_lim p3.w hg1 h71 (d := d') (by omega)
        rw [lim1, if_neg (fun q => absurd (nI_inj (by omega) (by omega) q) (by omega))] at ans2
        refine ⟨_, p4.obj, _, q_setLimitE p4 (nI g) (nI_pred d'), ?_⟩
        rintro _ H5 ⟨rfl, p5⟩
        refine ⟨fun q => absurd ans2 q, fun _ => ?_⟩
        refine ⟨_, p5.obj, _, q_company p5 (x := 0) (v := nI (vGr (sp_setLimit (sp_setLimit Y (nI g) (nI (d' + 1))).2 (nI g) (nI d')).2.1)) rfl, ?_⟩
        rintro _ H6 ⟨rfl, p6⟩
        have b2 := ll_out w p5.w (sim1.tr sim2) hg hd ef lim2
        refine ⟨fun q => absurd (by rw [sh1_bit _ (by omega), b2]; rfl) q, fun _ => ?_⟩
        exact s174 H6 _ p6 (sim2.1.trans hn1) fun m _ i => li_setLimit p3.2 (li_setLimit p.2 i _ _) _ _
set_option maxRecDepth 100000 in
set_option maxHeartbeats 4000000 in
/-- a guest is invited, or not any more -/
theorem a_invite (p : PY K H b Y) (hg : g < vN Y.1) (hf : FX Y fx left) : aJ K b Y 192 (aL b y zz g fx left l6 l7 l8 l9 l10 l11 l12) H := by
  have w := p.w
  have hn := w.1.2
  have h01 := (w.2.2.2.2.1 g hg).2.2.1
  have s : ∀ (H : hAH) (is : Bool), PY K H b Y → (is = true → vG Y.1 g 2 = 1) → (is = false → vG Y.1 g 2 = 0) → aJ K b Y 209 (aL b y zz g fx left l6 l7 (some (.int (b2i is))) l9 l10 l11 l12) H := by
    intro H is p h1 h0
    rcases hf with ⟨rfl, h7, -⟩ | ⟨rfl, h7⟩
    · have ans := fun x => inv_fix w hg h7 x
      have en : ∀ x, PY K H b (sp_invite Y (nI g) x).2 = PY K H b Y := fun x => by rw [ans]
      refine hGo_sound (okc_La_acts K _ _) [] 60 _ _ _ _ _ ?_
      refine ⟨fun q => absurd q (by decide), fun _ => ?_⟩
      cases is
      · refine ⟨fun q => absurd rfl q, fun _ => ?_⟩
        refine ⟨_, p.obj, _, q_invite p (nI g) 1 (Or.inr rfl), ?_⟩
        rintro _ H1 ⟨rfl, p1⟩
        rw [ans] at p1
        exact ⟨fun q => absurd (by rw [ans]) q, fun _ => ⟨Or.inr rfl, AQ.same p1⟩⟩
      · refine ⟨fun _ => ?_, fun q => absurd q (by decide)⟩
        refine ⟨_, p.obj, _, q_invite p (nI g) 0 (Or.inl rfl), ?_⟩
        rintro _ H1 ⟨rfl, p1⟩
        rw [ans] at p1
        exact ⟨fun q => absurd (by rw [ans]) q, fun _ => ⟨Or.inr rfl, AQ.same p1⟩⟩
    · have s255 : aJ K b Y 255 (aL b y zz g false left l6 l7 (some (.int (b2i is))) l9 l10 l11 l12) H := by
        have fin : ∀ (x : Int32), (x = 0 ∨ x = 1) → ¬ vG Y.1 g 2 = x → ∀ H1, PY K H1 b (sp_invite Y (nI g) x).2 → (sp_invite (sp_invite Y (nI g) x).2 (nI g) x) = (-5, (sp_invite Y (nI g) x).2) ∧ AQ K b Y (some (.int 1)) H1 := by
          intro x hx hne H1 p1
          obtain ⟨-, a2, a3, a4⟩ := inv_do w hg h7 hne
          exact ⟨inv_no p1.w (by rw [a3]; exact hg) (by rw [a4]; exact h7) a2, AQ.ok (j := 1) p1 a3 (by decide) fun m _ i => li_invite p.2 i _ _⟩
        refine hGo_sound (okc_La_acts K _ _) [] 90 _ _ _ _ _ ?_
        cases is
        · have hne : ¬ vG Y.1 g 2 = 1 := by rw [h0 rfl]; decide
          refine ⟨fun q => absurd rfl q, fun _ => ?_⟩
          refine ⟨_, p.obj, _, q_invite p (nI g) 1 (Or.inr rfl), ?_⟩
          rintro _ H1 ⟨rfl, p1⟩
          refine ⟨_, p1.obj, _, q_count p1 (inv_do w hg h7 hne).1.symm, ?_⟩
          rintro _ H2 ⟨rfl, p2⟩
          obtain ⟨e, -⟩ := fin 1 (Or.inr rfl) hne H2 p2
          refine ⟨fun q => absurd rfl q, fun _ => ?_⟩
          refine ⟨fun q => absurd rfl q, fun _ => ?_⟩
          refine ⟨_, p2.obj, _, q_invite p2 (nI g) 1 (Or.inr rfl), ?_⟩
          rintro _ H3 ⟨rfl, p3⟩
          rw [e] at p3
          exact ⟨fun q => absurd (by rw [e]) q, fun _ => ⟨Or.inr rfl, (fin 1 (Or.inr rfl) hne H3 p3).2⟩⟩
        · have hne : ¬ vG Y.1 g 2 = 0 := by rw [h1 rfl]; decide
          refine ⟨fun _ => ?_, fun q => absurd q (by decide)⟩
          refine ⟨_, p.obj, _, q_invite p (nI g) 0 (Or.inl rfl), ?_⟩
          rintro _ H1 ⟨rfl, p1⟩
          refine ⟨_, p1.obj, _, q_count p1 (inv_do w hg h7 hne).1.symm, ?_⟩
          rintro _ H2 ⟨rfl, p2⟩
          obtain ⟨e, -⟩ := fin 0 (Or.inl rfl) hne H2 p2
          refine ⟨fun q => absurd rfl q, fun _ => ?_⟩
          refine ⟨fun _ => ?_, fun q => absurd q (by decide)⟩
          refine ⟨_, p2.obj, _, q_invite p2 (nI g) 0 (Or.inl rfl), ?_⟩
          rintro _ H3 ⟨rfl, p3⟩
          rw [e] at p3
          exact ⟨fun q => absurd (by rw [e]) q, fun _ => ⟨Or.inr rfl, (fin 0 (Or.inl rfl) hne H3 p3).2⟩⟩
      refine hGo_sound (okc_La_acts K _ _) [255] 60 _ _ _ _ _ ?_
      refine ⟨fun _ => ?_, fun q => absurd rfl q⟩
      refine ⟨fun _ => s255, fun _ => ?_⟩
      cases is
      · exact ⟨fun q => absurd rfl q, fun _ => s255⟩
      · exact ⟨fun _ => ⟨Or.inr rfl, AQ.same p⟩, fun q => absurd q (by decide)⟩
  refine hGo_sound (okc_La_acts K _ _) [209] 60 _ _ _ _ _ ?_
  refine ⟨_, p.obj, _, q_gu p hg (f := 2) (by decide), ?_⟩
  rintro _ H1 ⟨rfl, p1⟩
  refine ⟨fun q => ?_, fun q => ?_⟩
  · exact s H1 false p1 (fun q => absurd q (by decide)) (fun _ => h01.resolve_right q)
  · exact s H1 true p1 (fun _ => q) (fun q => absurd q (by decide))
theorem q_passE (p : PY K H b Y) {x d : Int32} (e : x = d) : hCT K M_Pa_pass [.ref b, .int x] H 0 0 (RQ K b (sp_pass Y d).2 (sp_pass Y d).1) := by
  subst e
  exact q_pass p x
set_option maxRecDepth 100000 in
set_option maxHeartbeats 4000000 in
/-- days pass, or the places and the hall are set -/
theorem a_pass {m : Nat} (p : PY K H b Y) (hK' : hSetK K) (i : LI m Y.1) (hm : m ≤ 77) (hz : zz < 2147483648) : aJ K b Y 304 (aL b y zz g fx left l6 l7 l8 l9 l10 l11 l12) H := by
  have w := p.w
  have s315 : aJ K b Y 315 (aL b y zz g fx left l6 l7 l8 l9 l10 l11 l12) H := by
    have er : (nI zz - nI zz / 5 * 5 : Int32) = nI (zz % 5) := pk_rem (d := 5) hz (by decide) (by decide)
    have h5 := Nat.mod_lt zz (show 5 > 0 by decide)
    have e1 : (1 : Int32) + (nI zz - nI zz / 5 * 5) = nI (1 + zz % 5) := by
      rw [er]
      exact nI_add 1 _
    obtain ⟨v1, v2⟩ := ps_val w i (by omega) (e := 1 + zz % 5) (by omega) (by omega)
    refine hGo_sound (okc_La_acts K _ _) [] 60 _ _ _ _ _ ?_
    refine ⟨by decide, ?_⟩
    refine ⟨_, p.obj, _, q_passE p e1, ?_⟩
    rintro _ H1 ⟨rfl, p1⟩
    refine ⟨fun q => absurd (by rw [v1] at q; exact q) v2, fun _ => ?_⟩
    exact ⟨Or.inr rfl, AQ.ok (j := 1) p1 (nn_pass _) (by decide) fun m _ i => li_pass i (by omega)⟩
  refine hGo_sound (okc_La_acts K _ _) [315] 90 _ _ _ _ _ ?_
  refine ⟨fun _ => s315, fun _ => ?_⟩
  refine ⟨fun _ => ?_, fun _ => s315⟩
  refine ⟨by decide, ?_⟩
  refine ⟨_, p.obj, _, q_set p hK' _ _, ?_⟩
  rintro _ H1 ⟨rfl, p1⟩
  refine ⟨fun q => absurd q (Int32.not_lt.mpr (set_ge w _ _)), fun _ => ?_⟩
  refine ⟨by decide, ?_⟩
  refine ⟨_, p1.obj, _, q_set p1 hK' _ _, ?_⟩
  rintro _ H2 ⟨rfl, p2⟩
  refine ⟨fun q => absurd q (Int32.not_lt.mpr (set_ge p1.w _ _)), fun _ => ?_⟩
  exact ⟨Or.inr rfl, AQ.ok (j := 2) p2 ((nn_set _ _).trans (nn_set _ _)) (by decide) fun m _ i => li_set (li_set i _ _) _ _⟩
set_option maxRecDepth 100000 in
set_option maxHeartbeats 4000000 in
/-- the chosen company is fixed -/
theorem a_due (hn : vN Y.1 ≤ 12) {c : Nat} {d0 : Int32} (next : ∀ (H : hAH) (l11 : Option Value), PY K H b Y → aJ K b Y 455 (aL b y zz g fx left l6 l7 l8 (some (.int (nI c))) (some (.int (d0 + sumI (fun k => (if c.testBit k then 1 else 0) * vG Y.1 k 3) (vN Y.1)))) l11 l12) H) :
    ∀ (d k : Nat) (v u : Int32) (H : hAH), k + d = vN Y.1 → PY K H b Y → v = nI k → u = d0 + sumI (fun k => (if c.testBit k then 1 else 0) * vG Y.1 k 3) k → aJ K b Y 419 (aL b y zz g fx left l6 l7 l8 (some (.int (nI c))) (some (.int u)) (some (.int v)) l12) H := by
  intro d
  induction d with
  | zero =>
    intro k v u H hk p ev eu
    obtain rfl : k = vN Y.1 := by omega
    refine hGo_sound (okc_La_acts K _ _) [419, 455] 60 _ _ _ _ _ ?_
    rw [ev, eu]
    refine ⟨_, p.obj, _, q_n p, ?_⟩
    rintro _ H1 ⟨rfl, p1⟩
    exact ⟨fun _ => next H1 _ p1, fun z => absurd (Int32.le_refl _) z⟩
  | succ d ih =>
    intro k v u H hk p ev eu
    refine hGo_sound (okc_La_acts K _ _) [419, 455] 60 _ _ _ _ _ ?_
    rw [ev]
    refine ⟨_, p.obj, _, q_n p, ?_⟩
    rintro _ H1 ⟨rfl, p1⟩
    refine ⟨fun z => absurd ((nI_leI (by omega) (by omega)).mp z) (by omega), fun _ => ?_⟩
    refine ⟨_, p1.obj, _, q_gu p1 (k := k) (by omega) (f := 3) (by decide), ?_⟩
    rintro _ H2 ⟨rfl, p2⟩
    refine ih (k + 1) _ _ H2 (by omega) p2 (nI_1 k) ?_
    rw [eu, sh1_bit c (by omega), sumI, Int32.add_assoc]
    rfl
set_option maxRecDepth 100000 in
set_option maxHeartbeats 4000000 in
theorem a_fix (p : PY K H b Y) (hf : FX Y fx left) : aJ K b Y 380 (aL b y zz g fx left l6 l7 l8 l9 l10 l11 l12) H := by
  have w := p.w
  have hn := w.1.2
  have h12 := two12 hn
  have hc := ch_lt w
  have edue := fx_due w hc
  have s455 : ∀ (H : hAH) (l11 : Option Value), PY K H b Y → aJ K b Y 455 (aL b y zz g fx left l6 l7 l8 (some (.int (nI (vCh Y.1)))) (some (.int (sumI (fxvP Y.1 (vCh Y.1)) 12))) l11 l12) H := by
    intro H l11 p
    refine hGo_sound (okc_La_acts K _ _) [] 90 _ _ _ _ _ ?_
    rcases hf with ⟨rfl, h7, -⟩ | ⟨rfl, h7⟩
    · have e : sp_fix Y = (-4, Y) := if_pos h7
      refine ⟨fun q => absurd q (by decide), fun _ => ?_⟩
      refine ⟨_, p.obj, _, q_fix p, ?_⟩
      rintro _ H1 ⟨rfl, p1⟩
      rw [e] at p1
      exact ⟨fun q => absurd (by rw [e]) q, fun _ => ⟨Or.inr rfl, AQ.same p1⟩⟩
    · refine ⟨fun _ => ?_, fun q => absurd rfl q⟩
      by_cases hz : vCh Y.1 = 0
      · have e : sp_fix Y = (-5, Y) := by
          unfold sp_fix
          rw [if_neg h7, if_pos hz]
        refine ⟨fun q => absurd (by rw [hz]; rfl) q, fun _ => ?_⟩
        refine ⟨_, p.obj, _, q_fix p, ?_⟩
        rintro _ H1 ⟨rfl, p1⟩
        rw [e] at p1
        exact ⟨fun q => absurd (by rw [e]) q, fun _ => ⟨Or.inr rfl, AQ.same p1⟩⟩
      · have e := fx_val (Y := Y) h7 hz
        refine ⟨fun _ => ?_, fun q => absurd q (nI_ne0 (by omega) (by omega))⟩
        refine ⟨_, p.obj, _, q_fix p, ?_⟩
        rintro _ H1 ⟨rfl, p1⟩
        refine ⟨fun q => absurd (by rw [e]) q, fun _ => ?_⟩
        refine ⟨_, p1.obj, _, q_company p1 (x := 3) (v := nI (vCh Y.1)) (by rw [e]; rfl), ?_⟩
        rintro _ H2 ⟨rfl, p2⟩
        refine ⟨fun q => absurd rfl q, fun _ => ?_⟩
        have hs := fx_seat (Y := Y) w hc hz
        refine ⟨_, p2.obj, _, q_seat p2 (x := 0) (v := sp_seat (sp_fix Y).2 0) rfl, ?_⟩
        rintro _ H3 ⟨rfl, p3⟩
        refine ⟨fun q => absurd (by rw [e] at q; exact q) hs, fun _ => ?_⟩
        exact ⟨Or.inr rfl, AQ.ok (j := 1) p3 nn_fix (by decide) fun m hm i => li_fix p.2 i (by omega)⟩
  have go : ∀ (H : hAH) (d0 : Int32), PY K H b Y → d0 = (if pop (vCh Y.1) = 0 then 0 else nI (pop (vCh Y.1)) * vFee Y.1 (nI (pop (vCh Y.1)))) → aJ K b Y 419 (aL b y zz g fx left l6 l7 l8 (some (.int (nI (vCh Y.1)))) (some (.int d0)) (some (.int 0)) l12) H := by
    intro H d0 p e0
    refine a_due hn (d0 := d0) (fun H l11 p => ?_) (vN Y.1) 0 0 d0 H (by omega) p rfl (Int32.add_zero d0).symm
    rw [e0, ← edue]
    exact s455 H l11 p
  have pl := pop_le (vCh Y.1)
  refine hGo_sound (okc_La_acts K _ _) [419] 90 _ _ _ _ _ ?_
  refine ⟨_, p.obj, _, q_company p (x := 1) (v := nI (vCh Y.1)) rfl, ?_⟩
  rintro _ H1 ⟨rfl, p1⟩
  refine ⟨_, c_ones K H1 (vCh Y.1), ?_⟩
  rintro _ _ ⟨rfl, rfl⟩
  refine ⟨fun q => ?_, fun q => ?_⟩
  · have hz : ¬ pop (vCh Y.1) = 0 := fun z => q (by rw [z]; rfl)
    refine ⟨_, c_ones K _ (vCh Y.1), ?_⟩
    rintro _ _ ⟨rfl, rfl⟩
    refine ⟨_, c_ones K _ (vCh Y.1), ?_⟩
    rintro _ _ ⟨rfl, rfl⟩
    refine ⟨_, p1.obj, _, q_fee p1 (a_fee (by omega) pl), ?_⟩
    rintro _ H2 ⟨rfl, p2⟩
    exact go H2 _ p2 (if_neg hz).symm
  · have hz : pop (vCh Y.1) = 0 := Classical.byContradiction fun z => absurd q (nI_ne0 (by omega) (by omega))
    exact go _ 0 p1 (if_pos hz).symm
set_option maxRecDepth 100000 in
set_option maxHeartbeats 4000000 in
/-- a guest cancels -/
theorem a_cancel (p : PY K H b Y) (hg : g < vN Y.1) (hf : FX Y fx left) : aJ K b Y 532 (aL b y zz g fx left l6 l7 l8 l9 l10 l11 l12) H := by
  have w := p.w
  have hn := w.1.2
  have no : ∀ (H : hAH), PY K H b Y → ¬ (Y.1 7 = 1 ∧ (vL8 Y.1).testBit g = true) → aJ K b Y 554 (aL b y zz g fx left l6 l7 l8 l9 l10 (some (.int 0)) l12) H := by
    intro H p h
    have e := cn_no w hg h
    refine hGo_sound (okc_La_acts K _ _) [] 60 _ _ _ _ _ ?_
    refine ⟨_, p.obj, _, q_cancel p (nI g), ?_⟩
    rintro _ H1 ⟨rfl, p1⟩
    rw [e] at p1
    refine ⟨fun _ => ?_, fun q => absurd rfl q⟩
    exact ⟨fun q => absurd (by rw [e]) q, fun _ => ⟨Or.inr rfl, AQ.same p1⟩⟩
  refine hGo_sound (okc_La_acts K _ _) [554] 60 _ _ _ _ _ ?_
  rcases hf with ⟨rfl, h7, yl, hyl, e8, rfl⟩ | ⟨rfl, h7⟩
  · have el : vL8 Y.1 = yl := by unfold vL8; rw [e8]; exact clp_nI (by omega)
    have eb := sh1_bit yl (k := g) (by omega)
    refine ⟨fun q => absurd q (by decide), fun _ => ?_⟩
    cases hb : yl.testBit g
    · rw [hb] at eb
      refine ⟨fun _ => no H p fun q => ?_, fun q => absurd (eb.symm.trans q) (by decide)⟩
      rw [el, hb] at q
      exact absurd q.2 (by decide)
    · rw [hb] at eb
      refine ⟨fun q => absurd eb q, fun _ => ?_⟩
      obtain ⟨z, hz, hlt, hzg, a1, a2, a3⟩ := cn_val w hg h7 e8 hyl hb
      have hn' := nn_cancel (Y := Y) (nI g)
      have pl := pop_le yl
      refine hGo_sound (okc_La_acts K _ _) [] 90 _ _ _ _ _ ?_
      refine ⟨_, p.obj, _, q_cancel p (nI g), ?_⟩
      rintro _ H1 ⟨rfl, p1⟩
      refine ⟨fun q => absurd q (by decide), fun _ => ?_⟩
      refine ⟨fun q => absurd q (by rw [a1]; exact nI_nlt (b := 1) (by omega) (by omega)), fun _ => ?_⟩
      refine ⟨_, p1.obj, _, q_company p1 (x := 3) (v := nI z) (by
        show (if (sp_cancel Y (nI g)).2.1 7 = 1 then (sp_cancel Y (nI g)).2.1 8 else -5) = nI z
        rw [if_pos a3, a2]), ?_⟩
      rintro _ H2 ⟨rfl, p2⟩
      refine ⟨_, c_ones K H2 z, ?_⟩
      rintro _ _ ⟨rfl, rfl⟩
      refine ⟨_, c_ones K _ yl, ?_⟩
      rintro _ _ ⟨rfl, rfl⟩
      refine ⟨fun q => absurd (by
        rw [a1, pk_sub (by omega), show pop yl - (pop yl - pop z) = pop z by omega]) q, fun _ => ?_⟩
      have hg' : g < vN (sp_cancel Y (nI g)).2.1 := by rw [hn']; exact hg
      have e7 : vG (sp_cancel Y (nI g)).2.1 g 7 = -5 := by
        rcases (p2.w.2.2.2.2.1 g hg').2.2.2.2.1 with h | ⟨-, u, e, hu, hb⟩
        · exact h
        · have : u = z := nI_inj (by omega) (by omega) (e.symm.trans a2)
          rw [this, hzg] at hb
          cases hb
      refine ⟨_, p2.obj, _, q_guest p2 (x := 7) (v := -5) (by
        have := a_guest p2.w hg' (f := 7) (by decide)
        rw [e7] at this
        exact this), ?_⟩
      rintro _ H3 ⟨rfl, p3⟩
      refine ⟨fun q => absurd rfl q, fun _ => ?_⟩
      exact ⟨Or.inr rfl, AQ.ok (j := 0) p3 hn' (by decide) fun m _ i => li_cancel p.2 i _⟩
  · exact ⟨fun _ => no H p fun q => h7 q.1, fun q => absurd rfl q⟩
theorem q_setWeightE (p : PY K H b Y) (g : Int32) {x l : Int32} (e : x = l) : hCT K M_Pa_setWeight [.ref b, .int g, .int x] H 0 0 (RQ K b (sp_setWeight Y g l).2 (sp_setWeight Y g l).1) := by
  subst e
  exact q_setWeight p g x
theorem sw_ne (w : WF Y.1) (hg : g < vN Y.1) {e : Nat} (h1 : 1 ≤ e) (h9 : e ≤ 9) : ¬ (sp_setWeight Y (nI g) (nI e)).1 = -2 := by
  unfold sp_setWeight
  rw [if_neg (not_not_intro (gOk_nI w hg)), if_neg (not_not_intro ⟨nI_le (a := 1) h1 (by omega), nI_le (b := 9) h9 (by decide)⟩), clp_k w hg]
  obtain ⟨d, h1, h2, ed⟩ := (w.2.2.2.2.1 g hg).2.1
  by_cases c3 : Y.1 7 = 1
  · rw [if_pos c3]; show ¬ (-4 : Int32) = -2; decide
  · rw [if_neg c3]
    by_cases c4 : vG Y.1 g 1 = nI e
    · rw [if_pos c4]; show ¬ (-5 : Int32) = -2; decide
    · rw [if_neg c4]
      show ¬ vG Y.1 g 1 = -2
      rw [ed]
      exact fun q => absurd (show nI d < 0 by rw [q]; decide) (nI_pos (by omega))
set_option maxRecDepth 100000 in
set_option maxHeartbeats 4000000 in
/-- another weight, or the company is dissolved -/
theorem a_rest (p : PY K H b Y) (hg : g < vN Y.1) (hf : FX Y fx left) (hz : zz < 2147483648) : aJ K b Y 624 (aL b y zz g fx left l6 l7 l8 l9 l10 l11 l12) H := by
  have w := p.w
  have hn := w.1.2
  refine hGo_sound (okc_La_acts K _ _) [] 90 _ _ _ _ _ ?_
  refine ⟨fun _ => ?_, fun _ => ?_⟩
  · rcases hf with ⟨rfl, h7, yl, hyl, e8, rfl⟩ | ⟨rfl, h7⟩
    · have e : sp_dissolve Y = (nI (pop yl), yAct Y (dsV Y.1)) := by
        unfold sp_dissolve
        rw [if_neg (not_not_intro h7), e8, clp_nI (by omega)]
      refine ⟨fun q => absurd q (by decide), fun _ => ?_⟩
      refine ⟨_, p.obj, _, q_dissolve p, ?_⟩
      rintro _ H1 ⟨rfl, p1⟩
      refine ⟨_, c_ones K H1 yl, ?_⟩
      rintro _ _ ⟨rfl, rfl⟩
      refine ⟨fun q => absurd (by rw [e]) q, fun _ => ?_⟩
      refine ⟨_, p1.obj, _, q_company p1 (x := 3) (v := -5) (by rw [e]; rfl), ?_⟩
      rintro _ H2 ⟨rfl, p2⟩
      refine ⟨fun q => absurd rfl q, fun _ => ?_⟩
      exact ⟨Or.inr rfl, AQ.ok (j := 0) p2 nn_dissolve (by decide) fun m _ i => li_dissolve p.2 i⟩
    · have e : sp_dissolve Y = (-4, Y) := if_pos h7
      refine ⟨fun _ => ?_, fun q => absurd rfl q⟩
      refine ⟨_, p.obj, _, q_dissolve p, ?_⟩
      rintro _ H1 ⟨rfl, p1⟩
      rw [e] at p1
      exact ⟨fun q => absurd (by rw [e]) q, fun _ => ⟨Or.inr rfl, AQ.same p1⟩⟩
  · have z4 : nI zz >>> ((4 : Int32) &&& 31) = nI (zz / 16) := shr_any (s := 4) hz (by decide)
    have er : (nI (zz / 16) - nI (zz / 16) / 9 * 9 : Int32) = nI (zz / 16 % 9) := pk_rem (d := 9) (by omega) (by decide) (by decide)
    have h9 := Nat.mod_lt (zz / 16) (show 9 > 0 by decide)
    have e1 : (1 : Int32) + (nI zz >>> ((4 : Int32) &&& 31) - nI zz >>> ((4 : Int32) &&& 31) / 9 * 9) = nI (1 + zz / 16 % 9) := by
      rw [z4, er]
      exact nI_add 1 _
    refine ⟨by decide, ?_⟩
    refine ⟨_, p.obj, _, q_setWeightE p (nI g) e1, ?_⟩
    rintro _ H1 ⟨rfl, p1⟩
    refine ⟨fun q => absurd q (sw_ne w hg (by omega) (by omega)), fun _ => ?_⟩
    exact ⟨Or.inr rfl, AQ.ok (j := 1) p1 (nn_setWeight _ _) (by decide) fun m _ i => li_setWeight i _ _⟩
set_option maxRecDepth 100000 in
set_option maxHeartbeats 4000000 in
theorem c_acts {m : Nat} (p : PY K H b Y) (hK' : hSetK K) (h0 : 0 < vN Y.1) (i : LI m Y.1) (hm : m ≤ 77) (hy : y < 2147483648) : hCT K M_La_acts [.ref b, .int (nI y)] H 0 0 (AQ K b Y) := by
  have w := p.w
  have hn := w.1.2
  have ez : nI y >>> ((3 : Int32) &&& 31) = nI (y / 8) := shr_any (s := 3) hy (by decide)
  have hz : y / 8 < 2147483648 := by omega
  have er := pk_rem (a := y / 8) (d := vN Y.1) hz h0 (by omega)
  have hg : y / 8 % vN Y.1 < vN Y.1 := Nat.mod_lt _ h0
  have s : ∀ (H : hAH) (fx : Bool) (left : Int32), PY K H b Y → FX Y fx left → aJ K b Y 36 (aL b y (y / 8) (y / 8 % vN Y.1) fx left none none none none none none none) H := by
    intro H fx left p hf
    refine hGo_sound (okc_La_acts K _ _) [84, 93, 192, 304, 380, 532, 624] 30 _ _ _ _ _ ?_
    exact ⟨fun _ => a_cond p hg hz, fun _ => ⟨fun _ => a_cond p hg hz, fun _ => ⟨fun _ => a_limit p hg hf, fun _ => ⟨fun _ => a_invite p hg hf, fun _ => ⟨fun _ => a_pass p hK' i hm hz, fun _ => ⟨fun _ => a_fix p hf, fun _ => ⟨fun _ => a_cancel p hg hf, fun _ => a_rest p hg hf hz⟩⟩⟩⟩⟩⟩⟩
  have s4 : ∀ (H : hAH), PY K H b Y → aJ K b Y 4 [some (.ref b), some (.int (nI y)), some (.int (nI (y / 8))), none, none, none, none, none, none, none, none, none, none] H := by
    intro H p
    have s12 : ∀ (H : hAH), PY K H b Y → aJ K b Y 12 [some (.ref b), some (.int (nI y)), some (.int (nI (y / 8))), some (.int (nI (y / 8 % vN Y.1))), none, none, none, none, none, none, none, none, none] H := by
      intro H p
      refine hGo_sound (okc_La_acts K _ _) [36] 60 _ _ _ _ _ ?_
      refine ⟨_, p.obj, _, q_count p (x := 8) (v := Y.1 7) rfl, ?_⟩
      rintro _ H1 ⟨rfl, p1⟩
      refine ⟨fun q => ?_, fun q => ?_⟩
      · refine ⟨_, p1.obj, _, q_company p1 (x := 3) (v := -5) (if_neg q), ?_⟩
        rintro _ H2 ⟨rfl, p2⟩
        exact s H2 false _ p2 (Or.inr ⟨rfl, q⟩)
      · obtain ⟨yl, hyl, e8, -⟩ := w.2.2.2.1.2
        have h12 := two12 hn
        refine ⟨_, p1.obj, _, q_company p1 (x := 3) (v := nI yl) ((if_pos q).trans e8), ?_⟩
        rintro _ H2 ⟨rfl, p2⟩
        exact s H2 true _ p2 (Or.inl ⟨rfl, q, yl, by omega, e8, rfl⟩)
    refine hGo_sound (okc_La_acts K _ _) [12] 60 _ _ _ _ _ ?_
    refine ⟨_, p.obj, _, q_n p, ?_⟩
    rintro _ H1 ⟨rfl, p1⟩
    refine ⟨nI_ne0 h0 (by omega), ?_⟩
    have := s12 H1 p1
    rw [← er] at this
    exact this
  refine hCT.go (okc_La_acts K _ _) [4] 60 (by decide +kernel) rfl rfl ?_
  have := s4 H p
  rw [← ez] at this
  exact this
end LAC
