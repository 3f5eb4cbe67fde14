/-! THE LAW: the guests -/
section LGU
variable {K : hK} {H : hAH} {b g m : Nat} {Y : hY}
abbrev gJ (K : hK) (b : Nat) (Y : hY) (pc : Nat) (ls : hLs) (H : hAH) : Prop := hJ K M_La_guests (0, 0) (RQ K b Y 1) pc (0, 0) ls [] H
abbrev sG (Y : hY) (f g : Nat) : Int32 := sumI (fun k => vG Y.1 k f) g
abbrev sS (Y : hY) (g : Nat) : Int32 := nI (setOf (fun k => decide (0 ≤ vG Y.1 k 7)) g)
/-- the locals of the loop over the guests -/
abbrev gL (b : Nat) (Y : hY) (j s g : Nat) (l8 l9 l10 l11 : Option Value) : hLs := [some (.ref b), some (.int (nI (vGr Y.1))), some (.int (sG Y 5 j)), some (.int (sG Y 6 j)), some (.int (sG Y 3 j)), some (.int (sS Y s)), some (.int 1), some (.int (nI g)), l8, l9, l10, l11]
set_option maxRecDepth 100000 in
set_option maxHeartbeats 4000000 in
/-- reason, whom it leads back to, sums, the seats -/
theorem g_sums {l8 l9 l10 l11 : Option Value} (p : PY K H b Y) (hg : g < vN Y.1)
    (next : ∀ H, PY K H b Y → gJ K b Y 112 (gL b Y (g + 1) (g + 1) g (some (.int (err (vS Y.1) g))) (some (.int (sp_why Y (nI g) 2))) l10 l11) H) :
    gJ K b Y 22 (gL b Y g g g l8 l9 l10 l11) H := by
  have w := p.w
  have hn := w.1.2
  refine hGo_sound (okc_La_guests K _ _) [112] 90 _ _ _ _ _ ?_
  refine ⟨_, p.obj, _, q_n p, ?_⟩
  rintro _ H1 ⟨rfl, p1⟩
  refine ⟨fun z => absurd ((nI_leI (by omega) (by omega)).mp z) (by omega), fun _ => ⟨fun z => absurd z (by decide), fun _ => ?_⟩⟩
  refine ⟨_, p1.obj, _, q_why p1 (a_why0 w hg), ?_⟩
  rintro _ H2 ⟨rfl, p2⟩
  refine ⟨_, p2.obj, _, q_why p2 (x := 2) (v := sp_why Y (nI g) 2) rfl, ?_⟩
  rintro _ H3 ⟨rfl, p3⟩
  refine ⟨_, p3.obj, _, q_gu p3 hg (f := 5) (by decide), ?_⟩
  rintro _ H4 ⟨rfl, p4⟩
  refine ⟨_, p4.obj, _, q_gu p4 hg (f := 6) (by decide), ?_⟩
  rintro _ H5 ⟨rfl, p5⟩
  refine ⟨_, p5.obj, _, q_gu p5 hg (f := 3) (by decide), ?_⟩
  rintro _ H6 ⟨rfl, p6⟩
  refine ⟨_, p6.obj, _, q_gu p6 hg (f := 7) (by decide), ?_⟩
  rintro _ H7 ⟨rfl, p7⟩
  have nx := next H7 p7
  refine ⟨fun z => ?_, fun z => ?_⟩
  · have e : sS Y (g + 1) = sS Y g ||| 0 := by
      show nI _ = nI _ ||| nI 0
      rw [setOf_no (decide_eq_false (Int32.not_le.mpr z)), nI_or, Nat.or_zero]
    unfold gL at nx
    rw [e] at nx
    exact nx
  · have e : sS Y (g + 1) = sS Y g ||| ((1 : Int32) <<< (nI g &&& 31)) := by
      show nI _ = nI _ ||| _
      rw [setOf_yes (decide_eq_true (Int32.not_lt.mp z)), shl_1 g (by omega), nI_or]
    unfold gL at nx
    rw [e] at nx
    exact nx
set_option maxRecDepth 100000 in
set_option maxHeartbeats 4000000 in
/-- the reason is the guest's; the seat is the guest's -/
theorem g_seat {l9 l10 l11 : Option Value} (p : PY K H b Y) (i : LI m Y.1) (hg : g < vN Y.1)
    (next : ∀ H, PY K H b Y → gJ K b Y 204 (gL b Y (g + 1) (g + 1) g (some (.int (err (vS Y.1) g))) l9 l10 l11) H) :
    gJ K b Y 112 (gL b Y (g + 1) (g + 1) g (some (.int (err (vS Y.1) g))) l9 l10 l11) H := by
  have w := p.w
  have hn := w.1.2
  have e0 := err_0 hg hn
  have e1 := err_1 hg hn
  have eb := sh1_bit (vGr Y.1) (k := g) (by omega)
  have s2 : ∀ H, PY K H b Y → gJ K b Y 169 (gL b Y (g + 1) (g + 1) g (some (.int (err (vS Y.1) g))) l9 l10 l11) H := by
    intro H p
    refine hGo_sound (okc_La_guests K _ _) [204] 60 _ _ _ _ _ ?_
    refine ⟨_, p.obj, _, q_gu p hg (f := 7) (by decide), ?_⟩
    rintro _ H1 ⟨rfl, p1⟩
    refine ⟨fun _ => next H1 p1, fun z => ?_⟩
    refine ⟨_, p1.obj, _, q_gu p1 hg (f := 7) (by decide), ?_⟩
    rintro _ H2 ⟨rfl, p2⟩
    rcases seat_val w i hg with ⟨q, -⟩ | ⟨-, -, s, hs, q⟩
    · rw [q] at z; exact absurd (by decide) z
    · refine ⟨_, p2.obj, _, q_seat p2 (v := nI g) (by rw [q]; exact a_seat w hg hs q), ?_⟩
      rintro _ H3 ⟨rfl, p3⟩
      exact ⟨fun z => absurd rfl z, fun _ => next H3 p3⟩
  have s1 : ∀ H, PY K H b Y → gJ K b Y 140 (gL b Y (g + 1) (g + 1) g (some (.int (err (vS Y.1) g))) l9 l10 l11) H := by
    intro H p
    refine hGo_sound (okc_La_guests K _ _) [169] 60 _ _ _ _ _ ?_
    by_cases he : err (vS Y.1) g = 1
    · refine ⟨fun z => absurd he z, fun _ => ?_⟩
      refine ⟨_, p.obj, _, q_gu p hg (f := 2) (by decide), ?_⟩
      rintro _ H1 ⟨rfl, p1⟩
      refine ⟨fun z => absurd (e1.mp he) z, fun _ => ?_⟩
      exact ⟨fun z => absurd rfl z, fun _ => s2 H1 p1⟩
    · refine ⟨fun _ => ?_, fun z => absurd z he⟩
      refine ⟨_, p.obj, _, q_gu p hg (f := 2) (by decide), ?_⟩
      rintro _ H1 ⟨rfl, p1⟩
      refine ⟨fun _ => ?_, fun z => absurd (e1.mpr z) he⟩
      exact ⟨fun z => absurd rfl z, fun _ => s2 H1 p1⟩
  refine hGo_sound (okc_La_guests K _ _) [140] 60 _ _ _ _ _ ?_
  by_cases he : err (vS Y.1) g = 0
  · have hb := e0.mp he
    rw [hb] at eb
    refine ⟨fun z => absurd he z, fun _ => ?_⟩
    refine ⟨fun z => absurd eb z, fun _ => ?_⟩
    exact ⟨fun z => absurd rfl z, fun _ => s1 H p⟩
  · have hb : (vGr Y.1).testBit g = false := by
      cases h : (vGr Y.1).testBit g
      · rfl
      · exact absurd (e0.mpr h) he
    rw [hb] at eb
    refine ⟨fun _ => ?_, fun z => absurd z he⟩
    refine ⟨fun _ => ?_, fun z => absurd (eb.symm.trans z) (by decide)⟩
    exact ⟨fun z => absurd rfl z, fun _ => s1 H p⟩
set_option maxRecDepth 100000 in
set_option maxHeartbeats 4000000 in
/-- the reason leads back -/
theorem g_way {l10 l11 : Option Value} (p : PY K H b Y) (hg : g < vN Y.1)
    (next : ∀ H, PY K H b Y → gJ K b Y 343 (gL b Y (g + 1) (g + 1) g (some (.int (err (vS Y.1) g))) (some (.int (sp_why Y (nI g) 2))) l10 l11) H) :
    gJ K b Y 204 (gL b Y (g + 1) (g + 1) g (some (.int (err (vS Y.1) g))) (some (.int (sp_why Y (nI g) 2))) l10 l11) H := by
  have w := p.w
  have hn := w.1.2
  refine hGo_sound (okc_La_guests K _ _) [343] 90 _ _ _ _ _ ?_
  refine ⟨fun z => absurd z (by decide), fun _ => ?_⟩
  refine ⟨fun z => ?_, fun z => ?_⟩
  · have he := (err_pos _ _).mp z
    refine ⟨fun q => absurd (a_whyN w hg he (Or.inr rfl)) q, fun _ => ?_⟩
    refine ⟨_, p.obj, _, q_why p (a_whyN w hg he (Or.inl rfl)), ?_⟩
    rintro _ H1 ⟨rfl, p1⟩
    exact ⟨fun q => absurd rfl q, fun _ => next H1 p1⟩
  · have he : ¬ err (vS Y.1) g = 0 := fun q => z ((err_pos _ _).mpr q)
    have htt := err_lt he
    have hle := tt_le htt
    have hL := (eL_spec (vS Y.1)).1
    have e2 := a_why2 w hg he
    refine ⟨_, p.obj, _, q_why p (a_why1 w hg he), ?_⟩
    rintro _ H1 ⟨rfl, p1⟩
    refine ⟨_, p1.obj, _, q_rounds p1 (v := nI (eL (vS Y.1) + 1)) rfl, ?_⟩
    rintro _ H2 ⟨rfl, p2⟩
    refine ⟨fun q => absurd ((nI_leI (by omega) (by omega)).mp q) (by omega), fun _ => ?_⟩
    refine ⟨fun q => ?_, fun q => ?_⟩
    · rw [e2] at q
      obtain ⟨j, hj, hjn, ej, et, htj, ew⟩ := way_to (E := vS Y.1) (k := g) (Int32.not_lt.mpr q)
      have hjn : j < vN Y.1 := hjn
      have hej := err_ne htj
      rw [e2, ej]
      rw [e2, ej] at next
      refine ⟨_, p2.obj, _, q_why p2 (a_why1 w hjn hej), ?_⟩
      rintro _ H3 ⟨rfl, p3⟩
      refine ⟨_, p3.obj, _, q_why p3 (a_why1 w hg he), ?_⟩
      rintro _ H4 ⟨rfl, p4⟩
      refine ⟨fun q => absurd (by rw [et, nI_pred]) q, fun _ => ?_⟩
      refine ⟨_, p4.obj, _, q_why p4 (a_why3 w hg he), ?_⟩
      rintro _ H5 ⟨rfl, p5⟩
      refine ⟨_, p5.obj, _, q_why p5 (a_why3 w hjn hej), ?_⟩
      rintro _ H6 ⟨rfl, p6⟩
      refine ⟨fun q => absurd (by rw [ew, nI_1]) q, fun _ => ?_⟩
      refine ⟨_, p6.obj, _, q_why p6 (a_why4 w hg he), ?_⟩
      rintro _ H7 ⟨rfl, p7⟩
      refine ⟨_, p7.obj, _, q_why p7 (a_why4 w hjn hej), ?_⟩
      rintro _ H8 ⟨rfl, p8⟩
      exact ⟨fun q => absurd (by rw [ew]) q, fun _ => next H8 p8⟩
    · have hb : ebb (vS Y.1) g < 0 := by rw [e2] at q; exact Int32.not_le.mp q
      have ew := way_no (f := ett (vS Y.1) g) hb
      refine ⟨_, p2.obj, _, q_why p2 (a_why3 w hg he), ?_⟩
      rintro _ H3 ⟨rfl, p3⟩
      refine ⟨fun q => absurd (by rw [ew]; rfl) q, fun _ => ?_⟩
      refine ⟨_, p3.obj, _, q_why p3 (a_why4 w hg he), ?_⟩
      rintro _ H4 ⟨rfl, p4⟩
      exact ⟨fun q => absurd (by rw [ew]) q, fun _ => next H4 p4⟩
set_option maxRecDepth 100000 in
set_option maxHeartbeats 4000000 in
/-- a greater set meets what a smaller one does -/
theorem g_mono {l8 l9 l11 : Option Value} (hn : vN Y.1 ≤ 12) (hg : g < vN Y.1)
    (next : ∀ (H : hAH) (l10 : Option Value), PY K H b Y → gJ K b Y 410 (gL b Y (g + 1) (g + 1) g l8 l9 l10 l11) H) :
    ∀ (d i : Nat) (v : Int32) (H : hAH), i + d = 2 ^ vN Y.1 → PY K H b Y → v = nI i → gJ K b Y 346 (gL b Y (g + 1) (g + 1) g l8 l9 (some (.int v)) l11) H := by
  have h12 := two12 hn
  intro d
  induction d with
  | zero =>
    intro i v H hi p ev
    obtain rfl : i = 2 ^ vN Y.1 := by omega
    refine hGo_sound (okc_La_guests K _ _) [346, 410] 60 _ _ _ _ _ ?_
    rw [ev]
    refine ⟨_, p.obj, _, q_n p, ?_⟩
    rintro _ H1 ⟨rfl, p1⟩
    exact ⟨fun _ => next H1 _ p1, fun z => absurd (by rw [shl_n hn]; exact Int32.le_refl _) z⟩
  | succ d ih =>
    intro i v H hi p ev
    have w := p.w
    have hi' : i < 2 ^ vN Y.1 := by omega
    refine hGo_sound (okc_La_guests K _ _) [346, 410] 90 _ _ _ _ _ ?_
    rw [ev]
    refine ⟨_, p.obj, _, q_n p, ?_⟩
    rintro _ H1 ⟨rfl, p1⟩
    refine ⟨fun z => ?_, fun _ => ⟨fun z => absurd z (by decide), fun _ => ?_⟩⟩
    · rw [shl_n hn] at z
      exact absurd ((nI_leI (by omega) (by omega)).mp z) (by omega)
    · refine ⟨_, p1.obj, _, q_met p1 (a_met w hg hi'), ?_⟩
      rintro _ H2 ⟨rfl, p2⟩
      refine ⟨fun _ => ih (i + 1) _ H2 (by omega) p2 (nI_1 i), fun z => ?_⟩
      have hm := b2i_n0.mp z
      refine ⟨_, p2.obj, _, q_n p2, ?_⟩
      rintro _ H3 ⟨rfl, p3⟩
      refine ⟨nI_ne0 (by omega) (by omega), ?_⟩
      have er := pk_rem (a := i) (d := vN Y.1) (by omega) (by omega) (by omega)
      have hmod : i % vN Y.1 < vN Y.1 := Nat.mod_lt _ (by omega)
      have hor := or_lt hi' hmod
      have em : sp_met Y (nI g) (nI i ||| ((1 : Int32) <<< ((nI i - nI i / nI (vN Y.1) * nI (vN Y.1)) &&& 31))) = 1 := by
        rw [er, shl_1 _ (by omega), nI_or, a_met w hg hor, met_mono w hg (by omega) (by omega) (sub_or i (2 ^ (i % vN Y.1))) hm]
        rfl
      refine ⟨_, p3.obj, _, q_met p3 em, ?_⟩
      rintro _ H4 ⟨rfl, p4⟩
      exact ⟨fun q => absurd rfl q, fun _ => ih (i + 1) _ H4 (by omega) p4 (nI_1 i)⟩
set_option maxRecDepth 100000 in
set_option maxHeartbeats 4000000 in
/-- what a guest needs, and how many come for a guest -/
theorem g_needs {l9 l10 l11 : Option Value} (p : PY K H b Y) (i : LI m Y.1) (hg : g < vN Y.1)
    (next : ∀ (H : hAH) (l8 l9 l10 l11 : Option Value) (v : Int32), PY K H b Y → v = nI (g + 1) → gJ K b Y 22 [some (.ref b), some (.int (nI (vGr Y.1))), some (.int (sG Y 5 (g + 1))), some (.int (sG Y 6 (g + 1))), some (.int (sG Y 3 (g + 1))), some (.int (sS Y (g + 1))), some (.int 1), some (.int v), l8, l9, l10, l11] H) :
    gJ K b Y 410 (gL b Y (g + 1) (g + 1) g (some (.int (err (vS Y.1) g))) l9 l10 l11) H := by
  have w := p.w
  have hn := w.1.2
  have h12 := two12 hn
  have h0 := Nat.two_pow_pos (vN Y.1)
  have e1 : (1 : Int32) <<< (nI (vN Y.1) &&& 31) - 1 = nI (2 ^ vN Y.1 - 1) := by
    rw [shl_n hn]
    exact pk_sub (b := 1) (by omega)
  have nw := a_needs w hg
  have s3 : ∀ (H : hAH) (l10 : Option Value), PY K H b Y → gJ K b Y 488 (gL b Y (g + 1) (g + 1) g (some (.int (err (vS Y.1) g))) l9 l10 l11) H := by
    intro H l10 p
    refine hGo_sound (okc_La_guests K _ _) [22] 90 _ _ _ _ _ ?_
    by_cases h2 : vG Y.1 g 2 = 0
    · refine ⟨_, p.obj, _, q_weightOf p (a_wo0 w hg h2), ?_⟩
      rintro _ H1 ⟨rfl, p1⟩
      refine ⟨fun q => absurd q (by decide), fun _ => ?_⟩
      refine ⟨_, p1.obj, _, q_gu p1 hg (f := 2) (by decide), ?_⟩
      rintro _ H2 ⟨rfl, p2⟩
      refine ⟨fun q => absurd h2 q, fun _ => ?_⟩
      exact ⟨fun q => absurd rfl q, fun _ => next H2 _ _ _ _ _ p2 (nI_1 g)⟩
    · obtain ⟨a1, a2⟩ := a_wo w hg h2
      have e0 := err_0 hg hn
      have pl := pop_le (vGr Y.1)
      refine ⟨_, p.obj, _, q_weightOf p a1, ?_⟩
      rintro _ H1 ⟨rfl, p1⟩
      refine ⟨fun q => absurd q (by decide), fun _ => ?_⟩
      refine ⟨_, p1.obj, _, q_gu p1 hg (f := 2) (by decide), ?_⟩
      rintro _ H2 ⟨rfl, p2⟩
      refine ⟨fun _ => ?_, fun q => absurd q h2⟩
      by_cases he : err (vS Y.1) g = 0
      · have hd := a2.mpr (e0.mp he)
        refine ⟨fun q => absurd he q, fun _ => ?_⟩
        refine ⟨fun q => absurd q (nI_nle hd (by omega)), fun _ => ?_⟩
        exact ⟨fun q => absurd rfl q, fun _ => next H2 _ _ _ _ _ p2 (nI_1 g)⟩
      · have hd : pop (vGr Y.1) - pop (egr (vE Y.1 (dif (vInv Y.1) (2 ^ g)) (-1))) = 0 := by
          have : ¬ 0 < pop (vGr Y.1) - pop (egr (vE Y.1 (dif (vInv Y.1) (2 ^ g)) (-1))) := fun q => he (e0.mpr (a2.mp q))
          omega
        refine ⟨fun _ => ?_, fun q => absurd q he⟩
        refine ⟨fun _ => ?_, fun q => absurd (by rw [hd]; decide) q⟩
        exact ⟨fun q => absurd rfl q, fun _ => next H2 _ _ _ _ _ p2 (nI_1 g)⟩
  have s2 : ∀ (H : hAH) (l10 : Option Value), PY K H b Y → gJ K b Y 459 (gL b Y (g + 1) (g + 1) g (some (.int (err (vS Y.1) g))) l9 l10 l11) H := by
    intro H l10 p
    refine hGo_sound (okc_La_guests K _ _) [488] 60 _ _ _ _ _ ?_
    refine ⟨_, p.obj, _, q_gu p hg (f := 4) (by decide), ?_⟩
    rintro _ H1 ⟨rfl, p1⟩
    refine ⟨_, p1.obj, _, q_n p1, ?_⟩
    rintro _ H2 ⟨rfl, p2⟩
    have hl := i.lt hg
    have e4 : vG Y.1 g 4 = nI (vLet Y.1 g) := (w.2.2.2.2.1 g hg).2.2.2.1.1
    have ez : vG Y.1 g 4 &&& (((1 : Int32) <<< (nI (vN Y.1) &&& 31) - 1) ^^^ (-1)) = 0 := by
      rw [e1, e4]
      exact (part_iff (by omega) (by omega)).mpr (sub_all hl)
    exact ⟨fun q => absurd ez q, fun _ => s3 H2 _ p2⟩
  refine hGo_sound (okc_La_guests K _ _) [459] 90 _ _ _ _ _ ?_
  refine ⟨_, p.obj, _, q_needs p (g := nI g) (v := sp_needs Y (nI g)) rfl, ?_⟩
  rintro _ H1 ⟨rfl, p1⟩
  refine ⟨fun q => absurd q (by decide), fun _ => ?_⟩
  have em : sp_met Y (nI g) ((1 : Int32) <<< (nI (vN Y.1) &&& 31) - 1) = b2i (vMet Y.1 g (2 ^ vN Y.1 - 1)) := by
    rw [e1]
    exact a_met w hg (by omega)
  refine ⟨fun q => ?_, fun q => ?_⟩
  · have hm : vMet Y.1 g (2 ^ vN Y.1 - 1) = true := by
      cases h : vMet Y.1 g (2 ^ vN Y.1 - 1)
      · exact absurd (nw.mpr h) (Int32.not_lt.mpr q)
      · rfl
    rw [hm] at em
    refine ⟨_, p1.obj, _, q_n p1, ?_⟩
    rintro _ H2 ⟨rfl, p2⟩
    refine ⟨_, p2.obj, _, q_met p2 em, ?_⟩
    rintro _ H3 ⟨rfl, p3⟩
    refine ⟨fun _ => ?_, fun q => absurd q (by decide)⟩
    exact ⟨fun q => absurd rfl q, fun _ => s2 H3 _ p3⟩
  · have hm := nw.mp (Int32.not_le.mp q)
    rw [hm] at em
    refine ⟨_, p1.obj, _, q_n p1, ?_⟩
    rintro _ H2 ⟨rfl, p2⟩
    refine ⟨_, p2.obj, _, q_met p2 em, ?_⟩
    rintro _ H3 ⟨rfl, p3⟩
    refine ⟨fun q => absurd rfl q, fun _ => ?_⟩
    exact ⟨fun q => absurd rfl q, fun _ => s2 H3 _ p3⟩
set_option maxRecDepth 100000 in
set_option maxHeartbeats 4000000 in
/-- the end: the sums, the seats -/
theorem g_end {l8 l9 l10 l11 : Option Value} (p : PY K H b Y) (i : LI m Y.1) (hm : m ≤ 80) : gJ K b Y 22 (gL b Y (vN Y.1) (vN Y.1) (vN Y.1) l8 l9 l10 l11) H := by
  have w := p.w
  have hn := w.1.2
  refine hGo_sound (okc_La_guests K _ _) [] 120 _ _ _ _ _ ?_
  refine ⟨_, p.obj, _, q_n p, ?_⟩
  rintro _ H1 ⟨rfl, p1⟩
  refine ⟨fun _ => ?_, fun z => absurd (Int32.le_refl _) z⟩
  refine ⟨_, p1.obj, _, q_company p1 (x := 3) (v := if Y.1 7 = 1 then Y.1 8 else -5) rfl, ?_⟩
  rintro _ H2 ⟨rfl, p2⟩
  refine ⟨fun q => absurd q (by decide), fun _ => ?_⟩
  refine ⟨_, p2.obj, _, q_count p2 (a_paid w), ?_⟩
  rintro _ H3 ⟨rfl, p3⟩
  refine ⟨fun q => absurd rfl q, fun _ => ?_⟩
  refine ⟨_, p3.obj, _, q_count p3 (a_back w), ?_⟩
  rintro _ H4 ⟨rfl, p4⟩
  refine ⟨fun q => absurd rfl q, fun _ => ?_⟩
  refine ⟨_, p4.obj, _, q_count p4 (a_charges w), ?_⟩
  rintro _ H5 ⟨rfl, p5⟩
  refine ⟨fun q => absurd rfl q, fun _ => ?_⟩
  refine ⟨fun q => absurd q (Int32.not_lt.mpr (back_le w i hm)), fun _ => ?_⟩
  refine ⟨_, p5.obj, _, q_count p5 (x := 8) (v := Y.1 7) rfl, ?_⟩
  rintro _ H6 ⟨rfl, p6⟩
  by_cases h7 : Y.1 7 = 1
  · have e8 := left_eq w i h7
    have hl := setOf_lt (fun k => decide (0 ≤ vG Y.1 k 7)) (vN Y.1)
    have h12 := two12 hn
    have hp : ¬ (if Y.1 7 = 1 then Y.1 8 else -5) < 0 := by
      rw [if_pos h7, e8]
      exact nI_pos (by omega)
    refine ⟨fun q => absurd h7 q, fun _ => ?_⟩
    refine ⟨fun q => absurd q hp, fun _ => ?_⟩
    refine ⟨fun q => absurd rfl q, fun _ => ?_⟩
    refine ⟨fun q => absurd q hp, fun _ => ?_⟩
    refine ⟨fun q => absurd (by rw [if_pos h7, e8]) q, fun _ => ?_⟩
    exact ⟨Or.inr rfl, rfl, p6⟩
  · have hp : (if Y.1 7 = 1 then Y.1 8 else -5) < 0 := by
      rw [if_neg h7]
      decide
    refine ⟨fun _ => ?_, fun q => absurd q h7⟩
    refine ⟨fun _ => ?_, fun q => absurd hp q⟩
    refine ⟨fun q => absurd rfl q, fun _ => ?_⟩
    refine ⟨fun _ => ?_, fun q => absurd hp q⟩
    exact ⟨Or.inr rfl, rfl, p6⟩
set_option maxRecDepth 100000 in
set_option maxHeartbeats 4000000 in
theorem l_guests (hn : vN Y.1 ≤ 12) (i : LI m Y.1) (hm : m ≤ 80) : ∀ (d g : Nat) (v : Int32) (l8 l9 l10 l11 : Option Value) (H : hAH), g + d = vN Y.1 → PY K H b Y → v = nI g → gJ K b Y 22 [some (.ref b), some (.int (nI (vGr Y.1))), some (.int (sG Y 5 g)), some (.int (sG Y 6 g)), some (.int (sG Y 3 g)), some (.int (sS Y g)), some (.int 1), some (.int v), l8, l9, l10, l11] H := by
  intro d
  induction d with
  | zero =>
    intro g v l8 l9 l10 l11 H hg p ev
    obtain rfl : g = vN Y.1 := by omega
    rw [ev]
    exact g_end p i hm
  | succ d ih =>
    intro g v l8 l9 l10 l11 H hg p ev
    have hg' : g < vN Y.1 := by omega
    rw [ev]
    refine g_sums p hg' fun H p => g_seat p i hg' fun H p => g_way p hg' fun H p => ?_
    refine hGo_sound (okc_La_guests K _ _) [346] 20 _ _ _ _ _ ?_
    refine g_mono hn hg' (fun H l10 p => ?_) (2 ^ vN Y.1) 0 0 H (by omega) p rfl
    exact g_needs p i hg' fun H l8 l9 l10 l11 v p ev => ih (g + 1) v l8 l9 l10 l11 H (by omega) p ev
set_option maxRecDepth 100000 in
set_option maxHeartbeats 4000000 in
theorem c_guests (p : PY K H b Y) (i : LI m Y.1) (hm : m ≤ 80) : hCT K M_La_guests [.ref b] H 0 0 (RQ K b Y 1) := by
  refine hCT.go (okc_La_guests K _ _) [22] 60 (by decide +kernel) rfl rfl ?_
  refine ⟨_, p.obj, _, q_company p (v := nI (vGr Y.1)) rfl, ?_⟩
  rintro _ H1 ⟨rfl, p1⟩
  exact l_guests p.w.1.2 i hm (vN Y.1) 0 0 none none none none H1 (by omega) p1 rfl
end LGU
