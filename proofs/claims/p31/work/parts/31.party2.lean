/-! THE CLASS: the other questions -/
theorem cnt_ext {q : Nat → Bool} {m : Nat} : ∀ (d : Nat), (∀ x, m ≤ x → x < m + d → q x = false) → cnt q (m + d) = cnt q m
  | 0, _ => rfl
  | d + 1, h => by
    show cnt q (m + d) + (if q (m + d) then 1 else 0) = _
    rw [h (m + d) (by omega) (by omega), cnt_ext d (fun x h1 h2 => h x h1 (by omega))]
    rfl
theorem smO_ext {q : Nat → Bool} {m : Nat} : ∀ (d : Nat), (∀ x, m < x → x ≤ m + d → q x = false) → smO q (m + d) = smO q m
  | 0, _ => rfl
  | d + 1, h => by
    show (if q (m + d + 1) && _ then _ else smO q (m + d)) = _
    rw [h (m + d + 1) (by omega) (by omega), smO_ext d (fun x h1 h2 => h x h1 (by omega))]
    rfl
/-- the class's way and the other -/
theorem sm_eq {p q : Nat → Bool} : ∀ (n : Nat), n < 4096 → (∀ x, 1 ≤ x → x ≤ n → p x = q x) → smRun p n = (oI (smO q n), match smO q n with
    | none => 13
    | some b => nI (pop b))
  | 0, _, _ => rfl
  | n + 1, hn, h => by
    have ih := sm_eq n (by omega) (fun x h1 h2 => h x h1 (by omega))
    have hp := pop_le (n + 1)
    have e1 : smRun p (n + 1) = if p (n + 1) && decide (nI (pop (n + 1)) < (smRun p n).2) then (nI (n + 1), nI (pop (n + 1))) else smRun p n := rfl
    rw [e1, ih, h (n + 1) (by omega) (Nat.le_refl _)]
    have e2 : smO q (n + 1) = if q (n + 1) && (match smO q n with
      | none => true
      | some b => decide (pop (n + 1) < pop b)) then some (n + 1) else smO q n := rfl
    rw [e2]
    generalize smO q n = o
    have e3 : ∀ b, decide (nI (pop (n + 1)) < nI (pop b)) = decide (pop (n + 1) < pop b) := fun b => by
      have hpb := pop_le b
      by_cases z : pop (n + 1) < pop b
      · rw [decide_eq_true z, decide_eq_true (nI_lt z (by omega))]
      · rw [decide_eq_false z, decide_eq_false (nI_nlt (by omega) (by omega))]
    have e4 : decide (nI (pop (n + 1)) < (13 : Int32)) = true := decide_eq_true (nI_lt (b := 13) (by omega) (by omega))
    generalize q (n + 1) = t
    cases o with
    | none =>
      show (if t && decide (nI (pop (n + 1)) < 13) then (nI (n + 1), nI (pop (n + 1))) else (oI none, 13)) = _
      rw [e4]
      cases t <;> simp only [Bool.false_and, Bool.and_self, reduceCtorEq, ite_true, ite_false, oI]
    | some b =>
      show (if t && decide (nI (pop (n + 1)) < nI (pop b)) then (nI (n + 1), nI (pop (n + 1))) else (oI (some b), nI (pop b))) = _
      rw [e3 b]
      cases t <;> by_cases hd : pop (n + 1) < pop b <;> simp only [hd, decide_true, decide_false, Bool.false_and, Bool.true_and, Bool.and_self, reduceCtorEq, ite_true, ite_false, oI]
section PB
variable {K : hK} {H : hAH} {b : Nat} {Y : hY} {S N : Nat → Nat → Int32} {π : Nat → Nat} {D : Nat → Nat → Nat → Int32} {C : Nat → Int32} {P : Nat → Nat} {T : Nat → Int32} {lr : Int32} {Z : Nat → Nat → Int32}
theorem part_all {V : Nat → Int32} {S : Nat → Nat → Int32} (w : WF V) (e : Enc S V) {x : Nat} (hx : x ≤ vGr V) : (subB x (vGr V) && stb S (vN V) x) = vStb V x := by
  have := gr_lt V
  rw [e.qstb (by omega)]
  cases hs : vStb V x
  · simp
  · rw [stb_gr w (by omega) hs]; rfl
theorem none_above {V : Nat → Int32} (w : WF V) {x : Nat} (h1 : vGr V < x) (hx : x < 4096) : vStb V x = false := by
  cases hs : vStb V x
  · rfl
  · have := sub_le (stb_gr w hx hs); omega
set_option maxRecDepth 100000 in
set_option maxHeartbeats 4000000 in
theorem c_companies (h : CPx K H b Y S N π D C P T lr Z) (hY : YOk Y) : hCT K M_Pa_companies [.ref b] H 0 0 (cPost K b H (sp_companies Y, Y)) := by
  have w := hY.1
  have hlt := gr_lt2 w
  have h12 := two12 w.1.2
  refine hCT.go (okc_Pa_companies K _ _) [] 60 (by decide +kernel) rfl rfl ?_
  refine ⟨_, h.1, _, h.1, _, c_Pa_find h hY, ?_⟩
  rintro _ H1 ⟨rfl, ⟨Z', h', -⟩, f⟩
  obtain ⟨h1, ⟨h2, h3⟩, -⟩ := id h'
  refine ⟨_, h2.1, _, c_countParts h2 (h3.sok w) (gr_lt _), ?_⟩
  rintro _ H1 ⟨rfl, rfl⟩
  refine ⟨trivial, ?_, h'.cp, f⟩
  show some (Value.int _) = some (.int (sp_companies Y))
  rw [sp_companies]
  have e1 : cnt (fun x => subB x (vGr Y.1) && stb S (vN Y.1) x) (vGr Y.1 + 1) = cnt (vStb Y.1) (vGr Y.1 + 1) := cnt_cong fun x hx => part_all w h3 (by omega)
  have e2 : cnt (vStb Y.1) (2 ^ vN Y.1) = cnt (vStb Y.1) (vGr Y.1 + 1) := by
    rw [show 2 ^ vN Y.1 = vGr Y.1 + 1 + (2 ^ vN Y.1 - (vGr Y.1 + 1)) by omega]
    exact cnt_ext _ fun x h1 h2 => none_above w (by omega) (by omega)
  rw [e1, e2]
set_option maxRecDepth 100000 in
set_option maxHeartbeats 4000000 in
theorem c_company (h : CPx K H b Y S N π D C P T lr Z) (hY : YOk Y) (x : Int32) : hCT K M_Pa_company [.ref b, .int x] H 0 0 (cPost K b H (sp_company Y x, Y)) := by
  have w := hY.1
  have hlt := gr_lt2 w
  have h12 := two12 w.1.2
  obtain ⟨g1, ⟨g2, g3⟩, -⟩ := id h
  refine hCT.go (okc_Pa_company K _ _) [] 60 (by decide +kernel) rfl rfl ?_
  refine ⟨fun x0 => ?_, fun x0 => ⟨fun x1 => ?_, fun x1 => ⟨fun x2 => ?_, fun x2 => ⟨fun x3 => ?_, fun x3 => ?_⟩⟩⟩⟩
  · refine ⟨_, h.1, _, c_Pa_find h hY, ?_⟩
    rintro _ H1 ⟨rfl, ⟨Z', h', -⟩, f⟩
    exact ⟨trivial, by rw [sp_company, if_pos x0], h'.cp, f⟩
  · refine ⟨_, h.1, _, c_Pa_chosen h hY, ?_⟩
    rintro _ H1 ⟨rfl, ⟨lr', Z', h'⟩, f⟩
    exact ⟨trivial, by rw [sp_company, if_neg x0, if_pos x1], h'.cp, f⟩
  · refine ⟨_, h.1, _, h.1, _, c_Pa_find h hY, ?_⟩
    rintro _ H1 ⟨rfl, ⟨Z', h', -⟩, f⟩
    obtain ⟨h1, ⟨h2, h3⟩, -⟩ := id h'
    refine ⟨_, h2.1, _, c_smallestPart h2 (h3.sok w) (gr_lt _), ?_⟩
    rintro _ H1 ⟨rfl, rfl⟩
    refine ⟨trivial, ?_, h'.cp, f⟩
    show some (Value.int _) = some (.int (sp_company Y x))
    rw [sp_company, if_neg x0, if_neg x1, if_pos x2, sm_eq (q := vStb Y.1) _ (gr_lt _) (fun y _ hy => part_all w h3 hy)]
    have e2 : smO (vStb Y.1) (2 ^ vN Y.1 - 1) = smO (vStb Y.1) (vGr Y.1) := by
      rw [show 2 ^ vN Y.1 - 1 = vGr Y.1 + (2 ^ vN Y.1 - 1 - vGr Y.1) by omega]
      exact smO_ext _ fun x h1 h2 => none_above w h1 (by omega)
    rw [e2]
  · have e7 : S 0 2 = Y.1 7 := g3.1.2.2.1
    have e8 : S 0 3 = Y.1 8 := g3.1.2.2.2.1
    refine ⟨_, g1, _, g2.1, fun hz => ?_, fun hz => ⟨_, g1, _, g2.1, ?_⟩⟩
    · rw [e7] at hz
      exact ⟨trivial, cQ h (by rw [sp_company, if_neg x0, if_neg x1, if_neg x2, if_pos x3, if_neg (by rw [hz]; decide)])⟩
    · rw [e7] at hz
      have h71 : Y.1 7 = 1 := w.2.2.2.1.1.resolve_left hz
      exact ⟨trivial, cQ h (by rw [sp_company, if_neg x0, if_neg x1, if_neg x2, if_pos x3, if_pos h71, e8])⟩
  · exact ⟨trivial, cQ h (by rw [sp_company, if_neg x0, if_neg x1, if_neg x2, if_neg x3])⟩
set_option maxRecDepth 100000 in
set_option maxHeartbeats 4000000 in
theorem c_rounds (h : CPx K H b Y S N π D C P T lr Z) (hY : YOk Y) : hCT K M_Pa_rounds [.ref b] H 0 0 (cPost K b H (sp_rounds Y, Y)) := by
  refine hCT.go (okc_Pa_rounds K _ _) [] 60 (by decide +kernel) rfl rfl ?_
  refine ⟨_, h.1, _, c_Pa_find h hY, ?_⟩
  rintro _ H1 ⟨rfl, ⟨Z', h', -⟩, f⟩
  exact ⟨_, h'.1, _, h'.2.2.2.2.2.2.1, trivial, rfl, h'.cp, f⟩
set_option maxRecDepth 100000 in
set_option maxHeartbeats 4000000 in
theorem c_why (h : CPx K H b Y S N π D C P T lr Z) (hY : YOk Y) (g x : Int32) : hCT K M_Pa_why [.ref b, .int g, .int x] H 0 0 (cPost K b H (sp_why Y g x, Y)) := by
  have wf := hY.1
  obtain ⟨h1, ⟨h2, h3⟩, -⟩ := id h
  have hs := h3.sok wf
  have hn := wf.1.2
  refine hCT.go (okc_Pa_why K _ _) [] 60 (by decide +kernel) rfl rfl ?_
  by_cases hg : gOk Y.1 g
  · obtain ⟨k, hk, rfl⟩ := (gOk_iff wf).mp hg
    refine ⟨_, h1, _, h2.1, _, c_find_lt h2 hs.1 hs.2.1 hk, ?_⟩
    rintro _ H ⟨rfl, rfl⟩
    refine ⟨_, c_Pa_isWithin K H _ _ _, ?_⟩
    rintro _ H ⟨rfl, rfl⟩
    rw [b2i_if]
    refine ⟨fun hq => ?_, fun hq => ?_⟩
    · have hx := of_decide_eq_true (b2i_n0.mp hq)
      refine ⟨_, h1, _, c_Pa_find h hY, ?_⟩
      rintro _ H1 ⟨rfl, ⟨Z', h', hD⟩, f⟩
      refine ⟨_, h'.1, _, h'.2.2.2.2.2.2.1, _, c_Se_tell h'.2.2.2.2.2.2 (k := k) (by omega) x, ?_⟩
      rintro _ H1 ⟨rfl, rfl⟩
      refine ⟨trivial, ?_, h'.cp, f⟩
      have ge := h3.geq (I := vInv Y.1) (setOf_12 _) (-1)
      obtain ⟨z1, z2⟩ := hD k (by omega) hk
      have er : err (eC S (vN Y.1) (vInv Y.1) (-1)) k = err (vE Y.1 (vInv Y.1) (-1)) k := ge.qrr hk
      show some (Value.int _) = some (.int (sp_why Y (nI k) x))
      have e : sp_why Y (nI k) x = if x = 0 then err (vE Y.1 (vInv Y.1) (-1)) k else if err (vE Y.1 (vInv Y.1) (-1)) k = 0 then -5 else if x = 1 then nI (ett (vE Y.1 (vInv Y.1) (-1)) k) else if x = 2 then ebb (vE Y.1 (vInv Y.1) (-1)) k else if x = 3 then nI (ewl (vE Y.1 (vInv Y.1) (-1)) (ett (vE Y.1 (vInv Y.1) (-1)) k) k).1 else nI (ewl (vE Y.1 (vInv Y.1) (-1)) (ett (vE Y.1 (vInv Y.1) (-1)) k) k).2 := by
        rw [sp_why, if_neg (fun q => q hg), if_neg (fun q => q hx), clp_nI (by omega)]
      rw [e]
      congr 2
      by_cases x0 : x = 0
      · rw [if_neg (fun q => q.1 x0), if_pos x0, if_pos x0, z1, er]
      · by_cases r0 : err (vE Y.1 (vInv Y.1) (-1)) k = 0
        · rw [if_pos ⟨x0, by rw [z1, er]; exact r0⟩, if_neg x0, if_pos r0]
        · obtain ⟨f1, f2, f3, f4, f5⟩ := z2 (by rw [er]; exact r0)
          rw [if_neg (fun q => r0 (by rw [← er, ← z1]; exact q.2)), if_neg x0, if_neg x0, if_neg r0, f2, f3, f4, f5, ge.qtt, ge.qbb hk, ge.qwl _ k hk]
          by_cases x1 : x = 1
          · rw [if_pos x1, if_pos x1]
          · rw [if_neg x1, if_neg x1]
            by_cases x2 : x = 2
            · rw [if_pos x2, if_pos x2]
            · rw [if_neg x2, if_neg x2]
              by_cases x3 : x = 3
              · rw [if_pos x3, if_pos x3]
              · rw [if_neg x3, if_neg x3]
                obtain ⟨j, hj, rfl⟩ := nI_of2 (M := 4) (n := 4) (by decide) (Int32.not_lt.mpr hx.1) hx.2
                have : j = 4 := by
                  match j, hj with
                  | 0, _ => exact absurd rfl x0
                  | 1, _ => exact absurd rfl x1
                  | 2, _ => exact absurd rfl x2
                  | 3, _ => exact absurd rfl x3
                  | 4, _ => rfl
                subst this
                rfl
    · have hx := of_decide_eq_false (b2i_0.mp hq)
      exact ⟨trivial, cQ h (by rw [sp_why, if_neg (fun q => q hg), if_pos hx])⟩
  · refine ⟨_, h1, _, h2.1, _, c_find_no h2 hs.1 hs.2.1 (gOk_no wf hg), ?_⟩
    rintro _ H ⟨rfl, rfl⟩
    exact ⟨trivial, cQ h (by rw [sp_why, if_pos hg])⟩
theorem nd_t {p : Nat → Bool} {n : Nat} (h : p n = true) : ndO p (n + 1) = if (match ndO p n with
    | none => true
    | some b => decide (pop n < b)) then some (pop n) else ndO p n := by
  show (if p n && _ then some (pop n) else ndO p n) = _
  rw [h, Bool.true_and]
  rfl
theorem nd_f {p : Nat → Bool} {n : Nat} (h : p n = false) : ndO p (n + 1) = ndO p n := by
  show (if p n && _ then some (pop n) else ndO p n) = _
  rw [h, Bool.false_and]
  rfl
theorem nd_lt {p : Nat → Bool} {n a : Nat} (h : p n = true) (e : ndO p n = some a) (hl : pop n < a) : ndO p (n + 1) = some (pop n) := by
  rw [nd_t h, e]
  exact if_pos (decide_eq_true hl)
theorem nd_ge {p : Nat → Bool} {n a : Nat} (e : ndO p n = some a) (hl : ¬ pop n < a) : ndO p (n + 1) = some a := by
  cases h : p n
  · rw [nd_f h, e]
  · rw [nd_t h, e]
    exact if_neg (show ¬ decide (pop n < a) = true from fun q => hl (of_decide_eq_true q))
theorem nd_none {p : Nat → Bool} {n : Nat} (h : p n = true) (e : ndO p n = none) : ndO p (n + 1) = some (pop n) := by
  rw [nd_t h, e]
  exact if_pos rfl
theorem ndO_le {p : Nat → Bool} : ∀ (n a : Nat), ndO p n = some a → a ≤ 12
  | 0, a, h => by simp [ndO] at h
  | n + 1, a, h => by
    cases hp : p n
    · rw [nd_f hp] at h; exact ndO_le n a h
    · cases hs : ndO p n with
      | none =>
        rw [nd_none hp hs] at h
        cases h; exact pop_le n
      | some c =>
        by_cases hl : pop n < c
        · rw [nd_lt hp hs hl] at h
          cases h; exact pop_le n
        · rw [nd_ge hs hl] at h
          cases h; exact ndO_le n _ hs
set_option maxRecDepth 100000 in
set_option maxHeartbeats 4000000 in
theorem l_needs {k : Nat} (h : CPx K H b Y S N π D C P T lr Z) (hY : YOk Y) (hk : k < vN Y.1) : ∀ (m i : Nat) (w f : Int32) (l6 : Option Value), i + m = 2 ^ vN Y.1 → w = nI i → f = oI (ndO (vMet Y.1 k) i) → hJ K M_Pa_needs (0, 0) (fun r H' => r = some (.int (oI (ndO (vMet Y.1 k) (2 ^ vN Y.1)))) ∧ H' = H) 30 (0, 0) [some (.ref b), some (.int (nI k)), some (.ref (b + 1 + 3 + 2 * k)), some (.int f), some (.int (nI (2 ^ vN Y.1 - 1))), some (.int w), l6] [] H := by
  have wf := hY.1
  obtain ⟨h1, ⟨h2, h3⟩, -⟩ := id h
  have hs := h3.sok wf
  have h12 := two12 wf.1.2
  have hn := wf.1.2
  have h2p := Nat.two_pow_pos (vN Y.1)
  have hR := h2.2.2.2 k (by omega)
  intro m
  induction m with
  | zero =>
    intro i w f l6 hi hw hf
    refine hGo_sound (okc_Pa_needs K _ _) [30] 60 _ _ _ _ _ ?_
    refine ⟨fun _ => ⟨trivial, by rw [hf, show i = 2 ^ vN Y.1 by omega], rfl⟩, fun h => ?_⟩
    exact absurd (by rw [hw]; exact nI_lt (by omega) (by omega)) h
  | succ m ih =>
    intro i w f l6 hi hw hf
    have hmet : sMet S k i = vMet Y.1 k i := (h3.2.2 k hk).2.2 i (by omega)
    have hpi := pop_le i
    have J56 : (∀ a, ndO (vMet Y.1 k) i = some a → pop i < a) → hJ K M_Pa_needs (0, 0) (fun r H' => r = some (.int (oI (ndO (vMet Y.1 k) (2 ^ vN Y.1)))) ∧ H' = H) 56 (0, 0) [some (.ref b), some (.int (nI k)), some (.ref (b + 1 + 3 + 2 * k)), some (.int f), some (.int (nI (2 ^ vN Y.1 - 1))), some (.int w), some (.int (nI (pop i)))] [] H := by
      intro hno
      refine hGo_sound (okc_Pa_needs K _ _) [30] 60 _ _ _ _ _ ?_
      refine ⟨_, hR.1, _, hw ▸ c_isContentWith hR (hs.2.2.2 k hk).2.1 (hs.2.2.2 k hk).2.2 (x := i) (by omega), ?_⟩
      rintro _ H ⟨rfl, rfl⟩
      refine ⟨fun hz => ?_, fun hz => ?_⟩
      · have hm : sMet S k i = false := b2i_0.mp hz
        refine ih (i + 1) _ _ _ (by omega) (by rw [hw, nI_1]) ?_
        rw [hf, nd_f (hmet ▸ hm)]
      · have hm : vMet Y.1 k i = true := hmet ▸ b2i_n0.mp hz
        refine ih (i + 1) _ _ _ (by omega) (by rw [hw, nI_1]) ?_
        cases hs : ndO (vMet Y.1 k) i with
        | none => rw [nd_none hm hs]; rfl
        | some a => rw [nd_lt hm hs (hno a hs)]; rfl
    refine hGo_sound (okc_Pa_needs K _ _) [30, 56] 60 _ _ _ _ _ ?_
    refine ⟨fun h => absurd (by rw [hw] at h; exact h) (nI_nlt (by omega) (by omega)), fun _ => ⟨_, hw ▸ c_pop K H (x := i) (by omega), ?_⟩⟩
    rintro _ H ⟨rfl, rfl⟩
    refine ⟨fun he => ?_, fun he => ⟨fun hge => ?_, fun hlt => ?_⟩⟩
    · refine J56 fun a ha => ?_
      rw [hf, ha] at he
      have := ndO_le _ _ ha
      exact absurd (nI_inj (a := a) (b := 4294967291) (by omega) (by omega) he) (by omega)
    · cases ha : ndO (vMet Y.1 k) i with
      | none => rw [hf, ha] at he; exact absurd rfl he
      | some a =>
        have := ndO_le _ _ ha
        rw [hf, ha] at hge
        have hl : ¬ pop i < a := fun q => Int32.not_le.mpr (nI_lt q (by omega)) hge
        refine ih (i + 1) _ _ _ (by omega) (by rw [hw, nI_1]) ?_
        rw [nd_ge ha hl, hf, ha]
    · refine J56 fun a ha => ?_
      have := ndO_le _ _ ha
      rw [hf, ha] at hlt
      exact Nat.lt_of_not_le fun q => hlt (nI_le q (by omega))
set_option maxRecDepth 100000 in
set_option maxHeartbeats 4000000 in
theorem c_needs (h : CPx K H b Y S N π D C P T lr Z) (hY : YOk Y) (g : Int32) : hCT K M_Pa_needs [.ref b, .int g] H 0 0 (cPost K b H (sp_needs Y g, Y)) := by
  have wf := hY.1
  obtain ⟨h1, ⟨h2, h3⟩, -⟩ := id h
  have hs := h3.sok wf
  have hn := wf.1.2
  refine hCT.go (okc_Pa_needs K _ _) [30] 60 (by decide +kernel) rfl rfl ?_
  by_cases hg : gOk Y.1 g
  · obtain ⟨k, hk, rfl⟩ := (gOk_iff wf).mp hg
    refine ⟨_, h1, _, h2.1, _, c_find_lt h2 hs.1 hs.2.1 hk, ?_⟩
    rintro _ H ⟨rfl, rfl⟩
    refine ⟨_, h1, _, h2.1, _, c_everybody h2 hs.1 hs.2.1, ?_⟩
    rintro _ H ⟨rfl, rfl⟩
    refine (l_needs h hY hk (2 ^ vN Y.1) 0 0 (-5) _ (by omega) rfl rfl).imp ?_
    rintro _ H1 ⟨rfl, rfl⟩
    exact cQ h (by rw [sp_needs, if_neg (fun q => q hg), clp_nI (by omega)])
  · refine ⟨_, h1, _, h2.1, _, c_find_no h2 hs.1 hs.2.1 (gOk_no wf hg), ?_⟩
    rintro _ H ⟨rfl, rfl⟩
    exact ⟨trivial, cQ h (by rw [sp_needs, if_pos hg])⟩
theorem dif_le (X Y : Nat) : dif X Y ≤ X := sub_le (subB_iff.mpr fun k hk => by
  rw [dif_bit] at hk
  simp only [Bool.and_eq_true] at hk
  exact hk.2.1)
theorem CPx.se (h : CPx K H b Y S N π D C P T lr Z) {H1 : hAH} {lr' : Int32} {Z' : Nat → Nat → Int32} (hZ : RSe K H1 (b + 168) lr' Z') (f : hFr (b + 168) (b + 175) H H1) : CPx K H1 b Y S N π D C P T lr' Z' := by
  obtain ⟨h1, ⟨h2, h3⟩, ⟨h4, h5, h6⟩, ⟨h7, h8⟩, ⟨h9, h10⟩, h11, h12⟩ := h
  exact ⟨(f.2 _ (by omega)).trans h1, ⟨h2.fr f (by omega), h3⟩, ⟨h4.fr f (by omega), h5, h6⟩, ⟨h7.fr f (by omega), h8⟩, ⟨(f.2 _ (by omega)).trans h9, h10⟩, ⟨(f.2 _ (by omega)).trans h11.1, (f.2 _ (by omega)).trans h11.2⟩, hZ⟩
set_option maxRecDepth 100000 in
set_option maxHeartbeats 4000000 in
theorem c_weightOf (h : CPx K H b Y S N π D C P T lr Z) (hY : YOk Y) (g : Int32) : hCT K M_Pa_weightOf [.ref b, .int g] H 0 0 (cPost K b H (sp_weightOf Y g, Y)) := by
  have wf := hY.1
  obtain ⟨h1, ⟨h2, h3⟩, ⟨-, -, -⟩, -, -, -, h12⟩ := id h
  have hs := h3.sok wf
  have hn := wf.1.2
  refine hCT.go (okc_Pa_weightOf K _ _) [] 60 (by decide +kernel) rfl rfl ?_
  by_cases hg : gOk Y.1 g
  · obtain ⟨k, hk, rfl⟩ := (gOk_iff wf).mp hg
    refine ⟨_, h1, _, h2.1, _, c_find_lt h2 hs.1 hs.2.1 hk, ?_⟩
    rintro _ H ⟨rfl, rfl⟩
    have hR := h2.2.2.2 k (by omega)
    have g2 : S (2 + k) 2 = vG Y.1 k 2 := (h3.2.2 k hk).1.2.2.1
    refine ⟨_, hR.1, fun hi => ?_, fun hi => ?_⟩
    · rw [g2] at hi
      have hI := setOf_12 (fun k => decide (k < vN Y.1) && !decide (vG Y.1 k 2 = 0))
      refine ⟨_, h1, _, h2.1, _, h3.inv ▸ c_invitedGuests h2 hs.1 hs.2.1, ?_⟩
      rintro _ H ⟨rfl, rfl⟩
      refine ⟨_, h1, _, h1, _, h12.1, _, c_Se_findGreatest hs (h3.lok wf) h2 (by omega) (inv_lt wf) h12, ?_⟩
      rintro _ H1 ⟨rfl, ⟨Z1, hZ1, -⟩, f1⟩
      have h' := h.se hZ1 f1
      obtain ⟨h1', ⟨h2', h3'⟩, ⟨-, -, -⟩, -, -, -, h12'⟩ := id h'
      refine ⟨_, h1', _, h1', _, c_bitOf K H1 (k := k) (by omega), ?_⟩
      rintro _ H1 ⟨rfl, rfl⟩
      have em : nI (vInv Y.1) &&& (nI (2 ^ k) ^^^ (-1)) = nI (dif (vInv Y.1) (2 ^ k)) := minus_eq hI
      have hd := dif_le (vInv Y.1) (2 ^ k)
      have hiv := inv_lt wf
      refine ⟨_, h12'.1, _, em ▸ c_Se_findGreatest hs (h3.lok wf) h2' (by omega) (Nat.lt_of_le_of_lt hd hiv) h12', ?_⟩
      rintro _ H2 ⟨rfl, ⟨Z2, hZ2, -⟩, f2⟩
      have ge1 := h3.geq (I := vInv Y.1) hI (-1)
      have ge2 := h3.geq (I := dif (vInv Y.1) (2 ^ k)) (dif_lt _ _) (-1)
      rw [ge1.qgr, ge2.qgr]
      refine ⟨_, c_pop K H2 (gr_lt _), ?_⟩
      rintro _ H2 ⟨rfl, rfl⟩
      refine ⟨_, c_pop K H2 (ess_lt (E := vE Y.1 (dif (vInv Y.1) (2 ^ k)) (-1)) (dif_lt _ _) _), ?_⟩
      rintro _ H2 ⟨rfl, rfl⟩
      refine ⟨trivial, ?_, (h'.se hZ2 f2).cp, (f1.trans f2).wide (by omega) (by omega)⟩
      show some (Value.int _) = some (.int (sp_weightOf Y (nI k)))
      rw [sp_weightOf, if_neg (fun q => q hg), clp_nI (by omega), if_neg hi]
      rfl
    · rw [g2] at hi
      exact ⟨trivial, cQ h (by rw [sp_weightOf, if_neg (fun q => q hg), clp_nI (by omega), if_pos hi])⟩
  · refine ⟨_, h1, _, h2.1, _, c_find_no h2 hs.1 hs.2.1 (gOk_no wf hg), ?_⟩
    rintro _ H ⟨rfl, rfl⟩
    exact ⟨trivial, cQ h (by rw [sp_weightOf, if_pos hg])⟩
set_option maxRecDepth 100000 in
set_option maxHeartbeats 4000000 in
theorem c_leastLimit (h : CPx K H b Y S N π D C P T lr Z) (hY : YOk Y) (g : Int32) : hCT K M_Pa_leastLimit [.ref b, .int g] H 0 0 (cPost K b H (sp_leastLimit Y g, Y)) := by
  have wf := hY.1
  obtain ⟨h1, ⟨h2, h3⟩, ⟨-, -, -⟩, -, -, -, h12⟩ := id h
  have hs := h3.sok wf
  have hn := wf.1.2
  refine hCT.go (okc_Pa_leastLimit K _ _) [] 60 (by decide +kernel) rfl rfl ?_
  by_cases hg : gOk Y.1 g
  · obtain ⟨k, hk, rfl⟩ := (gOk_iff wf).mp hg
    refine ⟨_, h1, _, h2.1, _, c_find_lt h2 hs.1 hs.2.1 hk, ?_⟩
    rintro _ H ⟨rfl, rfl⟩
    have hI := setOf_12 (fun k => decide (k < vN Y.1) && !decide (vG Y.1 k 2 = 0))
    refine ⟨_, h1, _, h1, _, h1, _, h2.1, _, h3.inv ▸ c_invitedGuests h2 hs.1 hs.2.1, ?_⟩
    rintro _ H ⟨rfl, rfl⟩
    refine ⟨_, h12.1, _, c_Se_findGreatest hs (h3.lok wf) h2 (by omega) (inv_lt wf) h12, ?_⟩
    rintro _ H1 ⟨rfl, ⟨Z1, hZ1, -⟩, f1⟩
    have h' := h.se hZ1 f1
    obtain ⟨h1', ⟨h2', h3'⟩, ⟨-, -, -⟩, -, -, -, h12'⟩ := id h'
    have ge1 := h3.geq (I := vInv Y.1) hI (nI k)
    rw [ge1.qgr]
    refine ⟨_, c_isIn K H1 _ (k := k) (by omega), ?_⟩
    rintro _ H1 ⟨rfl, rfl⟩
    have hf := f1.wide (lo' := b) (hi' := b + 175) (by omega) (by omega)
    have ee : sp_leastLimit Y (nI k) = if (egr (vE Y.1 (vInv Y.1) (nI k))).testBit k = true then vFee Y.1 (nI (pop (egr (vE Y.1 (vInv Y.1) (nI k))))) else -5 := by
      rw [sp_leastLimit, if_neg (fun q => q hg), clp_nI (by omega)]
    refine ⟨fun hz => ?_, fun hz => ?_⟩
    · refine ⟨trivial, ?_, h'.cp, hf⟩
      rw [ee, if_neg (fun q => by rw [b2i_0.mp hz] at q; cases q)]
    · refine ⟨_, h1', _, c_pop K H1 (ess_lt (E := vE Y.1 (vInv Y.1) (nI k)) hI _), ?_⟩
      rintro _ H1 ⟨rfl, rfl⟩
      refine ⟨_, h2'.1, _, c_feeOf h2' _, ?_⟩
      rintro _ H1 ⟨rfl, rfl⟩
      refine ⟨trivial, ?_, h'.cp, hf⟩
      rw [ee, if_pos (b2i_n0.mp hz), h3.fee]
  · refine ⟨_, h1, _, h2.1, _, c_find_no h2 hs.1 hs.2.1 (gOk_no wf hg), ?_⟩
    rintro _ H ⟨rfl, rfl⟩
    exact ⟨trivial, cQ h (by rw [sp_leastLimit, if_pos hg])⟩
theorem tell_sum {V : Nat → Int32} {S : Nat → Nat → Int32} (e : Enc S V) {w : Int32} {f : Nat} (hf : ∀ k, k < vN V → guTell (S (2 + k)) w = vG V k f) : sumI (tellOf S (vN V) w) 12 = sumI (fun k => if k < vN V then vG V k f else 0) 12 := by
  refine sumI_cong fun k _ => ?_
  unfold tellOf
  by_cases hk : k < vN V
  · rw [if_pos hk, if_pos hk, hf k hk]
  · rw [if_neg hk, if_neg hk]
theorem sum_all {V : Nat → Int32} (w : WF V) {f : Nat} (hf : f = 5 ∨ f = 6) : sumI (fun k => if k < vN V then vG V k f else 0) 12 = sumI (fun k => vG V k f) 12 := by
  refine sumI_cong fun k hk => ?_
  by_cases hn : k < vN V
  · rw [if_pos hn]
  · obtain ⟨-, -, h5, h6⟩ := w.2.2.2.2.2.2 k (by omega) hk
    rw [if_neg hn]
    rcases hf with rfl | rfl
    · rw [h5]
    · rw [h6]
set_option maxRecDepth 100000 in
set_option maxHeartbeats 4000000 in
theorem c_count (h : CPx K H b Y S N π D C P T lr Z) (hY : YOk Y) (x : Int32) : hCT K M_Pa_count [.ref b, .int x] H 0 0 (cPost K b H (sp_count Y x, Y)) := by
  have wf := hY.1
  obtain ⟨h1, ⟨h2, h3⟩, ⟨h4, -, -⟩, -⟩ := id h
  have hs := h3.sok wf
  obtain ⟨e0, e1, e2, e3, e4, e5, e6, e7⟩ := h3.1
  refine hCT.go (okc_Pa_count K _ _) [] 60 (by decide +kernel) rfl rfl ?_
  refine ⟨fun x0 => ?_, fun x0 => ⟨fun x1 => ?_, fun x1 => ⟨fun x2 => ?_, fun x2 => ⟨fun x3 => ?_, fun x3 => ⟨fun x4 => ?_, fun x4 => ⟨fun x5 => ?_, fun x5 => ⟨fun x6 => ?_, fun x6 => ⟨fun x7 => ?_, fun x7 => ⟨fun x8 => ?_, fun x8 => ⟨fun x9 => ?_, fun x9 => ⟨fun x10 => ?_, fun x10 => ⟨fun x11 => ?_, fun x11 => ⟨fun x12 => ?_, fun x12 => ⟨fun x13 => ?_, fun x13 => ⟨fun x14 => ?_, fun x14 => ⟨fun x15 => ?_, fun x15 => ⟨fun x16 => ?_, fun x16 => ?_⟩⟩⟩⟩⟩⟩⟩⟩⟩⟩⟩⟩⟩⟩⟩⟩⟩
  · exact ⟨_, h1, _, h2.1, trivial, cQ h (by rw [sp_count, if_pos x0, e1])⟩
  · exact ⟨_, h1, _, h2.1, trivial, cQ h (by rw [sp_count, if_neg x0, if_pos x1, e0])⟩
  · refine ⟨_, h1, _, h2.1, _, h3.inv ▸ c_invitedGuests h2 hs.1 hs.2.1, ?_⟩
    rintro _ H ⟨rfl, rfl⟩
    refine ⟨_, c_pop K H (setOf_12 _), ?_⟩
    rintro _ H ⟨rfl, rfl⟩
    exact ⟨trivial, cQ h (by rw [sp_count, if_neg x0, if_neg x1, if_pos x2])⟩
  · exact ⟨_, h1, _, h2.1, 5, _, 0, Or.inl h2.2.2.1, rfl, by decide, by decide, trivial, cQ h (by rw [sp_count, if_neg x0, if_neg x1, if_neg x2, if_pos x3, h3.2.1 0 (by decide)])⟩
  · exact ⟨_, h1, _, h2.1, 5, _, 1, Or.inl h2.2.2.1, rfl, by decide, by decide, trivial, cQ h (by rw [sp_count, if_neg x0, if_neg x1, if_neg x2, if_neg x3, if_pos x4, h3.2.1 1 (by decide)])⟩
  · exact ⟨_, h1, _, h2.1, 5, _, 2, Or.inl h2.2.2.1, rfl, by decide, by decide, trivial, cQ h (by rw [sp_count, if_neg x0, if_neg x1, if_neg x2, if_neg x3, if_neg x4, if_pos x5, h3.2.1 2 (by decide)])⟩
  · exact ⟨_, h1, _, h2.1, 5, _, 3, Or.inl h2.2.2.1, rfl, by decide, by decide, trivial, cQ h (by rw [sp_count, if_neg x0, if_neg x1, if_neg x2, if_neg x3, if_neg x4, if_neg x5, if_pos x6, h3.2.1 3 (by decide)])⟩
  · exact ⟨_, h1, _, h2.1, 5, _, 4, Or.inl h2.2.2.1, rfl, by decide, by decide, trivial, cQ h (by rw [sp_count, if_neg x0, if_neg x1, if_neg x2, if_neg x3, if_neg x4, if_neg x5, if_neg x6, if_pos x7, h3.2.1 4 (by decide)])⟩
  · refine ⟨_, h1, _, h2.1, _, c_Pa_asNumber K H _, ?_⟩
    rintro _ H ⟨rfl, rfl⟩
    refine ⟨trivial, cQ h ?_⟩
    rw [sp_count, if_neg x0, if_neg x1, if_neg x2, if_neg x3, if_neg x4, if_neg x5, if_neg x6, if_neg x7, if_pos x8, e2]
    rcases wf.2.2.2.1.1 with e | e <;> rw [e] <;> rfl
  · refine ⟨_, h1, _, h2.1, _, c_sumOf 5 h2 hs.1 hs.2.1, ?_⟩
    rintro _ H ⟨rfl, rfl⟩
    refine ⟨trivial, cQ h ?_⟩
    rw [tell_sum h3 (w := 5) (f := 5) (fun k hk => (h3.2.2 k hk).1.2.2.2.2.1), sum_all wf (Or.inl rfl), ← wf.2.2.2.2.2.1.1]
    rw [sp_count, if_neg x0, if_neg x1, if_neg x2, if_neg x3, if_neg x4, if_neg x5, if_neg x6, if_neg x7, if_neg x8, if_pos x9]
  · refine ⟨_, h1, _, h2.1, _, c_sumOf 6 h2 hs.1 hs.2.1, ?_⟩
    rintro _ H ⟨rfl, rfl⟩
    refine ⟨trivial, cQ h ?_⟩
    rw [tell_sum h3 (w := 6) (f := 6) (fun k hk => (h3.2.2 k hk).1.2.2.2.2.2.1), sum_all wf (Or.inr rfl), ← wf.2.2.2.2.2.1.2]
    rw [sp_count, if_neg x0, if_neg x1, if_neg x2, if_neg x3, if_neg x4, if_neg x5, if_neg x6, if_neg x7, if_neg x8, if_neg x9, if_pos x10]
  · exact ⟨_, h1, _, h2.1, trivial, cQ h (by rw [sp_count, if_neg x0, if_neg x1, if_neg x2, if_neg x3, if_neg x4, if_neg x5, if_neg x6, if_neg x7, if_neg x8, if_neg x9, if_neg x10, if_pos x11, e5])⟩
  · exact ⟨_, h1, _, h2.1, trivial, cQ h (by rw [sp_count, if_neg x0, if_neg x1, if_neg x2, if_neg x3, if_neg x4, if_neg x5, if_neg x6, if_neg x7, if_neg x8, if_neg x9, if_neg x10, if_neg x11, if_pos x12, e6])⟩
  · exact ⟨_, h1, _, h2.1, trivial, cQ h (by rw [sp_count, if_neg x0, if_neg x1, if_neg x2, if_neg x3, if_neg x4, if_neg x5, if_neg x6, if_neg x7, if_neg x8, if_neg x9, if_neg x10, if_neg x11, if_neg x12, if_pos x13, e7])⟩
  · refine ⟨_, h1, _, h2.1, _, c_sumOf 3 h2 hs.1 hs.2.1, ?_⟩
    rintro _ H ⟨rfl, rfl⟩
    refine ⟨trivial, cQ h ?_⟩
    rw [tell_sum h3 (w := 3) (f := 3) (fun k hk => (h3.2.2 k hk).1.2.2.2.1)]
    rw [sp_count, if_neg x0, if_neg x1, if_neg x2, if_neg x3, if_neg x4, if_neg x5, if_neg x6, if_neg x7, if_neg x8, if_neg x9, if_neg x10, if_neg x11, if_neg x12, if_neg x13, if_pos x14]
  · exact ⟨_, h1, _, h4.1, trivial, cQ h (by rw [sp_count, if_neg x0, if_neg x1, if_neg x2, if_neg x3, if_neg x4, if_neg x5, if_neg x6, if_neg x7, if_neg x8, if_neg x9, if_neg x10, if_neg x11, if_neg x12, if_neg x13, if_neg x14, if_pos x15])⟩
  · exact ⟨_, h1, trivial, cQ h (by rw [sp_count, if_neg x0, if_neg x1, if_neg x2, if_neg x3, if_neg x4, if_neg x5, if_neg x6, if_neg x7, if_neg x8, if_neg x9, if_neg x10, if_neg x11, if_neg x12, if_neg x13, if_neg x14, if_neg x15, if_pos x16])⟩
  · exact ⟨trivial, cQ h (by rw [sp_count, if_neg x0, if_neg x1, if_neg x2, if_neg x3, if_neg x4, if_neg x5, if_neg x6, if_neg x7, if_neg x8, if_neg x9, if_neg x10, if_neg x11, if_neg x12, if_neg x13, if_neg x14, if_neg x15, if_neg x16])⟩
end PB
