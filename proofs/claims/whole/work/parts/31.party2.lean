/-! THE CLASS: the other questions -/
theorem cnt_ext {q : Nat → Bool} {m : Nat} : ∀ (d : Nat), (∀ x, m ≤ x → x < m + d → q x = false) → cnt q (m + d) = cnt q m
  | 0, _ => rfl
  | d + 1, h => by
    show cnt q (m + d) + (if q (m + d) then 1 else 0) = _
    rw [h (m + d) (by omega) (by omega), cnt_ext d (fun x h1 h2 => h x h1 (by omega))]
    rfl
theorem smO_ext {q : Nat → Bool} {m : Nat} : ∀ (d : Nat), (∀ x, m < x → x ≤ m + d → q x = false) → smO q (m + d) = smO q m
  | 0, _ => rfl
  | d + 1, h => by
    show (if q (m + d + 1) && _ then _ else smO q (m + d)) = _
    rw [h (m + d + 1) (by omega) (by omega), smO_ext d (fun x h1 h2 => h x h1 (by omega))]
    rfl
theorem smO_spec {q : Nat → Bool} : ∀ (n : Nat) (b : Nat), smO q n = some b → 1 ≤ b ∧ b ≤ n
  | 0, b, h => by simp [smO] at h
  | n + 1, b, h => by
    unfold smO at h
    split at h
    · cases h; omega
    · have := smO_spec n b h; omega
/-- the class's way and the other -/
theorem sm_eq {p q : Nat → Bool} : ∀ (n : Nat), n < 4096 → (∀ x, 1 ≤ x → x ≤ n → p x = q x) → smRun p n = (oI (smO q n), match smO q n with
    | none => 13
    | some b => nI (pop b))
  | 0, _, _ => rfl
  | n + 1, hn, h => by
    have ih := sm_eq n (by omega) (fun x h1 h2 => h x h1 (by omega))
    rw [smRun, smO, ih, h (n + 1) (by omega) (Nat.le_refl _)]
    have hp := pop_le (n + 1)
    cases hs : smO q n with
    | none =>
      have : decide (nI (pop (n + 1)) < (13 : Int32)) = true := decide_eq_true (nI_lt (b := 13) (by omega) (by omega))
      dsimp only
      rw [this]
      cases q (n + 1) <;> rfl
    | some b =>
      have hpb := pop_le b
      have : decide (nI (pop (n + 1)) < nI (pop b)) = decide (pop (n + 1) < pop b) := by
        by_cases z : pop (n + 1) < pop b
        · rw [decide_eq_true z, decide_eq_true (nI_lt z (by omega))]
        · rw [decide_eq_false z, decide_eq_false (nI_nlt (by omega) (by omega))]
      dsimp only
      rw [this]
      cases q (n + 1) <;> cases decide (pop (n + 1) < pop b) <;> rfl
section PB
variable {K : hK} {H : hAH} {b : Nat} {Y : hY} {S N : Nat → Nat → Int32} {π : Nat → Nat} {D : Nat → Nat → Nat → Int32} {C : Nat → Int32} {P : Nat → Nat} {T : Nat → Int32} {lr : Int32} {Z : Nat → Nat → Int32}
theorem part_all {V : Nat → Int32} {S : Nat → Nat → Int32} (w : WF V) (e : Enc S V) {x : Nat} (hx : x ≤ vGr V) : (subB x (vGr V) && stb S (vN V) x) = vStb V x := by
  have := gr_lt V
  rw [e.qstb (by omega)]
  cases hs : vStb V x
  · simp
  · rw [stb_gr w (by omega) hs]; rfl
theorem none_above {V : Nat → Int32} (w : WF V) {x : Nat} (h1 : vGr V < x) (hx : x < 4096) : vStb V x = false := by
  cases hs : vStb V x
  · rfl
  · have := sub_le (stb_gr w hx hs); omega
set_option maxRecDepth 100000 in
set_option maxHeartbeats 4000000 in
theorem c_companies (h : CPx K H b Y S N π D C P T lr Z) (hY : YOk Y) : hCT K M_Pa_companies [.ref b] H 0 0 (cPost K b H (sp_companies Y, Y)) := by
  have w := hY.1
  have hlt := gr_lt2 w
  have h12 := two12 w.1.2
  refine hCT.go (okc_Pa_companies K _ _) [] 60 (by decide +kernel) rfl rfl ?_
  refine ⟨_, h.1, _, h.1, _, c_Pa_find h hY, ?_⟩
  rintro _ H1 ⟨rfl, ⟨Z', h', -⟩, f⟩
  obtain ⟨h1, ⟨h2, h3⟩, -⟩ := id h'
  refine ⟨_, h2.1, _, c_countParts h2 (h3.sok w) (gr_lt _), ?_⟩
  rintro _ H1 ⟨rfl, rfl⟩
  refine ⟨trivial, ?_, h'.cp, f⟩
  show some (Value.int _) = some (.int (sp_companies Y))
  rw [sp_companies]
  have e1 : cnt (fun x => subB x (vGr Y.1) && stb S (vN Y.1) x) (vGr Y.1 + 1) = cnt (vStb Y.1) (vGr Y.1 + 1) := cnt_cong fun x hx => part_all w h3 (by omega)
  have e2 : cnt (vStb Y.1) (2 ^ vN Y.1) = cnt (vStb Y.1) (vGr Y.1 + 1) := by
    rw [show 2 ^ vN Y.1 = vGr Y.1 + 1 + (2 ^ vN Y.1 - (vGr Y.1 + 1)) by omega]
    exact cnt_ext _ fun x h1 h2 => none_above w (by omega) (by omega)
  rw [e1, e2]
set_option maxRecDepth 100000 in
set_option maxHeartbeats 4000000 in
theorem c_company (h : CPx K H b Y S N π D C P T lr Z) (hY : YOk Y) (x : Int32) : hCT K M_Pa_company [.ref b, .int x] H 0 0 (cPost K b H (sp_company Y x, Y)) := by
  have w := hY.1
  have hlt := gr_lt2 w
  have h12 := two12 w.1.2
  obtain ⟨g1, ⟨g2, g3⟩, -⟩ := id h
  refine hCT.go (okc_Pa_company K _ _) [] 60 (by decide +kernel) rfl rfl ?_
  refine ⟨fun x0 => ?_, fun x0 => ⟨fun x1 => ?_, fun x1 => ⟨fun x2 => ?_, fun x2 => ⟨fun x3 => ?_, fun x3 => ?_⟩⟩⟩⟩
  · refine ⟨_, h.1, _, c_Pa_find h hY, ?_⟩
    rintro _ H1 ⟨rfl, ⟨Z', h', -⟩, f⟩
    exact ⟨trivial, by rw [sp_company, if_pos x0], h'.cp, f⟩
  · refine ⟨_, h.1, _, c_Pa_chosen h hY, ?_⟩
    rintro _ H1 ⟨rfl, ⟨lr', Z', h'⟩, f⟩
    exact ⟨trivial, by rw [sp_company, if_neg x0, if_pos x1], h'.cp, f⟩
  · refine ⟨_, h.1, _, h.1, _, c_Pa_find h hY, ?_⟩
    rintro _ H1 ⟨rfl, ⟨Z', h', -⟩, f⟩
    obtain ⟨h1, ⟨h2, h3⟩, -⟩ := id h'
    refine ⟨_, h2.1, _, c_smallestPart h2 (h3.sok w) (gr_lt _), ?_⟩
    rintro _ H1 ⟨rfl, rfl⟩
    refine ⟨trivial, ?_, h'.cp, f⟩
    show some (Value.int _) = some (.int (sp_company Y x))
    rw [sp_company, if_neg x0, if_neg x1, if_pos x2, sm_eq (q := vStb Y.1) _ (gr_lt _) (fun y _ hy => part_all w h3 hy)]
    have e2 : smO (vStb Y.1) (2 ^ vN Y.1 - 1) = smO (vStb Y.1) (vGr Y.1) := by
      rw [show 2 ^ vN Y.1 - 1 = vGr Y.1 + (2 ^ vN Y.1 - 1 - vGr Y.1) by omega]
      exact smO_ext _ fun x h1 h2 => none_above w h1 (by omega)
    rw [e2]
  · have e7 : S 0 2 = Y.1 7 := g3.1.2.2.1
    have e8 : S 0 3 = Y.1 8 := g3.1.2.2.2.1
    refine ⟨_, g1, _, g2.1, fun hz => ?_, fun hz => ⟨_, g1, _, g2.1, ?_⟩⟩
    · rw [e7] at hz
      exact ⟨trivial, cQ h (by rw [sp_company, if_neg x0, if_neg x1, if_neg x2, if_pos x3, if_neg (by rw [hz]; decide)])⟩
    · rw [e7] at hz
      have h71 : Y.1 7 = 1 := w.2.2.2.1.1.resolve_left hz
      exact ⟨trivial, cQ h (by rw [sp_company, if_neg x0, if_neg x1, if_neg x2, if_pos x3, if_pos h71, e8])⟩
  · exact ⟨trivial, cQ h (by rw [sp_company, if_neg x0, if_neg x1, if_neg x2, if_neg x3])⟩
set_option maxRecDepth 100000 in
set_option maxHeartbeats 4000000 in
theorem c_rounds (h : CPx K H b Y S N π D C P T lr Z) (hY : YOk Y) : hCT K M_Pa_rounds [.ref b] H 0 0 (cPost K b H (sp_rounds Y, Y)) := by
  refine hCT.go (okc_Pa_rounds K _ _) [] 60 (by decide +kernel) rfl rfl ?_
  refine ⟨_, h.1, _, c_Pa_find h hY, ?_⟩
  rintro _ H1 ⟨rfl, ⟨Z', h', -⟩, f⟩
  exact ⟨_, h'.1, _, h'.2.2.2.2.2.2.1, trivial, rfl, h'.cp, f⟩
set_option maxRecDepth 100000 in
set_option maxHeartbeats 4000000 in
theorem c_why (h : CPx K H b Y S N π D C P T lr Z) (hY : YOk Y) (g x : Int32) : hCT K M_Pa_why [.ref b, .int g, .int x] H 0 0 (cPost K b H (sp_why Y g x, Y)) := by
  have wf := hY.1
  obtain ⟨h1, ⟨h2, h3⟩, -⟩ := id h
  have hs := h3.sok wf
  have hn := wf.1.2
  refine hCT.go (okc_Pa_why K _ _) [] 60 (by decide +kernel) rfl rfl ?_
  by_cases hg : gOk Y.1 g
  · obtain ⟨k, hk, rfl⟩ := (gOk_iff wf).mp hg
    refine ⟨_, h1, _, h2.1, _, c_find_lt h2 hs.1 hs.2.1 hk, ?_⟩
    rintro _ H ⟨rfl, rfl⟩
    refine ⟨_, c_Pa_isWithin K H _ _ _, ?_⟩
    rintro _ H ⟨rfl, rfl⟩
    rw [b2i_if]
    refine ⟨fun hq => ?_, fun hq => ?_⟩
    · have hx := of_decide_eq_true (b2i_n0.mp hq)
      refine ⟨_, h1, _, c_Pa_find h hY, ?_⟩
      rintro _ H1 ⟨rfl, ⟨Z', h', hD⟩, f⟩
      refine ⟨_, h'.1, _, h'.2.2.2.2.2.2.1, _, c_Se_tell h'.2.2.2.2.2.2 (k := k) (by omega) x, ?_⟩
      rintro _ H1 ⟨rfl, rfl⟩
      refine ⟨trivial, ?_, h'.cp, f⟩
      have ge := h3.geq (I := vInv Y.1) (setOf_12 _) (-1)
      obtain ⟨z1, z2⟩ := hD k (by omega) hk
      have er : err (eC S (vN Y.1) (vInv Y.1) (-1)) k = err (vE Y.1 (vInv Y.1) (-1)) k := ge.qrr hk
      show some (Value.int _) = some (.int (sp_why Y (nI k) x))
      have e : sp_why Y (nI k) x = if x = 0 then err (vE Y.1 (vInv Y.1) (-1)) k else if err (vE Y.1 (vInv Y.1) (-1)) k = 0 then -5 else if x = 1 then nI (ett (vE Y.1 (vInv Y.1) (-1)) k) else if x = 2 then ebb (vE Y.1 (vInv Y.1) (-1)) k else if x = 3 then nI (ewl (vE Y.1 (vInv Y.1) (-1)) (ett (vE Y.1 (vInv Y.1) (-1)) k) k).1 else nI (ewl (vE Y.1 (vInv Y.1) (-1)) (ett (vE Y.1 (vInv Y.1) (-1)) k) k).2 := by
        rw [sp_why, if_neg (fun q => q hg), if_neg (fun q => q hx), clp_nI (by omega)]
      rw [e]
      congr 2
      by_cases x0 : x = 0
      · rw [if_neg (fun q => q.1 x0), if_pos x0, if_pos x0, z1, er]
      · by_cases r0 : err (vE Y.1 (vInv Y.1) (-1)) k = 0
        · rw [if_pos ⟨x0, by rw [z1, er]; exact r0⟩, if_neg x0, if_pos r0]
        · obtain ⟨f1, f2, f3, f4, f5⟩ := z2 (by rw [er]; exact r0)
          rw [if_neg (fun q => r0 (by rw [← er, ← z1]; exact q.2)), if_neg x0, if_neg x0, if_neg r0, f2, f3, f4, f5, ge.qtt, ge.qbb hk, ge.qwl _ k hk]
          by_cases x1 : x = 1
          · rw [if_pos x1, if_pos x1]
          · rw [if_neg x1, if_neg x1]
            by_cases x2 : x = 2
            · rw [if_pos x2, if_pos x2]
            · rw [if_neg x2, if_neg x2]
              by_cases x3 : x = 3
              · rw [if_pos x3, if_pos x3]
              · rw [if_neg x3, if_neg x3]
                obtain ⟨j, hj, rfl⟩ := nI_of2 (M := 4) (n := 4) (by decide) (Int32.not_lt.mpr hx.1) hx.2
                have : j = 4 := by
                  match j, hj with
                  | 0, _ => exact absurd rfl x0
                  | 1, _ => exact absurd rfl x1
                  | 2, _ => exact absurd rfl x2
                  | 3, _ => exact absurd rfl x3
                  | 4, _ => rfl
                subst this
                rfl
    · have hx := of_decide_eq_false (b2i_0.mp hq)
      exact ⟨trivial, cQ h (by rw [sp_why, if_neg (fun q => q hg), if_pos hx])⟩
  · refine ⟨_, h1, _, h2.1, _, c_find_no h2 hs.1 hs.2.1 (gOk_no wf hg), ?_⟩
    rintro _ H ⟨rfl, rfl⟩
    exact ⟨trivial, cQ h (by rw [sp_why, if_pos hg])⟩
theorem ndO_le {p : Nat → Bool} : ∀ (n a : Nat), ndO p n = some a → a ≤ 12
  | 0, a, h => by simp [ndO] at h
  | n + 1, a, h => by
    unfold ndO at h
    split at h
    · cases h; exact pop_le n
    · exact ndO_le n a h
set_option maxRecDepth 100000 in
set_option maxHeartbeats 4000000 in
theorem l_needs {k : Nat} (h : CPx K H b Y S N π D C P T lr Z) (hY : YOk Y) (hk : k < vN Y.1) : ∀ (m i : Nat) (w f : Int32) (l6 : Option Value), i + m = 2 ^ vN Y.1 → w = nI i → f = oI (ndO (vMet Y.1 k) i) → hJ K M_Pa_needs (0, 0) (fun r H' => r = some (.int (oI (ndO (vMet Y.1 k) (2 ^ vN Y.1)))) ∧ H' = H) 30 (0, 0) [some (.ref b), some (.int (nI k)), some (.ref (b + 1 + 3 + 2 * k)), some (.int f), some (.int (nI (2 ^ vN Y.1 - 1))), some (.int w), l6] [] H := by
  have wf := hY.1
  obtain ⟨h1, ⟨h2, h3⟩, -⟩ := id h
  have hs := h3.sok wf
  have h12 := two12 wf.1.2
  have hn := wf.1.2
  have h2p := Nat.two_pow_pos (vN Y.1)
  have hR := h2.2.2.2 k (by omega)
  intro m
  induction m with
  | zero =>
    intro i w f l6 hi hw hf
    refine hGo_sound (okc_Pa_needs K _ _) [30] 60 _ _ _ _ _ ?_
    refine ⟨fun _ => ⟨trivial, by rw [hf, show i = 2 ^ vN Y.1 by omega], rfl⟩, fun h => ?_⟩
    exact absurd (by rw [hw]; exact nI_lt (by omega) (by omega)) h
  | succ m ih =>
    intro i w f l6 hi hw hf
    have hmet : sMet S k i = vMet Y.1 k i := (h3.2.2 k hk).2.2 i (by omega)
    have tail : ∀ (q6 : Option Value), (∀ a, ndO (vMet Y.1 k) i = some a → pop i < a) → hGo (code_Pa_needs K (0, 0) (fun r H' => r = some (.int (oI (ndO (vMet Y.1 k) (2 ^ vN Y.1)))) ∧ H' = H)) [30] (hJ K M_Pa_needs (0, 0) (fun r H' => r = some (.int (oI (ndO (vMet Y.1 k) (2 ^ vN Y.1)))) ∧ H' = H)) 20 56 (0, 0) [some (.ref b), some (.int (nI k)), some (.ref (b + 1 + 3 + 2 * k)), some (.int f), some (.int (nI (2 ^ vN Y.1 - 1))), some (.int w), some (.int (nI (pop i)))] [] H := by
      intro q6 hno
      refine ⟨_, hR.1, _, hw ▸ c_isContentWith hR (hs.2.2.2 k hk).2.1 (hs.2.2.2 k hk).2.2 (x := i) (by omega), ?_⟩
      rintro _ H ⟨rfl, rfl⟩
      refine ⟨fun hz => ?_, fun hz => ?_⟩
      · have hm : sMet S k i = false := b2i_0.mp hz
        refine ih (i + 1) _ _ _ (by omega) (by rw [hw, nI_1]) ?_
        rw [hf, ndO, ← hmet, hm]; rfl
      · have hm : sMet S k i = true := b2i_n0.mp hz
        refine ih (i + 1) _ _ _ (by omega) (by rw [hw, nI_1]) ?_
        rw [ndO, ← hmet, hm]
        cases hs : ndO (vMet Y.1 k) i with
        | none => rfl
        | some a =>
          dsimp only
          rw [decide_eq_true (hno a hs)]
          rfl
    refine hGo_sound (okc_Pa_needs K _ _) [30] 60 _ _ _ _ _ ?_
    refine ⟨fun h => absurd (by rw [hw] at h; exact h) (nI_nlt (by omega) (by omega)), fun _ => ⟨_, hw ▸ c_pop K H (x := i) (by omega), ?_⟩⟩
    rintro _ H ⟨rfl, rfl⟩
    sorry
end PB
