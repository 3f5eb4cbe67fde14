/-! THE CLASS: a guest's condition out of the text -/
def sp_setCondition (Y : hY) (g : Int32) : Ans := if ¬ gOk Y.1 g then (-1, Y) else if ¬ tF Y.2.2.2.2.2.2 Y.2.2.2.2.2.1 = -1 then (-100 - tF Y.2.2.2.2.2.2 Y.2.2.2.2.2.1, Y) else if ¬ tL Y.2.2.2.2.2.2 Y.2.2.2.2.2.1 < 2 ^ vN Y.1 then (-2, Y) else if Y.1 7 = 1 then (-4, Y) else
  (nI (pop (tL Y.2.2.2.2.2.2 Y.2.2.2.2.2.1)), yAct Y (chgV (cndV Y.1 (clp g) (tL Y.2.2.2.2.2.2 Y.2.2.2.2.2.1) (tM Y.2.2.2.2.2.2 Y.2.2.2.2.2.1)) (clp g)))
section AD
variable {K : hK} {H : hAH} {b : Nat} {Y : hY} {S N : Nat → Nat → Int32} {π : Nat → Nat} {D : Nat → Nat → Nat → Int32} {C : Nat → Int32} {P : Nat → Nat} {T : Nat → Int32} {lr : Int32} {Z : Nat → Nat → Int32}
theorem CPx.re {H1 : hAH} {P' : Nat → Nat} {T' : Nat → Int32} (h : CPx K H b Y S N π D C P T lr Z) (hR : RRe K H1 (b + 166) P' T') (f : hFr (b + 166) (b + 168) H H1) : CPx K H1 b Y S N π D C P' T' lr Z := by
  obtain ⟨h1, ⟨h2, h3⟩, ⟨h4, h5, h6⟩, ⟨h7, h8⟩, ⟨h9, h10⟩, h11, h12⟩ := h
  exact ⟨(f.2 _ (by omega)).trans h1, ⟨h2.fr f (by omega), h3⟩, ⟨h4.fr f (by omega), h5, h6⟩, ⟨h7.fr f (by omega), h8⟩, ⟨(f.2 _ (by omega)).trans h9, h10⟩, hR, h12.fr f (by omega)⟩
theorem tL_lt {tx : Nat → Nat} {len : Nat} (h : rdInv (tR tx len).1) : tL tx len < 4096 := h.2.1
theorem chS_7 {S : Nat → Nat → Int32} {k : Nat} : chS S k (2 + k) 7 = S (2 + k) 7 := by
  unfold chS
  split
  · rw [sGu_g, upd_n (by decide)]
  · rfl
set_option maxRecDepth 100000 in
set_option maxHeartbeats 4000000 in
theorem c_setCondition (h : CPx K H b Y S N π D C P T lr Z) (hY : YOk Y) (g : Int32) : hCT K M_Pa_setCondition [.ref b, .int g] H 0 0 (cPost K b H (sp_setCondition Y g)) := by
  have wf := hY.1
  obtain ⟨h1, ⟨h2, h3⟩, ⟨-, -, -⟩, ⟨-, -⟩, ⟨h9, h10⟩, h11, h12⟩ := id h
  have hs := h3.sok wf
  have hn := wf.1.2
  have h2n := two12 hn
  have e7 := h.f7
  have hlen := hY.2.2.2.2.2.1
  refine hCT.go (okc_Pa_setCondition K _ _) [] 90 (by decide +kernel) rfl rfl ?_
  by_cases hg : gOk Y.1 g
  · obtain ⟨k, hk, rfl⟩ := (gOk_iff wf).mp hg
    have ek : clp (nI k) = k := clp_nI (by omega)
    refine ⟨_, h1, _, h2.1, _, c_find_lt h2 hs.1 hs.2.1 hk, ?_⟩
    rintro _ H ⟨rfl, rfl⟩
    refine ⟨_, h1, _, h1, _, h1, _, h11.1, _, c_read h11 h9 (by omega) hlen (fun j hj => ⟨h10 j hj, hY.2.2.2.2.2.2 j hj⟩), ?_⟩
    rintro _ H0 ⟨rfl, hgood, ⟨P', T', hany⟩, f0⟩
    have eF : rdFault Y.2.2.2.2.2.2 P T Y.2.2.2.2.2.1 Y.2.2.2.2.2.1 0 = tF Y.2.2.2.2.2.2 Y.2.2.2.2.2.1 := rdFault_eq _ _ _ _ _ _
    rw [eF] at hgood ⊢
    have f0' : hFr b (b + 175) H H0 := f0.wide (by omega) (by omega)
    refine ⟨fun hF => ?_, fun hF => ?_⟩
    · obtain ⟨hR, hI⟩ := hgood hF
      have hag := rdR_run Y.2.2.2.2.2.2 P T Y.2.2.2.2.2.1
      have hInv := rdR_run Y.2.2.2.2.2.2 P T Y.2.2.2.2.2.1
      generalize hq : rdRun Y.2.2.2.2.2.2 P T Y.2.2.2.2.2.1 = q at hR hI hag
      have eL : q.1 1 = tL Y.2.2.2.2.2.2 Y.2.2.2.2.2.1 := hag.1.1 1 (by decide)
      have hL : tL Y.2.2.2.2.2.2 Y.2.2.2.2.2.1 < 4096 := by rw [← eL]; exact hI.2.1
      have ec : q.1 0 = (tR Y.2.2.2.2.2.2 Y.2.2.2.2.2.1).1 0 := hag.1.1 0 (by decide)
      have eM : ∀ x, x < 4096 → gcMet q.2 (q.1 0) x = tM Y.2.2.2.2.2.2 Y.2.2.2.2.2.1 x := fun x _ => by
        unfold tM
        rw [← ec]
        exact gcMet_cong hag.1.2
      have h0 := h.re hR f0
      obtain ⟨h1', ⟨h2', -⟩, -, -, -, h11', -⟩ := id h0
      refine ⟨_, h1', _, h1', _, h11'.1, _, h2'.1, _, c_hasAll h2' hs.1 hs.2.1 (nI (q.1 1)), ?_⟩
      rintro _ H0 ⟨rfl, rfl⟩
      have hall : (0 ≤ nI (q.1 1) ∧ nI (q.1 1) ≤ nI (2 ^ vN Y.1 - 1)) ↔ tL Y.2.2.2.2.2.2 Y.2.2.2.2.2.1 < 2 ^ vN Y.1 := by
        rw [eL]
        have h3 := Nat.two_pow_pos (vN Y.1)
        constructor
        · rintro ⟨-, b⟩
          have := (nI_leI (by omega) (by omega)).mp b
          omega
        · intro q
          exact ⟨nI_le (a := 0) (by omega) (by omega), nI_le (by omega) (by omega)⟩
      refine ⟨fun hz => ?_, fun hz => ?_⟩
      · have hz := hall.mp (of_decide_eq_true (b2i_n0.mp hz))
        refine ⟨_, h1', _, h2'.1, fun hx => ?_, fun hx => ?_⟩
        · rw [e7] at hx
          have h71 : ¬ Y.1 7 = 1 := by rw [hx]; decide
          refine ⟨_, h1', _, h1', _, h0.2.2.1.1.1, _, c_rec h0 hY, ?_⟩
          rintro _ H1 ⟨rfl, ⟨π', D', h'⟩, f1⟩
          obtain ⟨h1'', ⟨h2'', -⟩, -, -, -, h11'', -⟩ := id h'
          have hRg := h2''.2.2.2 k (by omega)
          refine ⟨_, h1'', _, hRg.1, _, c_takeCondition hRg h11'' (by omega) rfl hI.1, ?_⟩
          rintro _ H2 ⟨rfl, hRg2, f2⟩
          have hR2 := h2''.gu (by omega) hRg2 f2
          have en := h3.cnd hk hn (L := q.1 1) hI.1 eM
          have wc := wf.cnd hk (L := q.1 1) (by rw [eL]; exact hL) (p := tM Y.2.2.2.2.2.2 Y.2.2.2.2.2.1) (fun x y => tM_mono)
          have h3' := h'.now hR2 (f2.wide (by omega) (by omega)) en
          obtain ⟨k1, ⟨k2, -⟩, -⟩ := id h3'
          refine ⟨_, k1, _, k2.1, _, c_chargeIfLate k2 (by omega), ?_⟩
          rintro _ H3 ⟨rfl, hR3, f3⟩
          have hk2 : k < vN (cndV Y.1 k (q.1 1) (tM Y.2.2.2.2.2.2 Y.2.2.2.2.2.1)) := by rw [cnd_n]; exact hk
          have h4' := h3'.now hR3 (f3.wide (by omega) (by omega)) (en.ch hk2 (by rw [cnd_n]; exact hn))
          have hR4 := hR3.2.2.2 k (by omega)
          have e77 : chS (sGu S k (upd (upd (S (2 + k)) 7 (nI (q.1 1))) 8 (nI (q.1 0))) (mix q.2 (S (14 + k)) (q.1 0))) k (2 + k) 7 = nI (tL Y.2.2.2.2.2.2 Y.2.2.2.2.2.1) := by
            rw [chS_7, sGu_g, upd_n (by decide), upd_s, eL]
          refine ⟨_, hR4.1, _, e77 ▸ c_pop K H3 hL, ?_⟩
          rintro _ H3 ⟨rfl, rfl⟩
          refine ⟨trivial, cA h4'.cp (((f0'.trans f1).trans (f2.wide (by omega) (by omega))).trans (f3.wide (by omega) (by omega))) ?_⟩
          rw [sp_setCondition, if_neg (fun q => q hg), if_neg (fun q => q hF), if_neg (fun q => q hz), if_neg h71, ek, eL]
          rfl
        · rw [e7] at hx
          have h71 : Y.1 7 = 1 := wf.2.2.2.1.1.resolve_left hx
          exact ⟨trivial, cA h0.cp f0' (by rw [sp_setCondition, if_neg (fun q => q hg), if_neg (fun q => q hF), if_neg (fun q => q hz), if_pos h71])⟩
      · have hz : ¬ tL Y.2.2.2.2.2.2 Y.2.2.2.2.2.1 < 2 ^ vN Y.1 := fun q => of_decide_eq_false (b2i_0.mp hz) (hall.mpr q)
        exact ⟨trivial, cA h0.cp f0' (by rw [sp_setCondition, if_neg (fun q => q hg), if_neg (fun q => q hF), if_pos hz])⟩
    · exact ⟨trivial, cA (h.re hany f0).cp f0' (by rw [sp_setCondition, if_neg (fun q => q hg), if_pos hF])⟩
  · refine ⟨_, h1, _, h2.1, _, c_find_no h2 hs.1 hs.2.1 (gOk_no wf hg), ?_⟩
    rintro _ H ⟨rfl, rfl⟩
    exact ⟨trivial, cN h (by rw [sp_setCondition, if_pos hg])⟩
end AD
