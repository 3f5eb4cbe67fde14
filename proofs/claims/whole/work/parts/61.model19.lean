/-! THE REFERENCE: the fault of the text -/
section TXB
variable {K : hK} {H : hAH} {m len : Nat} {c : Nat → Int32} {B : Nat → Nat → Int32} {tx : Nat → Nat}
def faQ (K : hK) (H : hAH) (m : Nat) (c : Nat → Int32) (B : Nat → Nat → Int32) (tx : Nat → Nat) (len : Nat) : hPost := fun r H' => r = some (.int (tF tx len)) ∧ (∃ p' L', RMo K H' m (pl c p' L') B ∧ (tF tx len = -1 → L' = tL tx len)) ∧ hFr m (m + 11) H H'
set_option maxRecDepth 100000 in
set_option maxHeartbeats 4000000 in
theorem l_fault {H0 : hAH} (t : tXo c B tx len) : ∀ (d p L : Nat), p ≤ len → len < p + d → gdTo tx p → (tR tx p).1 1 = L →
    ((tR tx p).1 3 = 0 → ∀ H1, RMo K H1 m (pl c p L) B → hFr m (m + 11) H0 H1 → hJ K M_Mo_fault (0, 0) (faQ K H0 m c B tx len) 12 (0, 0) [some (.ref m), some (.int (nI ((tR tx p).1 2)))] [] H1) ∧
    (rsE tx len p → ∀ H1, RMo K H1 m (pl c p L) B → hFr m (m + 11) H0 H1 → hJ K M_Mo_fault (0, 0) (faQ K H0 m c B tx len) 59 (0, 0) [some (.ref m), some (.int (nI ((tR tx p).1 2)))] [] H1) := by
  have hlen := t.2.1
  have tl : ∀ j, j < len → tx j < 65536 := fun j hj => (t.2.2 j hj).2
  intro d
  induction d with
  | zero => intro p L hp hd; omega
  | succ d ih =>
    intro p L hp hd g hL
    have hI := g.inv
    have ho : (tR tx p).1 2 ≤ 8 := hI.2.2.1
    have h0 := tR_0 tx p
    refine ⟨fun h3 => ?_, fun hs => ?_⟩
    · -- an atom is to come
      have atom : ¬ (p < len ∧ tx p = 40 ∧ (tR tx p).1 2 < 8) → ∀ H1, RMo K H1 m (pl c p L) B → hFr m (m + 11) H0 H1 → hJ K M_Mo_fault (0, 0) (faQ K H0 m c B tx len) 47 (0, 0) [some (.ref m), some (.int (nI ((tR tx p).1 2)))] [] H1 := by
        intro hno H1 h f
        refine hGo_sound (okc_Mo_fault K _ _) [12, 59] 40 _ _ _ _ _ ?_
        refine ⟨_, h.1, _, c_Mo_overAtom h t hp g h3 hL hno, ?_⟩
        rintro _ H2 ⟨b, p', L', rfl, ⟨q1, q2, q3⟩, h2, f2⟩
        refine ⟨fun hb => ?_, fun hb => ?_⟩
        · have hb := b2i_n0.mp hb
          obtain ⟨k1, k2, k3, k4, k5⟩ := q3 hb
          have := (ih p' L' q1 (by omega) k2 k5.symm).2 k3 H2 h2 (f.trans f2)
          rw [k4] at this
          exact this
        · have hb := b2i_0.mp hb
          have e := q2 hb
          exact ⟨_, h2.1, trivial, by rw [e, pl_3], ⟨p', L', h2, fun z => absurd (e.symm.trans z) (nI_nm1 (by omega))⟩, f.trans f2⟩
      intro H1 h f
      refine hGo_sound (okc_Mo_fault K _ _) [12, 47, 59] 40 _ _ _ _ _ ?_
      refine ⟨_, h.1, _, h.1, _, c_Mo_charAt h (t.pl p L) pl_3 (by omega), ?_⟩
      rintro _ H1 ⟨rfl, rfl⟩
      refine ⟨fun n40 => ?_, fun i40 => ⟨fun h8 => ?_, fun h8 => ?_⟩⟩
      · exact atom (fun q => n40 ((chI_eq tl (k := 40) (by decide)).mpr ⟨q.1, q.2.1⟩)) _ h f
      · have h8 := (nI_leI (a := 8) (by omega) (by omega)).mp h8
        exact atom (fun q => by omega) _ h f
      · have h8 : (tR tx p).1 2 < 8 := Nat.lt_of_not_le fun q => h8 (nI_le (a := 8) q (by omega))
        obtain ⟨hlt, e40⟩ := (chI_eq tl (k := 40) (by decide)).mp i40
        obtain ⟨s3, s2, s1, -⟩ := st_open (T := (tR tx p).2) h3 e40 (by omega)
        rw [← tR_s] at s3 s2 s1
        have hk : rdOk (tR tx p).1 (tx p) = true := by
          unfold rdOk atomOk
          rw [if_pos h3, if_pos e40]
          exact decide_eq_true h8
        refine ⟨_, h.1, _, h.1, trivial, fun H2 u2 => ?_⟩
        have k2 : RMo K H2 m (pl c (p + 1) L) B := h.inc u2
        have := (ih (p + 1) L (by omega) (by omega) (g.succ hk) (s1.trans hL)).1 s3 H2 k2 (f.trans (u2.fr' (by omega) (by omega)))
        rw [s2] at this
        rw [nI_1]
        exact this
    · -- behind an atom
      have out : ¬ (p < len ∧ tx p = 41 ∧ 0 < (tR tx p).1 2) → ∀ H1, RMo K H1 m (pl c p L) B → hFr m (m + 11) H0 H1 → hJ K M_Mo_fault (0, 0) (faQ K H0 m c B tx len) 92 (0, 0) [some (.ref m), some (.int (nI ((tR tx p).1 2)))] [] H1 := by
        intro hno H1 h f
        refine hGo_sound (okc_Mo_fault K _ _) [12, 59] 60 _ _ _ _ _ ?_
        have e2 : pl c p L 2 = nI len := (t.pl p L).1
        -- a character that is not allowed here
        have bad : p < len → ¬ (tx p = 124 ∨ tx p = 38) → tF tx len = nI p := fun hlt hn => by
          refine tF_no g hlt ?_
          rw [(st_beh (T := (tR tx p).2) (hs.b hlt)).2]
          unfold behOk
          by_cases e41 : tx p = 41
          · rw [if_pos e41, decide_eq_false fun q => hno ⟨hlt, e41, q⟩]
          · rw [if_neg e41, decide_eq_false fun q => hn (Or.inl q), decide_eq_false fun q => hn (Or.inr q)]
            rfl
        -- one that joins
        have join : p < len → (tx p = 124 ∨ tx p = 38) → ∀ H2, RMo K H2 m (pl c (p + 1) L) B → hFr m (m + 11) H0 H2 → hJ K M_Mo_fault (0, 0) (faQ K H0 m c B tx len) 12 (0, 0) [some (.ref m), some (.int (nI ((tR tx p).1 2)))] [] H2 := fun hlt hj H2 k2 f2 => by
          obtain ⟨eb1, eb2⟩ := st_beh (T := (tR tx p).2) (hs.b hlt)
          have hk : rdOk (tR tx p).1 (tx p) = true := by
            rw [eb2]
            unfold behOk
            rw [if_neg (by omega)]
            rcases hj with e | e
            · rw [decide_eq_true e]; rfl
            · rw [decide_eq_true e, Bool.or_true]
          have es : (tR tx (p + 1)).1 3 = 0 ∧ (tR tx (p + 1)).1 2 = (tR tx p).1 2 ∧ (tR tx (p + 1)).1 1 = (tR tx p).1 1 := by
            rw [tR_s, eb1]
            rcases hj with e | e
            · obtain ⟨a, b, d, -⟩ := st_bar (P := (tR tx p).1) (T := (tR tx p).2) e (by omega)
              exact ⟨a, b, d⟩
            · obtain ⟨a, b, d, -⟩ := st_amp (P := (tR tx p).1) (T := (tR tx p).2) e
              exact ⟨a, b, d⟩
          have := (ih (p + 1) L (by omega) (by omega) (g.succ hk) (es.2.2.trans hL)).1 es.1 H2 k2 f2
          rw [es.2.1] at this
          exact this
        refine ⟨_, h.1, _, h.1, fun ne => ?_, fun eq => ⟨fun hz => ?_, fun hz => ?_⟩⟩
        · rw [pl_3, e2] at ne
          have hlt : p < len := by
            refine Nat.lt_of_le_of_ne hp fun q => ne (by rw [q])
          refine ⟨_, h.1, _, h.1, _, c_Mo_charAt h (t.pl p L) pl_3 (by omega), ?_⟩
          rintro _ H1 ⟨rfl, rfl⟩
          refine ⟨fun i124 => ?_, fun n124 => ?_⟩
          · refine ⟨_, h.1, _, h.1, trivial, fun H2 u2 => ?_⟩
            exact join hlt (Or.inl ((chI_eq tl (k := 124) (by decide)).mp i124).2) H2 (h.inc u2) (f.trans (u2.fr' (by omega) (by omega)))
          · refine ⟨_, h.1, _, h.1, _, c_Mo_charAt h (t.pl p L) pl_3 (by omega), ?_⟩
            rintro _ H1 ⟨rfl, rfl⟩
            refine ⟨fun i38 => ?_, fun n38 => ?_⟩
            · refine ⟨_, h.1, _, h.1, trivial, fun H2 u2 => ?_⟩
              exact join hlt (Or.inr ((chI_eq tl (k := 38) (by decide)).mp i38).2) H2 (h.inc u2) (f.trans (u2.fr' (by omega) (by omega)))
            · have e := bad hlt fun q => q.elim (fun q => n124 ((chI_eq tl (k := 124) (by decide)).mpr ⟨hlt, q⟩)) (fun q => n38 ((chI_eq tl (k := 38) (by decide)).mpr ⟨hlt, q⟩))
              exact ⟨_, h.1, trivial, by rw [e, pl_3], ⟨p, L, h, fun z => absurd (e.symm.trans z) (nI_nm1 (by omega))⟩, f⟩
        · -- too early
          rw [pl_3, e2] at eq
          obtain rfl : p = len := nI_inj (by omega) (by omega) eq
          have hz : ¬ (tR tx p).1 2 = 0 := fun q => hz (by rw [q]; rfl)
          have e : tF tx p = nI p := by
            rw [tF_end g]
            unfold rdWhole
            rw [decide_eq_false hz, Bool.and_false]
            rfl
          exact ⟨_, h.1, trivial, by rw [e, pl_3], ⟨p, L, h, fun z => absurd (e.symm.trans z) (nI_nm1 (by omega))⟩, f⟩
        · rw [pl_3, e2] at eq
          obtain rfl : p = len := nI_inj (by omega) (by omega) eq
          have hz : (tR tx p).1 2 = 0 := (ieq (n := 0) (by omega) (by decide)).mp hz
          have e : tF tx p = -1 := by
            rw [tF_end g]
            unfold rdWhole
            rw [decide_eq_true hz, decide_eq_true hs.four]
            rfl
          exact ⟨trivial, by rw [e], ⟨p, L, h, fun _ => hL.symm⟩, f⟩
      intro H1 h f
      refine hGo_sound (okc_Mo_fault K _ _) [12, 59, 92] 60 _ _ _ _ _ ?_
      refine ⟨fun h8 => ?_, fun h8 => ?_⟩
      · have h8 : ¬ 0 < (tR tx p).1 2 := fun q => nI_nle q (by omega) h8
        exact out (fun q => h8 q.2.2) _ h f
      · have h8 : 0 < (tR tx p).1 2 := by
          refine Nat.pos_of_ne_zero fun q => h8 ?_
          rw [q]
          decide
        refine ⟨_, h.1, _, h.1, _, c_Mo_charAt h (t.pl p L) pl_3 (by omega), ?_⟩
        rintro _ H1 ⟨rfl, rfl⟩
        refine ⟨fun n41 => ?_, fun i41 => ?_⟩
        · exact out (fun q => n41 ((chI_eq tl (k := 41) (by decide)).mpr ⟨q.1, q.2.1⟩)) _ h f
        · obtain ⟨hlt, e41⟩ := (chI_eq tl (k := 41) (by decide)).mp i41
          obtain ⟨eb1, eb2⟩ := st_beh (T := (tR tx p).2) (hs.b hlt)
          have hk : rdOk (tR tx p).1 (tx p) = true := by
            rw [eb2]
            unfold behOk
            rw [if_pos e41]
            exact decide_eq_true h8
          obtain ⟨s3, s2, s1, -⟩ := st_close (P := (tR tx p).1) (T := (tR tx p).2) e41 (by omega)
          rw [← eb1, ← tR_s] at s3 s2 s1
          refine ⟨_, h.1, _, h.1, trivial, fun H2 u2 => ?_⟩
          have k2 : RMo K H2 m (pl c (p + 1) L) B := h.inc u2
          have := (ih (p + 1) L (by omega) (by omega) (g.succ hk) (s1.trans hL)).2 (Or.inl s3) H2 k2 (f.trans (u2.fr' (by omega) (by omega)))
          rw [s2] at this
          have e : nI ((tR tx p).1 2) + (-1) = nI ((tR tx p).1 2 - 1) := by
            have := pk_m1 ((tR tx p).1 2 - 1)
            rw [show (tR tx p).1 2 - 1 + 1 = (tR tx p).1 2 by omega] at this
            exact this
          rw [e]
          exact this
set_option maxRecDepth 100000 in
set_option maxHeartbeats 4000000 in
theorem c_Mo_fault (h : RMo K H m c B) (t : tXo c B tx len) : hCT K M_Mo_fault [.ref m] H 0 0 (faQ K H m c B tx len) := by
  refine hCT.go (okc_Mo_fault K _ _) [12, 59] 40 (by decide +kernel) rfl rfl ?_
  refine ⟨_, h.1, trivial, fun H1 u1 => ?_⟩
  have h1 : RMo K H1 m (upd c 3 0) B := h.sc u1 rfl
  refine ⟨_, h1.1, trivial, fun H2 u2 => ?_⟩
  have h2 : RMo K H2 m (pl c 0 0) B := h1.sc u2 rfl
  exact (l_fault (H0 := H) t (len + 1) 0 0 (Nat.zero_le _) (by omega) (fun i hi => absurd hi (Nat.not_lt_zero i)) rfl).1 rfl H2 h2 ((u1.fr' (by omega) (by omega)).trans (u2.fr' (by omega) (by omega)))
end TXB
