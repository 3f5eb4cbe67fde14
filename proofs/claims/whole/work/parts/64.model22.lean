/-! THE REFERENCE: whether the condition of the text is met by a set: the walk -/
theorem vn0 : vp_nar .boolean 0 = 0 := by decide
theorem vn1 : vp_nar .boolean 1 = 1 := by decide
section TXE
variable {K : hK} {H : hAH} {m len L x : Nat} {c : Nat → Int32} {B : Nat → Nat → Int32} {tx : Nat → Nat}
abbrev mtB (B : Nat → Nat → Int32) (f g : Nat → Int32) : Nat → Nat → Int32 := upB (upB B 6 f) 7 g
theorem mtB_6 {f g f' : Nat → Int32} : upB (mtB B f g) 6 f' = mtB B f' g := by
  funext i
  unfold mtB upB
  by_cases e6 : i = 6
  · rw [if_pos e6, if_neg (by omega), if_pos e6]
  · rw [if_neg e6, if_neg e6, if_neg e6]
theorem mtB_7 {f g g' : Nat → Int32} : upB (mtB B f g) 7 g' = mtB B f g' := upB_u
theorem mt_an {p : Nat} {f g : Nat → Int32} (h : RMo K H m (pl c p L) (mtB B f g)) : H.2 (m + 7) = some (hInts K 2 9 f) := by
  have := h.an
  unfold mtB at this
  rw [upB_n (by decide), upB_s] at this
  exact this
theorem mt_pa {p : Nat} {f g : Nat → Int32} (h : RMo K H m (pl c p L) (mtB B f g)) : H.2 (m + 8) = some (hInts K 2 9 g) := by
  have := h.pa
  unfold mtB at this
  rw [upB_s] at this
  exact this
theorem mt_w6 {H' : hAH} {p : Nat} {f g f' : Nat → Int32} (h : RMo K H m (pl c p L) (mtB B f g)) (u : hUpd H (m + 7) (hInts K 2 9 f') H') : RMo K H' m (pl c p L) (mtB B f' g) := by
  have := h.bk (j := 6) (by decide) u
  rw [mtB_6] at this
  exact this
theorem mt_w7 {H' : hAH} {p : Nat} {f g g' : Nat → Int32} (h : RMo K H m (pl c p L) (mtB B f g)) (u : hUpd H (m + 8) (hInts K 2 9 g') H') : RMo K H' m (pl c p L) (mtB B f g') := by
  have := h.bk (j := 7) (by decide) u
  rw [mtB_7] at this
  exact this
theorem mt_tx {p : Nat} {f g : Nat → Int32} (h : RMo K H m (pl c p L) (mtB B f g)) : H.2 (m + 4) = some (hInts K 0 60 (B 3)) := h.tx
theorem tXo.mt {f g : Nat → Int32} (t : tXo c B tx len) : tXo c (mtB B f g) tx len := t
def meQ (K : hK) (H : hAH) (m : Nat) (c : Nat → Int32) (L : Nat) (B : Nat → Nat → Int32) (tx : Nat → Nat) (len x : Nat) : hPost := fun r H' => r = some (.int (b2i (tM tx len x))) ∧ (∃ p' f g, RMo K H' m (pl c p' L) (mtB B f g)) ∧ hFr m (m + 11) H H'
set_option maxRecDepth 100000 in
set_option maxHeartbeats 4000000 in
theorem l_meets {H0 : hAH} (t : tXo c B tx len) (gd : gdTo tx len) (hw : rdWhole (tR tx len).1 = true) (hx : x < 4096) : ∀ (d p : Nat) (f g : Nat → Int32) (w : Int32) (l3 : Option Value) (H1 : hAH), p ≤ len → len < p + d → mtI tx len p x f g → w = nI ((tR tx p).1 2) → RMo K H1 m (pl c p L) (mtB B f g) → hFr m (m + 11) H0 H1 → hJ K M_Mo_meets (0, 0) (meQ K H0 m c L B tx len x) 21 (0, 0) [some (.ref m), some (.int (nI x)), some (.int w), l3] [] H1 := by
  have hlen := t.2.1
  have e2 : ∀ q, pl c q L 2 = nI len := fun q => (t.pl q L).1
  intro d
  induction d with
  | zero => intro p f g w l3 H1 hp hd; omega
  | succ d ih =>
    intro p f g w l3 H1 hp hd hI ew h fr
    refine hGo_sound (okc_Mo_meets K _ _) [21] 120 _ _ _ _ _ ?_
    refine ⟨_, h.1, _, h.1, fun q => ?_, fun q => ?_⟩
    · -- the end of the text
      rw [pl_3, e2] at q
      have e : p = len := by
        have : ¬ p < len := fun z => nI_ge z (by omega) q
        omega
      subst e
      obtain ⟨-, a1, a2⟩ := cl_end hI hw
      have eM : tM tx p x = (ib (gRn (tR tx p) x).1 0 || ib (gRn (tR tx p) x).2 0) := gcMet_ib
      refine ⟨_, h.1, 9, f, 0, mt_an h, rfl, by decide, by decide, fun z => ?_, fun z => ?_⟩
      · rw [a1] at z
        have b1 := b2i_n0.mp z
        exact ⟨Or.inr rfl, by rw [eM, b1, Bool.true_or]; rfl, ⟨p, f, g, h⟩, fr⟩
      · rw [a1] at z
        have b1 := b2i_0.mp z
        refine ⟨_, h.1, 9, g, 0, mt_pa h, rfl, by decide, by decide, fun z => ?_, fun z => ?_⟩
        · rw [a2] at z
          have b2 := b2i_0.mp z
          exact ⟨Or.inl rfl, by rw [eM, b1, b2]; rfl, ⟨p, f, g, h⟩, fr⟩
        · rw [a2] at z
          have b2 := b2i_n0.mp z
          exact ⟨Or.inr rfl, by rw [eM, b2, Bool.or_true]; rfl, ⟨p, f, g, h⟩, fr⟩
    · rw [pl_3, e2] at q
      have hlt : p < len := Nat.lt_of_not_le fun z => q (nI_le z (by omega))
      obtain ⟨t4, t5⟩ := t.2.2 p hlt
      have hk := gd p hlt
      have gp := gd.le (show p ≤ len by omega)
      have ho : (tR tx p).1 2 ≤ 8 := gp.inv.2.2.1
      have h60 : (tR tx p).1 0 < 60 := by
        have := tR_0 tx p
        omega
      have hte : ∀ k, k < 65536 → (B 3 p = nI k ↔ tx p = k) := fun k hk' => by rw [t4]; exact ieq t5 hk'
      refine ⟨_, h.1, _, h.1, 60, _, p, Or.inl (mt_tx h), pl_3, by omega, by decide, _, h.1, _, h.1, trivial, fun H2 u2 => ?_⟩
      have k2 : RMo K H2 m (pl c (p + 1) L) (mtB B f g) := h.inc u2
      have f2 := fr.trans (u2.fr' (lo := m) (hi := m + 11) (by omega) (by omega))
      refine ⟨fun n40 => ⟨fun n41 => ⟨fun n124 => ⟨fun i38 => ?_, fun n38 => ?_⟩, fun i124 => ?_⟩, fun i41 => ?_⟩, fun i40 => ?_⟩
      · -- and
        have e38 := (hte 38 (by decide)).mp i38
        obtain ⟨hE, hR, hb⟩ := cl_beh hI hlt hk (Or.inr (Or.inr e38))
        obtain ⟨s3, s2, -, sR⟩ := st_amp (P := (tR tx p).1) (T := (tR tx p).2) e38
        have sR := sR x
        rw [← (st_beh (T := (tR tx p).2) (hE.b hlt)).1, ← tR_s] at s3 s2 sR
        refine ih (p + 1) f g w _ H2 (by omega) (by omega) (Or.inl ⟨Or.inl s3, ?_⟩) (by rw [ew, s2]) k2 f2
        rw [s2, sR]
        exact hR
      · -- an atom
        have n40 : tx p ≠ 40 := fun z => n40 ((hte 40 (by decide)).mpr z)
        have n41 : tx p ≠ 41 := fun z => n41 ((hte 41 (by decide)).mpr z)
        have n124 : tx p ≠ 124 := fun z => n124 ((hte 124 (by decide)).mpr z)
        have n38 : tx p ≠ 38 := fun z => n38 ((hte 38 (by decide)).mpr z)
        refine ⟨_, k2.1, _, k2.1, 9, g, (tR tx p).1 2, mt_pa k2, ew, by omega, by decide, fun z => ?_, fun z => ?_⟩
        · -- nothing more can be met
          obtain ⟨hI', eo⟩ := cl_skip hI gp hlt hlen hk ⟨n40, n41, n124, n38⟩ z
          refine ⟨9, g, (tR tx p).1 2, mt_pa k2, ew, by omega, by decide, fun H3 u3 => ?_⟩
          rw [vn0, upd_id z] at u3
          exact ih (p + 1) f g w _ H3 (by omega) (by omega) hI' (by rw [ew, eo]) (mt_w7 k2 u3) (f2.trans (u3.fr' (by omega) (by omega)))
        · obtain ⟨h0, hR⟩ := cl_zero hI hlt hk ⟨n41, n124, n38⟩ z
          obtain ⟨-, g0⟩ := mt_0 hR
          rw [g0] at z
          have b2 := b2i_n0.mp z
          refine ⟨_, k2.1, _, t4 ▸ c_Mo_atom t.mt gd hw hx hlt h0 n40 k2, ?_⟩
          rintro _ H3 ⟨b, p', rfl, ⟨a1, a2, a3, a4, n, a5, a6, a7⟩, h3, f3⟩
          have hm := mt_atom (x := x) (k := n) (show (tR tx p).1 2 < 20 by omega) (by omega) hR
          rw [b2, Bool.true_and, ← a6] at hm
          have hI' : mtI tx len p' x f (upd g ((tR tx p).1 2) (b2i b)) := Or.inl ⟨Or.inr a3, by rw [a4, a7]; exact hm⟩
          refine ⟨fun hb => ?_, fun hb => ?_⟩
          · rw [b2i_0.mp hb] at hI'
            refine ⟨9, g, (tR tx p).1 2, mt_pa h3, ew, by omega, by decide, fun H4 u4 => ?_⟩
            rw [vn0] at u4
            exact ih p' f _ w _ H4 a2 (by omega) hI' (by rw [ew, a4]) (mt_w7 h3 u4) ((f2.trans f3).trans (u4.fr' (by omega) (by omega)))
          · rw [b2i_n0.mp hb] at hI'
            refine ⟨9, g, (tR tx p).1 2, mt_pa h3, ew, by omega, by decide, fun H4 u4 => ?_⟩
            rw [vn1] at u4
            exact ih p' f _ w _ H4 a2 (by omega) hI' (by rw [ew, a4]) (mt_w7 h3 u4) ((f2.trans f3).trans (u4.fr' (by omega) (by omega)))
      · -- or
        have e124 := (hte 124 (by decide)).mp i124
        obtain ⟨hE, hR, hb⟩ := cl_beh hI hlt hk (Or.inr (Or.inl e124))
        obtain ⟨s3, s2, -, sR⟩ := st_bar (P := (tR tx p).1) (T := (tR tx p).2) e124 h60
        have sR := sR x
        rw [← (st_beh (T := (tR tx p).2) (hE.b hlt)).1, ← tR_s] at s3 s2 sR
        obtain ⟨f0, g0⟩ := mt_0 hR
        have hm := mt_or (x := x) (show (tR tx p).1 2 < 20 by omega) hR
        have fin : ∀ (v : Int32) (H3 H4 : hAH), v = b2i (ib (gRn (tR tx p) x).1 0 || ib (gRn (tR tx p) x).2 0) → RMo K H3 m (pl c (p + 1) L) (mtB B (upd f ((tR tx p).1 2) v) g) → hFr m (m + 11) H0 H3 → hUpd H3 (m + 8) (hInts K 2 9 (upd g ((tR tx p).1 2) (vp_nar .boolean 1))) H4 → hJ K M_Mo_meets (0, 0) (meQ K H0 m c L B tx len x) 21 (0, 0) [some (.ref m), some (.int (nI x)), some (.int w), some (.int (B 3 p))] [] H4 := by
          intro v H3 H4 hv h3 f3 u4
          rw [vn1] at u4
          subst hv
          refine ih (p + 1) _ _ w _ H4 (by omega) (by omega) (Or.inl ⟨Or.inl s3, ?_⟩) (by rw [ew, s2]) (mt_w7 h3 u4) (f3.trans (u4.fr' (by omega) (by omega)))
          rw [s2, sR]
          exact hm
        refine ⟨_, k2.1, _, k2.1, 9, f, (tR tx p).1 2, mt_an k2, ew, by omega, by decide, fun z => ?_, fun z => ?_⟩
        · rw [f0] at z
          refine ⟨9, f, (tR tx p).1 2, mt_an k2, ew, by omega, by decide, fun H3 u3 => ?_⟩
          rw [vn1] at u3
          have h3 := mt_w6 k2 u3
          refine ⟨_, h3.1, 9, g, (tR tx p).1 2, mt_pa h3, ew, by omega, by decide, fun H4 u4 => ?_⟩
          exact fin 1 H3 H4 (by rw [b2i_n0.mp z, Bool.true_or]; rfl) h3 (f2.trans (u3.fr' (by omega) (by omega))) u4
        · rw [f0] at z
          refine ⟨_, k2.1, 9, g, (tR tx p).1 2, mt_pa k2, ew, by omega, by decide, fun z2 => ?_, fun z2 => ?_⟩
          · rw [g0] at z2
            refine ⟨9, f, (tR tx p).1 2, mt_an k2, ew, by omega, by decide, fun H3 u3 => ?_⟩
            rw [vn0] at u3
            have h3 := mt_w6 k2 u3
            refine ⟨_, h3.1, 9, g, (tR tx p).1 2, mt_pa h3, ew, by omega, by decide, fun H4 u4 => ?_⟩
            exact fin 0 H3 H4 (by rw [b2i_0.mp z, b2i_0.mp z2]; rfl) h3 (f2.trans (u3.fr' (by omega) (by omega))) u4
          · rw [g0] at z2
            refine ⟨9, f, (tR tx p).1 2, mt_an k2, ew, by omega, by decide, fun H3 u3 => ?_⟩
            rw [vn1] at u3
            have h3 := mt_w6 k2 u3
            refine ⟨_, h3.1, 9, g, (tR tx p).1 2, mt_pa h3, ew, by omega, by decide, fun H4 u4 => ?_⟩
            exact fin 1 H3 H4 (by rw [b2i_n0.mp z2, Bool.or_true]; rfl) h3 (f2.trans (u3.fr' (by omega) (by omega))) u4
      · -- a bracket closes
        have e41 := (hte 41 (by decide)).mp i41
        obtain ⟨hE, hR, hb⟩ := cl_beh hI hlt hk (Or.inl e41)
        have hpos : 0 < (tR tx p).1 2 := by
          unfold behOk at hb
          rw [if_pos e41] at hb
          exact of_decide_eq_true hb
        obtain ⟨s3, s2, -, sR⟩ := st_close (P := (tR tx p).1) (T := (tR tx p).2) e41 h60
        have sR := sR x
        rw [← (st_beh (T := (tR tx p).2) (hE.b hlt)).1, ← tR_s] at s3 s2 sR
        obtain ⟨o, eo⟩ : ∃ o, (tR tx p).1 2 = o + 1 := ⟨(tR tx p).1 2 - 1, by omega⟩
        rw [eo] at hR s2 ew
        rw [Nat.add_sub_cancel] at s2
        have ew1 : w + (-1) = nI o := by rw [ew]; exact pk_m1 o
        have ew2 : w + (-1) + 1 = nI (o + 1) := by rw [ew1, nI_1]
        obtain ⟨f0, g0⟩ := mt_0 hR
        have g1 : g o = b2i (ib (gRn (tR tx p) x).2 1) := by
          have := (hR o (by omega)).2
          rw [show o + 1 - o = 1 by omega] at this
          exact this
        have hm := mt_close (x := x) (show o < 20 by omega) hR
        have fin : ∀ (v : Int32) (H4 : hAH), v = b2i (ib (gRn (tR tx p) x).2 1 && (ib (gRn (tR tx p) x).1 0 || ib (gRn (tR tx p) x).2 0)) → hUpd H2 (m + 8) (hInts K 2 9 (upd g o v)) H4 → hJ K M_Mo_meets (0, 0) (meQ K H0 m c L B tx len x) 21 (0, 0) [some (.ref m), some (.int (nI x)), some (.int (w + (-1))), some (.int (B 3 p))] [] H4 := by
          intro v H4 hv u4
          subst hv
          refine ih (p + 1) _ _ _ _ H4 (by omega) (by omega) (Or.inl ⟨Or.inr (Or.inl s3), ?_⟩) (by rw [ew1, s2]) (mt_w7 k2 u4) (f2.trans (u4.fr' (by omega) (by omega)))
          rw [s2, sR]
          exact hm
        refine ⟨_, k2.1, _, k2.1, 9, g, o, mt_pa k2, ew1, by omega, by decide, fun z => ?_, fun z => ?_⟩
        · rw [g1] at z
          refine ⟨9, g, o, mt_pa k2, ew1, by omega, by decide, fun H4 u4 => ?_⟩
          rw [vn0] at u4
          exact fin 0 H4 (by rw [b2i_0.mp z]; rfl) u4
        · rw [g1] at z
          refine ⟨_, k2.1, 9, f, o + 1, mt_an k2, ew2, by omega, by decide, fun z2 => ?_, fun z2 => ?_⟩
          · rw [f0] at z2
            refine ⟨9, g, o, mt_pa k2, ew1, by omega, by decide, fun H4 u4 => ?_⟩
            rw [vn1] at u4
            exact fin 1 H4 (by rw [b2i_n0.mp z, b2i_n0.mp z2]; rfl) u4
          · rw [f0] at z2
            refine ⟨_, k2.1, 9, g, o + 1, mt_pa k2, ew2, by omega, by decide, fun z3 => ?_, fun z3 => ?_⟩
            · rw [g0] at z3
              refine ⟨9, g, o, mt_pa k2, ew1, by omega, by decide, fun H4 u4 => ?_⟩
              rw [vn0] at u4
              exact fin 0 H4 (by rw [b2i_n0.mp z, b2i_0.mp z2, b2i_0.mp z3]; rfl) u4
            · rw [g0] at z3
              refine ⟨9, g, o, mt_pa k2, ew1, by omega, by decide, fun H4 u4 => ?_⟩
              rw [vn1] at u4
              exact fin 1 H4 (by rw [b2i_n0.mp z, b2i_0.mp z2, b2i_n0.mp z3]; rfl) u4
      · -- a bracket opens
        have e40 := (hte 40 (by decide)).mp i40
        obtain ⟨h0, hR, h8⟩ := cl_open hI hlt hk e40
        obtain ⟨s3, s2, -, sR⟩ := st_open (P := (tR tx p).1) (T := (tR tx p).2) h0 e40 h60
        have sR := sR x
        rw [← tR_s] at s3 s2 sR
        have ew1 : w + 1 = nI ((tR tx p).1 2 + 1) := by rw [ew, nI_1]
        have hm := mt_open (x := x) (show (tR tx p).1 2 < 20 by omega) hR
        refine ⟨_, k2.1, 9, f, (tR tx p).1 2 + 1, mt_an k2, ew1, by omega, by decide, fun H3 u3 => ?_⟩
        rw [vn0] at u3
        have h3 := mt_w6 k2 u3
        refine ⟨_, h3.1, 9, g, (tR tx p).1 2 + 1, mt_pa h3, ew1, by omega, by decide, fun H4 u4 => ?_⟩
        rw [vn1] at u4
        refine ih (p + 1) _ _ _ _ H4 (by omega) (by omega) (Or.inl ⟨Or.inl s3, ?_⟩) (by rw [ew1, s2]) (mt_w7 h3 u4) ((f2.trans (u3.fr' (by omega) (by omega))).trans (u4.fr' (by omega) (by omega)))
        rw [s2, sR]
        exact hm
set_option maxRecDepth 100000 in
set_option maxHeartbeats 4000000 in
theorem c_Mo_meets {p0 : Nat} {f g : Nat → Int32} (t : tXo c B tx len) (gd : gdTo tx len) (hw : rdWhole (tR tx len).1 = true) (hx : x < 4096) (h : RMo K H m (pl c p0 L) (mtB B f g)) : hCT K M_Mo_meets [.ref m, .int (nI x)] H 0 0 (meQ K H m c L B tx len x) := by
  refine hCT.go (okc_Mo_meets K _ _) [21] 40 (by decide +kernel) rfl rfl ?_
  refine ⟨_, h.1, 9, f, 0, mt_an h, rfl, by decide, by decide, fun H1 u1 => ?_⟩
  rw [vn0] at u1
  have h1 := mt_w6 h u1
  refine ⟨_, h1.1, 9, g, 0, mt_pa h1, rfl, by decide, by decide, fun H2 u2 => ?_⟩
  rw [vn1] at u2
  have h2 := mt_w7 h1 u2
  refine ⟨_, h2.1, trivial, fun H3 u3 => ?_⟩
  have h3 : RMo K H3 m (pl c 0 L) (mtB B (upd f 0 0) (upd g 0 1)) := h2.sc u3 (by
    show moCell m (upd (pl c p0 L) 3 (nI 0)) = _
    rw [pl_p])
  refine l_meets (H0 := H) t gd hw hx (len + 1) 0 _ _ 0 _ H3 (Nat.zero_le _) (by omega) (Or.inl ⟨Or.inl rfl, ?_⟩) rfl h3 (((u1.fr' (by omega) (by omega)).trans (u2.fr' (by omega) (by omega))).trans (u3.fr' (by omega) (by omega)))
  intro j hj
  have hj : j ≤ 0 := hj
  obtain rfl : j = 0 := by omega
  have e0 : (tR tx 0).1 2 - 0 = 0 := rfl
  have e1 : gRn (tR tx 0) x = (0, 1) := rfl
  rw [upd_s, upd_s, e0, e1]
  exact ⟨by decide, by decide⟩
end TXE
