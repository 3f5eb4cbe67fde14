/-! THE REFERENCE: a guest's condition out of the text -/
theorem shl_1' : ∀ k, k < 32 → (1 : Int32) <<< (nI k &&& 31) = nI (2 ^ k) := by decide +kernel
theorem part_pow {x n : Nat} : subB x (2 ^ n - 1) = true ↔ x < 2 ^ n := by
  unfold subB
  rw [Nat.and_two_pow_sub_one_eq_mod]
  constructor
  · intro h
    have := of_decide_eq_true h
    rw [← this]
    exact Nat.mod_lt _ (Nat.two_pow_pos n)
  · intro h
    exact decide_eq_true (Nat.mod_eq_of_lt h)
/-- those of p below i -/
def pTo (p : Nat → Bool) (i : Nat) : Nat → Bool := fun s => decide (s < i) && p s
theorem bw_n {p : Nat → Bool} {i q : Nat} (h : q ≠ i / 32) : bitsW (pTo p i) q = bitsW (pTo p (i + 1)) q := by
  unfold bitsW
  congr 1
  refine setOf_cong fun b hb => ?_
  unfold pTo
  rw [decide_eq_decide.mpr (show 32 * q + b < i ↔ 32 * q + b < i + 1 by omega)]
theorem bw_s {p : Nat → Bool} {i : Nat} : bitsW (pTo p i) (i / 32) ||| (if p i = true then (1 : Int32) <<< (nI (i % 32) &&& 31) else 0) = bitsW (pTo p (i + 1)) (i / 32) := by
  unfold bitsW
  cases hp : p i
  · rw [if_neg (by decide), show (0 : Int32) = nI 0 from rfl, nI_or, Nat.or_zero]
    congr 1
    refine setOf_cong fun b hb => ?_
    unfold pTo
    by_cases e : 32 * (i / 32) + b = i
    · rw [e, hp, Bool.and_false, Bool.and_false]
    · rw [decide_eq_decide.mpr (show 32 * (i / 32) + b < i ↔ 32 * (i / 32) + b < i + 1 by omega)]
  · rw [if_pos rfl, shl_1' _ (Nat.mod_lt _ (by decide)), nI_or]
    congr 1
    refine Nat.eq_of_testBit_eq fun b => ?_
    rw [Nat.testBit_or, setOf_bit, setOf_bit, Nat.testBit_two_pow]
    unfold pTo
    by_cases hb : b < 32
    · by_cases e : 32 * (i / 32) + b = i
      · rw [e, hp, decide_eq_true hb, decide_eq_true (show i % 32 = b by omega), decide_eq_true (Nat.lt_succ_self i)]
        simp
      · rw [decide_eq_decide.mpr (show 32 * (i / 32) + b < i ↔ 32 * (i / 32) + b < i + 1 by omega), decide_eq_false (show ¬ i % 32 = b by omega), Bool.or_false]
    · have hm := Nat.mod_lt i (show 0 < 32 by decide)
      rw [decide_eq_false hb, decide_eq_false (show ¬ i % 32 = b by omega)]
      rfl
theorem cnd_w {V : Nat → Int32} {k L q : Nat} {p : Nat → Bool} (hk : k < 12) (hq : q < 128) : cndV V k L p (111 + 128 * k + q) = bitsW p q := by
  unfold cndV
  rw [if_neg (by omega), if_pos (by omega), Nat.add_sub_cancel_left]
theorem cnd_s {V : Nat → Int32} {k L i : Nat} {p : Nat → Bool} (hk : k < 12) (hi : i < 4096) : upd (cndV V k L (pTo p i)) (111 + 128 * k + i / 32) (cndV V k L (pTo p i) (111 + 128 * k + i / 32) ||| (if p i = true then (1 : Int32) <<< (nI (i % 32) &&& 31) else 0)) = cndV V k L (pTo p (i + 1)) := by
  funext j
  by_cases e : j = 111 + 128 * k + i / 32
  · have hq : i / 32 < 128 := Nat.div_lt_of_lt_mul (by omega)
    rw [e, upd_s, cnd_w hk hq, cnd_w hk hq]
    exact bw_s
  · rw [upd_n e]
    unfold cndV
    by_cases e1 : j = 19 + 8 * k
    · rw [if_pos e1, if_pos e1]
    · rw [if_neg e1, if_neg e1]
      by_cases e2 : 111 + 128 * k ≤ j ∧ j < 239 + 128 * k
      · rw [if_pos e2, if_pos e2]
        exact bw_n (by omega)
      · rw [if_neg e2, if_neg e2]
theorem cnd_all {V : Nat → Int32} {k L : Nat} {p : Nat → Bool} : cndV V k L (pTo p 4096) = cndV V k L p := by
  funext j
  unfold cndV
  by_cases e1 : j = 19 + 8 * k
  · rw [if_pos e1, if_pos e1]
  · rw [if_neg e1, if_neg e1]
    by_cases e2 : 111 + 128 * k ≤ j ∧ j < 239 + 128 * k
    · rw [if_pos e2, if_pos e2]
      unfold bitsW
      congr 1
      refine setOf_cong fun b hb => ?_
      unfold pTo
      rw [decide_eq_true (by omega)]
      rfl
    · rw [if_neg e2, if_neg e2]
/-- the first words are 0 -/
def zrI (V : Nat → Int32) (k i : Nat) : Nat → Int32 := fun j => if 111 + 128 * k ≤ j ∧ j < 111 + 128 * k + i then 0 else V j
theorem zrI_0 (V : Nat → Int32) (k : Nat) : zrI V k 0 = V := funext fun j => if_neg (fun q => by omega)
theorem zrI_s (V : Nat → Int32) (k i : Nat) : upd (zrI V k i) (111 + 128 * k + i) 0 = zrI V k (i + 1) := by
  funext j
  by_cases e : j = 111 + 128 * k + i
  · rw [e, upd_s]
    exact (if_pos (by omega)).symm
  · rw [upd_n e]
    unfold zrI
    by_cases h : 111 + 128 * k ≤ j ∧ j < 111 + 128 * k + i
    · rw [if_pos h, if_pos (by omega)]
    · rw [if_neg h, if_neg (by omega)]
theorem zrI_c {V : Nat → Int32} {k L : Nat} {p : Nat → Bool} (hk : k < 12) : zrI (upd V (15 + 8 * k + 4) (nI L)) k 128 = cndV V k L (pTo p 0) := by
  have z : ∀ q, bitsW (pTo p 0) q = 0 := fun q => by
    unfold bitsW
    have : setOf (fun j => pTo p 0 (32 * q + j)) 32 = 0 := by
      refine Nat.eq_of_testBit_eq fun b => ?_
      rw [setOf_bit, Nat.zero_testBit]
      unfold pTo
      rw [decide_eq_false (Nat.not_lt_zero _)]
      simp
    rw [this]
    rfl
  funext j
  unfold zrI cndV
  by_cases e1 : j = 19 + 8 * k
  · rw [if_neg (by omega), if_pos e1, show j = 15 + 8 * k + 4 by omega, upd_s]
  · rw [if_neg e1]
    by_cases e2 : 111 + 128 * k ≤ j ∧ j < 239 + 128 * k
    · rw [if_pos (by omega), if_pos e2, z]
    · rw [if_neg (by omega), if_neg e2, upd_n (by omega)]
section TXF
variable {K : hK} {H : hAH} {m len L : Nat} {c : Nat → Int32} {B : Nat → Nat → Int32} {tx : Nat → Nat} {Y : hY}
theorem mtB_0 {r r' f g : Nat → Int32} : upB (mtB (upB B 0 r) f g) 0 r' = mtB (upB B 0 r') f g := by
  funext i
  unfold mtB upB
  by_cases e : i = 0
  · rw [if_pos e, if_neg (by omega), if_neg (by omega), if_pos e]
  · rw [if_neg e, if_neg e, if_neg e]
theorem mt_v {p : Nat} {r f g : Nat → Int32} (h : RMo K H m (pl c p L) (mtB (upB B 0 r) f g)) : H.2 (m + 1) = some (hInts K 0 1647 r) := h.v
theorem mt_wv {H' : hAH} {p : Nat} {r r' f g : Nat → Int32} (h : RMo K H m (pl c p L) (mtB (upB B 0 r) f g)) (u : hUpd H (m + 1) (hInts K 0 1647 r') H') : RMo K H' m (pl c p L) (mtB (upB B 0 r') f g) := by
  have := h.wv u
  rw [mtB_0] at this
  exact this
set_option maxRecDepth 100000 in
set_option maxHeartbeats 4000000 in
theorem l_scZ {Q : hPost} {H0 : hAH} {V : Nat → Int32} {k : Nat} (hk : k < 12) {w2 w3 : Int32} (e3 : w3 = nI (111 + 128 * k)) (hend : ∀ g H1, RMo K H1 m c (upB B 0 (zrI V k 128)) → hFr m (m + 11) H0 H1 → hJ K M_Mo_setCondition (0, 0) Q 105 (0, 0) [some (.ref m), some (.int (nI k)), some (.int w2), some (.int w3), some (.int g)] [] H1) : ∀ (d i : Nat) (g : Int32) (H1 : hAH), i + d = 128 → g = nI i → RMo K H1 m c (upB B 0 (zrI V k i)) → hFr m (m + 11) H0 H1 → hJ K M_Mo_setCondition (0, 0) Q 81 (0, 0) [some (.ref m), some (.int (nI k)), some (.int w2), some (.int w3), some (.int g)] [] H1 := by
  intro d
  induction d with
  | zero =>
    intro i g H1 hi hg h f
    obtain rfl : i = 128 := by omega
    refine hGo_sound (okc_Mo_setCondition K _ _) [81, 105] 60 _ _ _ _ _ ?_
    exact ⟨fun _ => hend g H1 h f, fun q => absurd (by rw [hg]; exact nI_le (a := 128) (by omega) (by omega)) q⟩
  | succ d ih =>
    intro i g H1 hi hg h f
    have hix : w3 + g = nI (111 + 128 * k + i) := by rw [hg, e3, nI_add]
    refine hGo_sound (okc_Mo_setCondition K _ _) [81, 105] 60 _ _ _ _ _ ?_
    refine ⟨fun q => absurd (by rw [hg] at q; exact q) (nI_ge (b := 128) (by omega) (by omega)), fun _ => ⟨_, h.1, 1647, _, 111 + 128 * k + i, h.v, hix, by omega, by decide, fun H2 u2 => ?_⟩⟩
    have h2 := h.wv u2
    rw [upB_u, upB_s, zrI_s] at h2
    exact ih (i + 1) _ H2 (by omega) (by rw [hg, nI_1]) h2 (f.trans (u2.fr' (by omega) (by omega)))
set_option maxRecDepth 100000 in
set_option maxHeartbeats 4000000 in
theorem l_scS {Q : hPost} {H0 : hAH} {V : Nat → Int32} {k : Nat} (t : tXo c B tx len) (gd : gdTo tx len) (hw : rdWhole (tR tx len).1 = true) (hk : k < 12) {w2 w3 : Int32} (e3 : w3 = nI (111 + 128 * k)) (hend : ∀ p f g w H1, RMo K H1 m (pl c p L) (mtB (upB B 0 (cndV V k L (tM tx len))) f g) → hFr m (m + 11) H0 H1 → hJ K M_Mo_setCondition (0, 0) Q 157 (0, 0) [some (.ref m), some (.int (nI k)), some (.int w2), some (.int w3), some (.int w)] [] H1) : ∀ (d i p : Nat) (f g : Nat → Int32) (w : Int32) (H1 : hAH), i + d = 4096 → w = nI i → RMo K H1 m (pl c p L) (mtB (upB B 0 (cndV V k L (pTo (tM tx len) i))) f g) → hFr m (m + 11) H0 H1 → hJ K M_Mo_setCondition (0, 0) Q 108 (0, 0) [some (.ref m), some (.int (nI k)), some (.int w2), some (.int w3), some (.int w)] [] H1 := by
  intro d
  induction d with
  | zero =>
    intro i p f g w H1 hi ew h fr
    obtain rfl : i = 4096 := by omega
    rw [cnd_all] at h
    refine hGo_sound (okc_Mo_setCondition K _ _) [108, 157] 60 _ _ _ _ _ ?_
    exact ⟨fun _ => hend p f g w H1 h fr, fun q => absurd (by rw [ew]; exact nI_le (a := 4096) (by omega) (by omega)) q⟩
  | succ d ih =>
    intro i p f g w H1 hi ew h fr
    have hi' : i < 4096 := by omega
    have hi32 : i / 32 < 128 := Nat.div_lt_of_lt_mul (by omega)
    have hix : w3 + w / 32 = nI (111 + 128 * k + i / 32) := by
      rw [ew, e3]
      show nI (111 + 128 * k) + nI i / nI 32 = _
      rw [pk_div (by omega) (by decide) (by decide), nI_add]
    have er : w - w / 32 * 32 = nI (i % 32) := by
      rw [ew]
      exact pk_rem (d := 32) (by omega) (by decide) (by decide)
    have t' : tXo c (upB B 0 (cndV V k L (pTo (tM tx len) i))) tx len := t
    refine hGo_sound (okc_Mo_setCondition K _ _) [108, 157] 80 _ _ _ _ _ ?_
    refine ⟨fun q => absurd (by rw [ew] at q; exact q) (nI_ge (b := 4096) (by omega) (by omega)), fun _ => ⟨_, h.1, by decide, 1647, _, _, Or.inl (mt_v h), hix, by omega, by decide, _, h.1, _, ew ▸ c_Mo_meets t' gd hw hi' h, ?_⟩⟩
    rintro _ H2 ⟨rfl, ⟨p2, f2, g2, h2⟩, fr2⟩
    have hs := cnd_s (V := V) (L := L) (p := tM tx len) hk hi'
    refine ⟨fun hb => ?_, fun hb => ?_⟩
    · rw [b2i_0.mp hb, if_neg (by decide)] at hs
      refine ⟨1647, _, _, mt_v h2, hix, by omega, by decide, fun H3 u3 => ?_⟩
      have h3 := mt_wv h2 u3
      rw [hs] at h3
      exact ih (i + 1) p2 f2 g2 _ H3 (by omega) (by rw [ew, nI_1]) h3 ((fr.trans fr2).trans (u3.fr' (by omega) (by omega)))
    · rw [b2i_n0.mp hb, if_pos rfl] at hs
      refine ⟨by decide, 1647, _, _, mt_v h2, hix, by omega, by decide, fun H3 u3 => ?_⟩
      have h3 := mt_wv h2 u3
      rw [er, hs] at h3
      exact ih (i + 1) p2 f2 g2 _ H3 (by omega) (by rw [ew, nI_1]) h3 ((fr.trans fr2).trans (u3.fr' (by omega) (by omega)))
/-- a fault is a place -/
theorem rdF_ge {tx : Nat → Nat} {len : Nat} (hl : len ≤ 60) : ∀ m p, p + m = len → rdFault tx (fun _ => 0) (fun _ => 0) len m p = -1 ∨ ¬ rdFault tx (fun _ => 0) (fun _ => 0) len m p < 0
  | 0, p, hp => by
    show (if rdWhole (rdRun tx (fun _ => 0) (fun _ => 0) len).1 then (-1 : Int32) else nI len) = -1 ∨ ¬ (if rdWhole (rdRun tx (fun _ => 0) (fun _ => 0) len).1 then (-1 : Int32) else nI len) < 0
    split
    · exact Or.inl rfl
    · exact Or.inr (nI_pos (by omega))
  | m + 1, p, hp => by
    show (if rdOk (rdRun tx (fun _ => 0) (fun _ => 0) p).1 (tx p) then rdFault tx (fun _ => 0) (fun _ => 0) len m (p + 1) else nI p) = -1 ∨ ¬ (if rdOk (rdRun tx (fun _ => 0) (fun _ => 0) p).1 (tx p) then rdFault tx (fun _ => 0) (fun _ => 0) len m (p + 1) else nI p) < 0
    split
    · exact rdF_ge hl m (p + 1) (by omega)
    · exact Or.inr (nI_pos (by omega))
theorem tF_ge {tx : Nat → Nat} {len : Nat} (h : ¬ tF tx len = -1) (hl : len ≤ 60 := by assumption) : ¬ tF tx len < 0 := (rdF_ge hl len 0 (Nat.zero_add _)).resolve_left h
theorem pl_o {c : Nat → Int32} {p L j : Nat} (h : j ≠ 3 ∧ j ≠ 4) : pl c p L j = c j := by
  unfold pl
  rw [upd_n h.2, upd_n h.1]
theorem MPr.mt {p : Nat} {f g : Nat → Int32} (h : MPr c B Y) : MPr (pl c p L) (mtB B f g) Y := h
set_option maxRecDepth 100000 in
set_option maxHeartbeats 4000000 in
theorem c_Mo_setCondition (h : RMo K H m c B) (hp : MPr c B Y) (hY : YOk Y) (g : Int32) : hCT K M_Mo_setCondition [.ref m, .int g] H 0 0 (mPost K m H (sp_setCondition Y g)) := by
  have wf := hY.1
  have hV : B 0 = Y.1 := hp.1
  have hn := wf.1.2
  have hn2 := two12 hn
  have hlen := hY.2.2.2.2.2.1
  have t : tXo c B Y.2.2.2.2.2.2 Y.2.2.2.2.2.1 := ⟨hp.2.2.2.2.2.1, hlen, fun j hj => ⟨hp.2.2.2.2.2.2.1 j hj, hY.2.2.2.2.2.2 j hj⟩⟩
  refine hCT.go (okc_Mo_setCondition K _ _) [81] 90 (by decide +kernel) rfl rfl ?_
  refine ⟨_, h.1, _, c_Mo_isGuest h g, ?_⟩
  rintro _ H ⟨rfl, rfl⟩
  rw [hV]
  refine ⟨fun hq => ?_, fun hq => ?_⟩
  · have hg := of_decide_eq_true (b2i_n0.mp hq)
    obtain ⟨k, hk, rfl⟩ := (gOk_iff wf).mp hg
    have ek : clp (nI k) = k := clp_nI (by omega)
    refine ⟨_, h.1, _, c_Mo_fault h t, ?_⟩
    rintro _ H1 ⟨rfl, ⟨p', L', h1, hL'⟩, f1⟩
    by_cases hF : tF Y.2.2.2.2.2.2 Y.2.2.2.2.2.1 = -1
    · rw [hF]
      refine ⟨fun _ => ?_, fun q => absurd (by decide) q⟩
      obtain ⟨gd, hw⟩ := tF_ok hlen hF
      have eL := hL' hF
      subst eL
      have hL : tL Y.2.2.2.2.2.2 Y.2.2.2.2.2.1 < 4096 := gd.inv.2.1
      generalize eLL : tL Y.2.2.2.2.2.2 Y.2.2.2.2.2.1 = L at h1 hL
      have hp1 : MPr (pl c p' L) B Y := hp
      refine ⟨_, h1.1, _, h1.1, _, c_Mo_all h1 (by rw [hV]; exact wf.1.1) hn, ?_⟩
      rintro _ H1 ⟨rfl, rfl⟩
      rw [pl_4]
      have hall : nI L &&& (nI (2 ^ vN Y.1 - 1) ^^^ (-1)) = 0 ↔ L < 2 ^ vN Y.1 := (part_iff hL (by omega)).trans part_pow
      refine ⟨fun hz => ?_, fun hz => ?_⟩
      · have hz := hall.mp hz
        refine ⟨_, h1.1, _, c_Mo_isFixed h1, ?_⟩
        rintro _ H1 ⟨rfl, rfl⟩
        rw [hV]
        refine ⟨fun hx => ?_, fun hx => ?_⟩
        · have h71 := of_decide_eq_false (b2i_0.mp hx)
          refine ⟨_, h1.1, _, c_Mo_record h1 hp1 hY, ?_⟩
          rintro _ H2 ⟨rfl, ⟨v, f, h', hp'⟩, f2⟩
          have ev : upB B 1 f 0 = Y.1 := hV
          have e3 : upd (pl c p' L) 0 v 3 = nI p' := pl_3 (c := c) (L := L)
          have e4 : upd (pl c p' L) 0 v 4 = nI L := pl_4 (c := c) (p := p')
          generalize ec : upd (pl c p' L) 0 v = c2 at h' hp' e3 e4
          generalize eB : upB B 1 f = B2 at h' hp' ev
          have t2 : tXo c2 B2 Y.2.2.2.2.2.2 Y.2.2.2.2.2.1 := ⟨hp'.2.2.2.2.2.1, hlen, fun j hj => ⟨hp'.2.2.2.2.2.2.1 j hj, hY.2.2.2.2.2.2 j hj⟩⟩
          refine ⟨_, h'.1, _, c_Mo_at K H2 k 4, ?_⟩
          rintro _ H2 ⟨rfl, rfl⟩
          refine ⟨_, h'.1, 1647, _, _, h'.v, rfl, by omega, by decide, fun H3 u3 => ?_⟩
          have h3 := h'.wv u3
          rw [ev, e4] at h3
          have e111 : (111 : Int32) + 128 * nI k = nI (111 + 128 * k) := by
            show nI 111 + nI 128 * nI k = _
            rw [pk_mul, nI_add]
          refine l_scZ (H0 := H) (V := upd Y.1 (15 + 8 * k + 4) (nI L)) (k := k) (by omega) e111 (fun g4 H4 h4 f4 => ?_) 128 0 _ H3 (by decide) rfl (by rw [zrI_0]; exact h3) ((f1.trans f2).trans (u3.fr' (by omega) (by omega)))
          refine hGo_sound (okc_Mo_setCondition K _ _) [108] 40 _ _ _ _ _ ?_
          rw [zrI_c (p := tM Y.2.2.2.2.2.2 Y.2.2.2.2.2.1) (by omega)] at h4
          have h4' : RMo K H4 m (pl c2 p' L) (mtB (upB B2 0 (cndV Y.1 k L (pTo (tM Y.2.2.2.2.2.2 Y.2.2.2.2.2.1) 0))) (B2 6) (B2 7)) := by
            have eb : mtB (upB B2 0 (cndV Y.1 k L (pTo (tM Y.2.2.2.2.2.2 Y.2.2.2.2.2.1) 0))) (B2 6) (B2 7) = upB B2 0 (cndV Y.1 k L (pTo (tM Y.2.2.2.2.2.2 Y.2.2.2.2.2.1) 0)) := by
              funext i
              unfold mtB upB
              by_cases e7 : i = 7
              · rw [if_pos e7, if_neg (by omega), e7]
              · rw [if_neg e7]
                by_cases e6 : i = 6
                · rw [if_pos e6, if_neg (by omega), e6]
                · rw [if_neg e6]
            rw [eb, pl_i e3 e4]
            exact h4
          refine l_scS (H0 := H) t2 gd hw (by omega) e111 (fun p5 f5 g5 w5 H5 h5 fr5 => ?_) 4096 0 p' _ _ _ H4 (by decide) rfl h4' f4
          refine hGo_sound (okc_Mo_setCondition K _ _) [] 60 _ _ _ _ _ ?_
          refine ⟨_, h5.1, _, c_Mo_charges h5 (k := k) (by omega), ?_⟩
          rintro _ H6 ⟨rfl, h6, f6⟩
          have ev6 : mtB (upB B2 0 (cndV Y.1 k L (tM Y.2.2.2.2.2.2 Y.2.2.2.2.2.1))) f5 g5 0 = cndV Y.1 k L (tM Y.2.2.2.2.2.2 Y.2.2.2.2.2.1) := rfl
          rw [ev6, mtB_0] at h6
          have e9 : chgV (cndV Y.1 k L (tM Y.2.2.2.2.2.2 Y.2.2.2.2.2.1)) k (15 + 8 * k + 4) = nI L := by
            have : cndV Y.1 k L (tM Y.2.2.2.2.2.2 Y.2.2.2.2.2.1) (15 + 8 * k + 4) = nI L := if_pos (by omega)
            unfold chgV
            split
            · rw [upd_n (by omega)]
              exact this
            · exact this
          refine ⟨_, h6.1, _, c_Mo_at K H6 k 4, ?_⟩
          rintro _ H6 ⟨rfl, rfl⟩
          refine ⟨1647, _, _, Or.inl (mt_v h6), rfl, by omega, by decide, ?_⟩
          rw [e9]
          refine ⟨_, c_Mo_ones K H6 hL, ?_⟩
          rintro _ H6 ⟨rfl, rfl⟩
          refine ⟨trivial, mA h6 (Y2 := yAct Y (chgV (cndV Y.1 k L (tM Y.2.2.2.2.2.2 Y.2.2.2.2.2.1)) k)) ⟨rfl, hp'.2⟩ (fr5.trans f6) ?_ hYeq.rfl⟩
          rw [sp_setCondition, if_neg (fun q => q hg), if_neg (fun q => q hF), if_neg (fun q => q (by rw [eLL]; exact hz)), if_neg h71, ek, eLL]
        · have h71 := of_decide_eq_true (b2i_n0.mp hx)
          exact ⟨trivial, mA h1 hp1 f1 (by rw [sp_setCondition, if_neg (fun q => q hg), if_neg (fun q => q hF), if_neg (fun q => q (by rw [eLL]; exact hz)), if_pos h71]) hYeq.rfl⟩
      · have hz : ¬ L < 2 ^ vN Y.1 := fun q => hz (hall.mpr q)
        exact ⟨trivial, mA h1 hp1 f1 (by rw [sp_setCondition, if_neg (fun q => q hg), if_neg (fun q => q hF), if_pos (fun q => hz (by rw [← eLL]; exact q))]) hYeq.rfl⟩
    · have hp1 : MPr (pl c p' L') B Y := hp
      have hge : ¬ tF Y.2.2.2.2.2.2 Y.2.2.2.2.2.1 < 0 := tF_ge hF
      refine ⟨fun q => absurd q hge, fun _ => ⟨trivial, mA h1 hp1 f1 (by rw [sp_setCondition, if_neg (fun q => q hg), if_pos hF]) hYeq.rfl⟩⟩
  · have hg := of_decide_eq_false (b2i_0.mp hq)
    exact ⟨trivial, mN h hp (by rw [sp_setCondition, if_pos hg])⟩
end TXF
