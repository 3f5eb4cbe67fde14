/-! THE LAW: its loop, and the whole of it -/
section LD
variable {K : hK} {B : Nat × Nat} {H : hAH} {a b L : Nat} {xs : Nat → Int32} {cu : hCu}
set_option maxRecDepth 100000 in
set_option maxHeartbeats 4000000 in
theorem l_La (hs : K.2.2.2.2.2 a = some (L, xs)) (hK1 : hSetK K) (hL : L ≤ 1536) : ∀ (d i : Nat) (w : Int32) (Y : hY) (H : hAH), i ≤ L + 3 → L + 3 < i + d → w = nI i → lwI K H b Y → hJ K M_La_law B lwQ 18 cu [some (.ref a), some (.ref b), some (.ref (b + 175)), some (.int w)] [] H := by
  intro d
  induction d with
  | zero => intro i w Y H h1 h2; omega
  | succ d ih =>
    intro i w Y H hi hd ew I
    refine hGo_sound (okc_La_law K _ _) [18, 822, 160, 193, 216, 249, 282, 331, 364, 387, 400, 423, 436, 461, 474, 487, 500, 513, 546, 579, 602, 625, 648, 661, 694, 707, 730, 753, 776, 799] 60 _ _ _ _ _ ?_
    refine ⟨L, Or.inr ⟨xs, hs⟩, fun z => ⟨Or.inr rfl, rfl⟩, fun z => ?_⟩
    have hi3 : i + 3 ≤ L := by
      refine Classical.byContradiction fun q => z ?_
      rw [ew]
      by_cases h3 : 3 ≤ L
      · rw [show (nI L - 3 : Int32) = nI (L - 3) from pk_sub (b := 3) h3]
        exact nI_lt (by omega) (by omega)
      · have h0 := nI_pos' (n := i) (by omega)
        have : nI L - 3 < 0 := pk_sneg (a := L) (b := 3) (by decide) (by omega)
        exact Int32.lt_of_lt_of_le this h0
    have back : ∀ H2 Y', lwI K H2 b Y' → hJ K M_La_law B lwQ 822 cu [some (.ref a), some (.ref b), some (.ref (b + 175)), some (.int w)] [] H2 := by
      intro H2 Y' I'
      refine hGo_sound (okc_La_law K _ _) [18] 20 _ _ _ _ _ ?_
      exact ih (i + 3) _ Y' H2 (by omega) (by omega) (by rw [ew]; exact nI_add i 3) I'
    refine ⟨L, xs, i, Or.inr hs, ew, by omega, by omega, ?_⟩
    exact ⟨fun _ => l_La_addGuest hs hL ew hi3 I back, fun _ => ⟨fun _ => l_La_setCondition hs hL ew hi3 I back, fun _ => ⟨fun _ => l_La_setLimit hs hL ew hi3 I back, fun _ => ⟨fun _ => l_La_setWeight hs hL ew hi3 I back, fun _ => ⟨fun _ => l_La_invite hs hL ew hi3 I back, fun _ => ⟨fun _ => l_La_set hs hL ew hi3 hK1 I back, fun _ => ⟨fun _ => l_La_pass hs hL ew hi3 I back, fun _ => ⟨fun _ => l_La_fix hs hL ew hi3 I back, fun _ => ⟨fun _ => l_La_cancel hs hL ew hi3 I back, fun _ => ⟨fun _ => l_La_dissolve hs hL ew hi3 I back, fun _ => ⟨fun _ => l_La_type hs hL ew hi3 I back, fun _ => ⟨fun _ => l_La_clearText hs hL ew hi3 I back, fun _ => ⟨fun _ => l_La_undo hs hL ew hi3 I back, fun _ => ⟨fun _ => l_La_keep hs hL ew hi3 I back, fun _ => ⟨fun _ => l_La_restore hs hL ew hi3 I back, fun _ => ⟨fun _ => l_La_guest hs hL ew hi3 I back, fun _ => ⟨fun _ => l_La_met hs hL ew hi3 I back, fun _ => ⟨fun _ => l_La_stable hs hL ew hi3 I back, fun _ => ⟨fun _ => l_La_fee hs hL ew hi3 I back, fun _ => ⟨fun _ => l_La_company hs hL ew hi3 I back, fun _ => ⟨fun _ => l_La_companies hs hL ew hi3 I back, fun _ => ⟨fun _ => l_La_why hs hL ew hi3 I back, fun _ => ⟨fun _ => l_La_rounds hs hL ew hi3 I back, fun _ => ⟨fun _ => l_La_needs hs hL ew hi3 I back, fun _ => ⟨fun _ => l_La_weightOf hs hL ew hi3 I back, fun _ => ⟨fun _ => l_La_leastLimit hs hL ew hi3 I back, fun _ => ⟨fun _ => l_La_seat hs hL ew hi3 I back, fun _ => ⟨fun _ => l_La_count hs hL ew hi3 I back, fun _ => back H Y I⟩⟩⟩⟩⟩⟩⟩⟩⟩⟩⟩⟩⟩⟩⟩⟩⟩⟩⟩⟩⟩⟩⟩⟩⟩⟩⟩⟩
set_option maxRecDepth 100000 in
set_option maxHeartbeats 4000000 in
theorem l_body (hs : K.2.2.2.2.2 a = some (L, xs)) (hF : hSetF K) (hK1 : hSetK K) (hL : L ≤ 1536) : hJ K M_La_law (600000, 7302250) lwQ 0 (0, 0) (hEnt [.ref a] 4) [] H := by
  rcases H with ⟨b, hf⟩
  refine hGo_sound (okc_La_law K _ _) [18] 60 _ _ _ _ _ ?_
  refine ⟨by decide, by decide, fun H1 n1 => ?_⟩
  have z1 : H1.1 = b + 1 := n1.1
  refine ⟨174, 5416, _, c_Pa_init hF n1.2.1 z1, by decide, by decide, ?_⟩
  rintro _ H2 ⟨rfl, cp, e2⟩
  rcases H2 with ⟨k2, g2⟩
  obtain rfl : k2 = b + 175 := e2.1
  refine ⟨by decide, by decide, fun H3 n3 => ?_⟩
  have z3 : H3.1 = b + 175 + 1 := n3.1
  refine ⟨10, 10017, _, c_Mo_init (m := b + 175) n3.2.1 z3, by decide, by decide, ?_⟩
  rintro _ H4 ⟨rfl, mp, e4⟩
  have f24 : hFr (b + 175) (b + 175 + 11) (b + 175, g2) (b + 175, H4.2) := by
    refine ⟨rfl, fun q hq => ?_⟩
    have hne : q ≠ b + 175 := by omega
    exact (e4.2 q hq).trans (n3.2.2 q hne)
  have cp3 : CP K (b + 175, H4.2) b Y0 := cp.fr f24 (Or.inr (Nat.le_refl _))
  have cp4 : CP K H4 b Y0 := cp3
  exact l_La hs hK1 hL (L + 4) 0 _ Y0 H4 (Nat.zero_le _) (by omega) rfl ⟨cp4, mp, YOk.zero⟩
end LD
