/-! THE LAW: each call of both -/
def lwQ : hPost := fun r _ => r = some (.int 1)
section LC
variable {K : hK} {B : Nat × Nat} {Q : hPost} {H : hAH} {a b L i : Nat} {w : Int32} {xs : Nat → Int32} {Y : hY} {cu : hCu}
set_option maxRecDepth 100000 in
set_option maxHeartbeats 4000000 in
theorem l_La_addGuest (hs : K.2.2.2.2.2 a = some (L, xs)) (hL : L ≤ 1536) (ei : w = nI i) (hi : i + 3 ≤ L) (I : lwI K H b Y) (hend : ∀ H2 Y', lwI K H2 b Y' → hJ K M_La_law B Q 822 cu [some (.ref a), some (.ref b), some (.ref (b + 175)), some (.int w)] [] H2) : hJ K M_La_law B Q 160 cu [some (.ref a), some (.ref b), some (.ref (b + 175)), some (.int w)] [] H := by
  have e1 : w + 1 = nI (i + 1) := by rw [ei, nI_1]
  have e2 : w + 2 = nI (i + 2) := by rw [ei]; exact nI_add i 2
  obtain ⟨⟨S, N, π, D, C, P, T, lr, Z, h⟩, mp, ok⟩ := I
  refine hGo_sound (okc_La_law K _ _) [18, 822] 60 _ _ _ _ _ ?_
  refine ⟨L, xs, i + 1, Or.inr hs, e1, by omega, by omega, L, xs, i + 2, Or.inr hs, e2, by omega, by omega, _, h.1, _, c_addGuest h ok (xs (i + 1)) (xs (i + 2)), ?_⟩
  rintro _ H1 ⟨rfl, cp1, f1⟩
  obtain ⟨c, B1, hr, hp⟩ := mp.fr f1 (Or.inl (Nat.le_refl _))
  refine ⟨L, xs, i + 1, Or.inr hs, e1, by omega, by omega, L, xs, i + 2, Or.inr hs, e2, by omega, by omega, _, hr.1, _, c_Mo_addGuest hr hp ok (xs (i + 1)) (xs (i + 2)), ?_⟩
  rintro _ H2 ⟨rfl, q, f2⟩
  refine ⟨fun _ => ?_, fun z => absurd rfl z⟩
  obtain ⟨Y', I'⟩ := lwI.next (ok_addGuest ok (xs (i + 1)) (xs (i + 2))) cp1 q f2
  exact hend H2 Y' I'
set_option maxRecDepth 100000 in
set_option maxHeartbeats 4000000 in
theorem l_La_setCondition (hs : K.2.2.2.2.2 a = some (L, xs)) (hL : L ≤ 1536) (ei : w = nI i) (hi : i + 3 ≤ L) (I : lwI K H b Y) (hend : ∀ H2 Y', lwI K H2 b Y' → hJ K M_La_law B Q 822 cu [some (.ref a), some (.ref b), some (.ref (b + 175)), some (.int w)] [] H2) : hJ K M_La_law B Q 193 cu [some (.ref a), some (.ref b), some (.ref (b + 175)), some (.int w)] [] H := by
  have e1 : w + 1 = nI (i + 1) := by rw [ei, nI_1]
  have e2 : w + 2 = nI (i + 2) := by rw [ei]; exact nI_add i 2
  obtain ⟨⟨S, N, π, D, C, P, T, lr, Z, h⟩, mp, ok⟩ := I
  refine hGo_sound (okc_La_law K _ _) [18, 822] 60 _ _ _ _ _ ?_
  refine ⟨L, xs, i + 1, Or.inr hs, e1, by omega, by omega, _, h.1, _, c_setCondition h ok (xs (i + 1)), ?_⟩
  rintro _ H1 ⟨rfl, cp1, f1⟩
  obtain ⟨c, B1, hr, hp⟩ := mp.fr f1 (Or.inl (Nat.le_refl _))
  refine ⟨L, xs, i + 1, Or.inr hs, e1, by omega, by omega, _, hr.1, _, c_Mo_setCondition hr hp ok (xs (i + 1)), ?_⟩
  rintro _ H2 ⟨rfl, q, f2⟩
  refine ⟨fun _ => ?_, fun z => absurd rfl z⟩
  obtain ⟨Y', I'⟩ := lwI.next (ok_setCondition ok (xs (i + 1))) cp1 q f2
  exact hend H2 Y' I'
set_option maxRecDepth 100000 in
set_option maxHeartbeats 4000000 in
theorem l_La_setLimit (hs : K.2.2.2.2.2 a = some (L, xs)) (hL : L ≤ 1536) (ei : w = nI i) (hi : i + 3 ≤ L) (I : lwI K H b Y) (hend : ∀ H2 Y', lwI K H2 b Y' → hJ K M_La_law B Q 822 cu [some (.ref a), some (.ref b), some (.ref (b + 175)), some (.int w)] [] H2) : hJ K M_La_law B Q 216 cu [some (.ref a), some (.ref b), some (.ref (b + 175)), some (.int w)] [] H := by
  have e1 : w + 1 = nI (i + 1) := by rw [ei, nI_1]
  have e2 : w + 2 = nI (i + 2) := by rw [ei]; exact nI_add i 2
  obtain ⟨⟨S, N, π, D, C, P, T, lr, Z, h⟩, mp, ok⟩ := I
  refine hGo_sound (okc_La_law K _ _) [18, 822] 60 _ _ _ _ _ ?_
  refine ⟨L, xs, i + 1, Or.inr hs, e1, by omega, by omega, L, xs, i + 2, Or.inr hs, e2, by omega, by omega, _, h.1, _, c_setLimit h ok (xs (i + 1)) (xs (i + 2)), ?_⟩
  rintro _ H1 ⟨rfl, cp1, f1⟩
  obtain ⟨c, B1, hr, hp⟩ := mp.fr f1 (Or.inl (Nat.le_refl _))
  refine ⟨L, xs, i + 1, Or.inr hs, e1, by omega, by omega, L, xs, i + 2, Or.inr hs, e2, by omega, by omega, _, hr.1, _, c_Mo_setLimit hr hp ok (xs (i + 1)) (xs (i + 2)), ?_⟩
  rintro _ H2 ⟨rfl, q, f2⟩
  refine ⟨fun _ => ?_, fun z => absurd rfl z⟩
  obtain ⟨Y', I'⟩ := lwI.next (ok_setLimit ok (xs (i + 1)) (xs (i + 2))) cp1 q f2
  exact hend H2 Y' I'
set_option maxRecDepth 100000 in
set_option maxHeartbeats 4000000 in
theorem l_La_setWeight (hs : K.2.2.2.2.2 a = some (L, xs)) (hL : L ≤ 1536) (ei : w = nI i) (hi : i + 3 ≤ L) (I : lwI K H b Y) (hend : ∀ H2 Y', lwI K H2 b Y' → hJ K M_La_law B Q 822 cu [some (.ref a), some (.ref b), some (.ref (b + 175)), some (.int w)] [] H2) : hJ K M_La_law B Q 249 cu [some (.ref a), some (.ref b), some (.ref (b + 175)), some (.int w)] [] H := by
  have e1 : w + 1 = nI (i + 1) := by rw [ei, nI_1]
  have e2 : w + 2 = nI (i + 2) := by rw [ei]; exact nI_add i 2
  obtain ⟨⟨S, N, π, D, C, P, T, lr, Z, h⟩, mp, ok⟩ := I
  refine hGo_sound (okc_La_law K _ _) [18, 822] 60 _ _ _ _ _ ?_
  refine ⟨L, xs, i + 1, Or.inr hs, e1, by omega, by omega, L, xs, i + 2, Or.inr hs, e2, by omega, by omega, _, h.1, _, c_setWeight h ok (xs (i + 1)) (xs (i + 2)), ?_⟩
  rintro _ H1 ⟨rfl, cp1, f1⟩
  obtain ⟨c, B1, hr, hp⟩ := mp.fr f1 (Or.inl (Nat.le_refl _))
  refine ⟨L, xs, i + 1, Or.inr hs, e1, by omega, by omega, L, xs, i + 2, Or.inr hs, e2, by omega, by omega, _, hr.1, _, c_Mo_setWeight hr hp ok (xs (i + 1)) (xs (i + 2)), ?_⟩
  rintro _ H2 ⟨rfl, q, f2⟩
  refine ⟨fun _ => ?_, fun z => absurd rfl z⟩
  obtain ⟨Y', I'⟩ := lwI.next (ok_setWeight ok (xs (i + 1)) (xs (i + 2))) cp1 q f2
  exact hend H2 Y' I'
set_option maxRecDepth 100000 in
set_option maxHeartbeats 4000000 in
theorem l_La_invite (hs : K.2.2.2.2.2 a = some (L, xs)) (hL : L ≤ 1536) (ei : w = nI i) (hi : i + 3 ≤ L) (I : lwI K H b Y) (hend : ∀ H2 Y', lwI K H2 b Y' → hJ K M_La_law B Q 822 cu [some (.ref a), some (.ref b), some (.ref (b + 175)), some (.int w)] [] H2) : hJ K M_La_law B Q 282 cu [some (.ref a), some (.ref b), some (.ref (b + 175)), some (.int w)] [] H := by
  have e1 : w + 1 = nI (i + 1) := by rw [ei, nI_1]
  have e2 : w + 2 = nI (i + 2) := by rw [ei]; exact nI_add i 2
  obtain ⟨⟨S, N, π, D, C, P, T, lr, Z, h⟩, mp, ok⟩ := I
  refine hGo_sound (okc_La_law K _ _) [18, 822] 60 _ _ _ _ _ ?_
  refine ⟨L, xs, i + 1, Or.inr hs, e1, by omega, by omega, L, xs, i + 2, Or.inr hs, e2, by omega, by omega, fun z0 => ?_, fun z0 => ?_⟩
  · refine ⟨_, h.1, _, c_invite h ok (xs (i + 1)) 0 (Or.inl rfl), ?_⟩
    rintro _ H1 ⟨rfl, cp1, f1⟩
    obtain ⟨c, B1, hr, hp⟩ := mp.fr f1 (Or.inl (Nat.le_refl _))
    refine ⟨L, xs, i + 1, Or.inr hs, e1, by omega, by omega, L, xs, i + 2, Or.inr hs, e2, by omega, by omega, fun _ => ⟨_, hr.1, _, c_Mo_invite hr hp ok (xs (i + 1)) 0 (Or.inl rfl), ?_⟩, fun z => absurd z0 z⟩
    rintro _ H2 ⟨rfl, q, f2⟩
    refine ⟨fun _ => ?_, fun z => absurd rfl z⟩
    obtain ⟨Y', I'⟩ := lwI.next (ok_invite ok (xs (i + 1)) 0 (Or.inl rfl)) cp1 q f2
    exact hend H2 Y' I'
  · refine ⟨_, h.1, _, c_invite h ok (xs (i + 1)) 1 (Or.inr rfl), ?_⟩
    rintro _ H1 ⟨rfl, cp1, f1⟩
    obtain ⟨c, B1, hr, hp⟩ := mp.fr f1 (Or.inl (Nat.le_refl _))
    refine ⟨L, xs, i + 1, Or.inr hs, e1, by omega, by omega, L, xs, i + 2, Or.inr hs, e2, by omega, by omega, fun z => absurd z z0, fun _ => ⟨_, hr.1, _, c_Mo_invite hr hp ok (xs (i + 1)) 1 (Or.inr rfl), ?_⟩⟩
    rintro _ H2 ⟨rfl, q, f2⟩
    refine ⟨fun _ => ?_, fun z => absurd rfl z⟩
    obtain ⟨Y', I'⟩ := lwI.next (ok_invite ok (xs (i + 1)) 1 (Or.inr rfl)) cp1 q f2
    exact hend H2 Y' I'
set_option maxRecDepth 100000 in
set_option maxHeartbeats 4000000 in
theorem l_La_set (hs : K.2.2.2.2.2 a = some (L, xs)) (hL : L ≤ 1536) (ei : w = nI i) (hi : i + 3 ≤ L) (hK1 : hSetK K) (I : lwI K H b Y) (hend : ∀ H2 Y', lwI K H2 b Y' → hJ K M_La_law B Q 822 cu [some (.ref a), some (.ref b), some (.ref (b + 175)), some (.int w)] [] H2) : hJ K M_La_law B Q 331 cu [some (.ref a), some (.ref b), some (.ref (b + 175)), some (.int w)] [] H := by
  have e1 : w + 1 = nI (i + 1) := by rw [ei, nI_1]
  have e2 : w + 2 = nI (i + 2) := by rw [ei]; exact nI_add i 2
  obtain ⟨⟨S, N, π, D, C, P, T, lr, Z, h⟩, mp, ok⟩ := I
  refine hGo_sound (okc_La_law K _ _) [18, 822] 60 _ _ _ _ _ ?_
  refine ⟨L, xs, i + 1, Or.inr hs, e1, by omega, by omega, L, xs, i + 2, Or.inr hs, e2, by omega, by omega, _, h.1, _, c_set h ok hK1 (xs (i + 1)) (xs (i + 2)), ?_⟩
  rintro _ H1 ⟨rfl, cp1, f1⟩
  obtain ⟨c, B1, hr, hp⟩ := mp.fr f1 (Or.inl (Nat.le_refl _))
  refine ⟨L, xs, i + 1, Or.inr hs, e1, by omega, by omega, L, xs, i + 2, Or.inr hs, e2, by omega, by omega, _, hr.1, _, c_Mo_set hr hp ok (xs (i + 1)) (xs (i + 2)), ?_⟩
  rintro _ H2 ⟨rfl, q, f2⟩
  refine ⟨fun _ => ?_, fun z => absurd rfl z⟩
  obtain ⟨Y', I'⟩ := lwI.next (ok_set ok (xs (i + 1)) (xs (i + 2))) cp1 q f2
  exact hend H2 Y' I'
set_option maxRecDepth 100000 in
set_option maxHeartbeats 4000000 in
theorem l_La_pass (hs : K.2.2.2.2.2 a = some (L, xs)) (hL : L ≤ 1536) (ei : w = nI i) (hi : i + 3 ≤ L) (I : lwI K H b Y) (hend : ∀ H2 Y', lwI K H2 b Y' → hJ K M_La_law B Q 822 cu [some (.ref a), some (.ref b), some (.ref (b + 175)), some (.int w)] [] H2) : hJ K M_La_law B Q 364 cu [some (.ref a), some (.ref b), some (.ref (b + 175)), some (.int w)] [] H := by
  have e1 : w + 1 = nI (i + 1) := by rw [ei, nI_1]
  have e2 : w + 2 = nI (i + 2) := by rw [ei]; exact nI_add i 2
  obtain ⟨⟨S, N, π, D, C, P, T, lr, Z, h⟩, mp, ok⟩ := I
  refine hGo_sound (okc_La_law K _ _) [18, 822] 60 _ _ _ _ _ ?_
  refine ⟨L, xs, i + 1, Or.inr hs, e1, by omega, by omega, _, h.1, _, c_pass h ok (xs (i + 1)), ?_⟩
  rintro _ H1 ⟨rfl, cp1, f1⟩
  obtain ⟨c, B1, hr, hp⟩ := mp.fr f1 (Or.inl (Nat.le_refl _))
  refine ⟨L, xs, i + 1, Or.inr hs, e1, by omega, by omega, _, hr.1, _, c_Mo_pass hr hp ok (xs (i + 1)), ?_⟩
  rintro _ H2 ⟨rfl, q, f2⟩
  refine ⟨fun _ => ?_, fun z => absurd rfl z⟩
  obtain ⟨Y', I'⟩ := lwI.next (ok_pass ok (xs (i + 1))) cp1 q f2
  exact hend H2 Y' I'
set_option maxRecDepth 100000 in
set_option maxHeartbeats 4000000 in
theorem l_La_fix (hs : K.2.2.2.2.2 a = some (L, xs)) (hL : L ≤ 1536) (ei : w = nI i) (hi : i + 3 ≤ L) (I : lwI K H b Y) (hend : ∀ H2 Y', lwI K H2 b Y' → hJ K M_La_law B Q 822 cu [some (.ref a), some (.ref b), some (.ref (b + 175)), some (.int w)] [] H2) : hJ K M_La_law B Q 387 cu [some (.ref a), some (.ref b), some (.ref (b + 175)), some (.int w)] [] H := by
  have e1 : w + 1 = nI (i + 1) := by rw [ei, nI_1]
  have e2 : w + 2 = nI (i + 2) := by rw [ei]; exact nI_add i 2
  obtain ⟨⟨S, N, π, D, C, P, T, lr, Z, h⟩, mp, ok⟩ := I
  refine hGo_sound (okc_La_law K _ _) [18, 822] 60 _ _ _ _ _ ?_
  refine ⟨_, h.1, _, c_fix h ok, ?_⟩
  rintro _ H1 ⟨rfl, cp1, f1⟩
  obtain ⟨c, B1, hr, hp⟩ := mp.fr f1 (Or.inl (Nat.le_refl _))
  refine ⟨_, hr.1, _, c_Mo_fix hr hp ok, ?_⟩
  rintro _ H2 ⟨rfl, q, f2⟩
  refine ⟨fun _ => ?_, fun z => absurd rfl z⟩
  obtain ⟨Y', I'⟩ := lwI.next (ok_fix ok) cp1 q f2
  exact hend H2 Y' I'
set_option maxRecDepth 100000 in
set_option maxHeartbeats 4000000 in
theorem l_La_cancel (hs : K.2.2.2.2.2 a = some (L, xs)) (hL : L ≤ 1536) (ei : w = nI i) (hi : i + 3 ≤ L) (I : lwI K H b Y) (hend : ∀ H2 Y', lwI K H2 b Y' → hJ K M_La_law B Q 822 cu [some (.ref a), some (.ref b), some (.ref (b + 175)), some (.int w)] [] H2) : hJ K M_La_law B Q 400 cu [some (.ref a), some (.ref b), some (.ref (b + 175)), some (.int w)] [] H := by
  have e1 : w + 1 = nI (i + 1) := by rw [ei, nI_1]
  have e2 : w + 2 = nI (i + 2) := by rw [ei]; exact nI_add i 2
  obtain ⟨⟨S, N, π, D, C, P, T, lr, Z, h⟩, mp, ok⟩ := I
  refine hGo_sound (okc_La_law K _ _) [18, 822] 60 _ _ _ _ _ ?_
  refine ⟨L, xs, i + 1, Or.inr hs, e1, by omega, by omega, _, h.1, _, c_cancel h ok (xs (i + 1)), ?_⟩
  rintro _ H1 ⟨rfl, cp1, f1⟩
  obtain ⟨c, B1, hr, hp⟩ := mp.fr f1 (Or.inl (Nat.le_refl _))
  refine ⟨L, xs, i + 1, Or.inr hs, e1, by omega, by omega, _, hr.1, _, c_Mo_cancel hr hp ok (xs (i + 1)), ?_⟩
  rintro _ H2 ⟨rfl, q, f2⟩
  refine ⟨fun _ => ?_, fun z => absurd rfl z⟩
  obtain ⟨Y', I'⟩ := lwI.next (ok_cancel ok (xs (i + 1))) cp1 q f2
  exact hend H2 Y' I'
set_option maxRecDepth 100000 in
set_option maxHeartbeats 4000000 in
theorem l_La_dissolve (hs : K.2.2.2.2.2 a = some (L, xs)) (hL : L ≤ 1536) (ei : w = nI i) (hi : i + 3 ≤ L) (I : lwI K H b Y) (hend : ∀ H2 Y', lwI K H2 b Y' → hJ K M_La_law B Q 822 cu [some (.ref a), some (.ref b), some (.ref (b + 175)), some (.int w)] [] H2) : hJ K M_La_law B Q 423 cu [some (.ref a), some (.ref b), some (.ref (b + 175)), some (.int w)] [] H := by
  have e1 : w + 1 = nI (i + 1) := by rw [ei, nI_1]
  have e2 : w + 2 = nI (i + 2) := by rw [ei]; exact nI_add i 2
  obtain ⟨⟨S, N, π, D, C, P, T, lr, Z, h⟩, mp, ok⟩ := I
  refine hGo_sound (okc_La_law K _ _) [18, 822] 60 _ _ _ _ _ ?_
  refine ⟨_, h.1, _, c_dissolve h ok, ?_⟩
  rintro _ H1 ⟨rfl, cp1, f1⟩
  obtain ⟨c, B1, hr, hp⟩ := mp.fr f1 (Or.inl (Nat.le_refl _))
  refine ⟨_, hr.1, _, c_Mo_dissolve hr hp ok, ?_⟩
  rintro _ H2 ⟨rfl, q, f2⟩
  refine ⟨fun _ => ?_, fun z => absurd rfl z⟩
  obtain ⟨Y', I'⟩ := lwI.next (ok_dissolve ok) cp1 q f2
  exact hend H2 Y' I'
set_option maxRecDepth 100000 in
set_option maxHeartbeats 4000000 in
theorem l_La_type (hs : K.2.2.2.2.2 a = some (L, xs)) (hL : L ≤ 1536) (ei : w = nI i) (hi : i + 3 ≤ L) (I : lwI K H b Y) (hend : ∀ H2 Y', lwI K H2 b Y' → hJ K M_La_law B Q 822 cu [some (.ref a), some (.ref b), some (.ref (b + 175)), some (.int w)] [] H2) : hJ K M_La_law B Q 436 cu [some (.ref a), some (.ref b), some (.ref (b + 175)), some (.int w)] [] H := by
  have e1 : w + 1 = nI (i + 1) := by rw [ei, nI_1]
  have e2 : w + 2 = nI (i + 2) := by rw [ei]; exact nI_add i 2
  obtain ⟨⟨S, N, π, D, C, P, T, lr, Z, h⟩, mp, ok⟩ := I
  refine hGo_sound (okc_La_law K _ _) [18, 822] 60 _ _ _ _ _ ?_
  have ex := pk_char (xs (i + 1))
  have hx : (xs (i + 1)).toBitVec.toNat % 65536 < 65536 := Nat.mod_lt _ (by decide)
  refine ⟨L, xs, i + 1, Or.inr hs, e1, by omega, by omega, _, h.1, cPost K b H (sp_type Y ((xs (i + 1)).toBitVec.toNat % 65536)), ?_, ?_⟩
  · rw [ex]; exact c_type h ok hx
  rintro _ H1 ⟨rfl, cp1, f1⟩
  obtain ⟨c, B1, hr, hp⟩ := mp.fr f1 (Or.inl (Nat.le_refl _))
  refine ⟨L, xs, i + 1, Or.inr hs, e1, by omega, by omega, _, hr.1, mPost K (b + 175) H1 (sp_type Y ((xs (i + 1)).toBitVec.toNat % 65536)), ?_, ?_⟩
  · rw [ex]; exact c_Mo_type hr hp ok hx
  rintro _ H2 ⟨rfl, q, f2⟩
  refine ⟨fun _ => ?_, fun z => absurd rfl z⟩
  obtain ⟨Y', I'⟩ := lwI.next (ok_type ok hx) cp1 q f2
  exact hend H2 Y' I'
set_option maxRecDepth 100000 in
set_option maxHeartbeats 4000000 in
theorem l_La_clearText (hs : K.2.2.2.2.2 a = some (L, xs)) (hL : L ≤ 1536) (ei : w = nI i) (hi : i + 3 ≤ L) (I : lwI K H b Y) (hend : ∀ H2 Y', lwI K H2 b Y' → hJ K M_La_law B Q 822 cu [some (.ref a), some (.ref b), some (.ref (b + 175)), some (.int w)] [] H2) : hJ K M_La_law B Q 461 cu [some (.ref a), some (.ref b), some (.ref (b + 175)), some (.int w)] [] H := by
  have e1 : w + 1 = nI (i + 1) := by rw [ei, nI_1]
  have e2 : w + 2 = nI (i + 2) := by rw [ei]; exact nI_add i 2
  obtain ⟨⟨S, N, π, D, C, P, T, lr, Z, h⟩, mp, ok⟩ := I
  refine hGo_sound (okc_La_law K _ _) [18, 822] 60 _ _ _ _ _ ?_
  refine ⟨_, h.1, _, c_clearText h, ?_⟩
  rintro _ H1 ⟨rfl, cp1, f1⟩
  obtain ⟨c, B1, hr, hp⟩ := mp.fr f1 (Or.inl (Nat.le_refl _))
  refine ⟨_, hr.1, _, c_Mo_clearText hr hp, ?_⟩
  rintro _ H2 ⟨rfl, q, f2⟩
  refine ⟨fun _ => ?_, fun z => absurd rfl z⟩
  obtain ⟨Y', I'⟩ := lwI.next (ok_clearText ok) cp1 q f2
  exact hend H2 Y' I'
set_option maxRecDepth 100000 in
set_option maxHeartbeats 4000000 in
theorem l_La_undo (hs : K.2.2.2.2.2 a = some (L, xs)) (hL : L ≤ 1536) (ei : w = nI i) (hi : i + 3 ≤ L) (I : lwI K H b Y) (hend : ∀ H2 Y', lwI K H2 b Y' → hJ K M_La_law B Q 822 cu [some (.ref a), some (.ref b), some (.ref (b + 175)), some (.int w)] [] H2) : hJ K M_La_law B Q 474 cu [some (.ref a), some (.ref b), some (.ref (b + 175)), some (.int w)] [] H := by
  have e1 : w + 1 = nI (i + 1) := by rw [ei, nI_1]
  have e2 : w + 2 = nI (i + 2) := by rw [ei]; exact nI_add i 2
  obtain ⟨⟨S, N, π, D, C, P, T, lr, Z, h⟩, mp, ok⟩ := I
  refine hGo_sound (okc_La_law K _ _) [18, 822] 60 _ _ _ _ _ ?_
  refine ⟨_, h.1, _, c_undo h ok, ?_⟩
  rintro _ H1 ⟨rfl, cp1, f1⟩
  obtain ⟨c, B1, hr, hp⟩ := mp.fr f1 (Or.inl (Nat.le_refl _))
  refine ⟨_, hr.1, _, c_Mo_undo hr hp ok, ?_⟩
  rintro _ H2 ⟨rfl, q, f2⟩
  refine ⟨fun _ => ?_, fun z => absurd rfl z⟩
  obtain ⟨Y', I'⟩ := lwI.next (ok_undo ok) cp1 q f2
  exact hend H2 Y' I'
set_option maxRecDepth 100000 in
set_option maxHeartbeats 4000000 in
theorem l_La_keep (hs : K.2.2.2.2.2 a = some (L, xs)) (hL : L ≤ 1536) (ei : w = nI i) (hi : i + 3 ≤ L) (I : lwI K H b Y) (hend : ∀ H2 Y', lwI K H2 b Y' → hJ K M_La_law B Q 822 cu [some (.ref a), some (.ref b), some (.ref (b + 175)), some (.int w)] [] H2) : hJ K M_La_law B Q 487 cu [some (.ref a), some (.ref b), some (.ref (b + 175)), some (.int w)] [] H := by
  have e1 : w + 1 = nI (i + 1) := by rw [ei, nI_1]
  have e2 : w + 2 = nI (i + 2) := by rw [ei]; exact nI_add i 2
  obtain ⟨⟨S, N, π, D, C, P, T, lr, Z, h⟩, mp, ok⟩ := I
  refine hGo_sound (okc_La_law K _ _) [18, 822] 60 _ _ _ _ _ ?_
  refine ⟨_, h.1, _, c_keep h ok, ?_⟩
  rintro _ H1 ⟨rfl, cp1, f1⟩
  obtain ⟨c, B1, hr, hp⟩ := mp.fr f1 (Or.inl (Nat.le_refl _))
  refine ⟨_, hr.1, _, c_Mo_keep hr hp, ?_⟩
  rintro _ H2 ⟨rfl, q, f2⟩
  refine ⟨fun _ => ?_, fun z => absurd rfl z⟩
  obtain ⟨Y', I'⟩ := lwI.next (ok_keep ok) cp1 q f2
  exact hend H2 Y' I'
set_option maxRecDepth 100000 in
set_option maxHeartbeats 4000000 in
theorem l_La_restore (hs : K.2.2.2.2.2 a = some (L, xs)) (hL : L ≤ 1536) (ei : w = nI i) (hi : i + 3 ≤ L) (I : lwI K H b Y) (hend : ∀ H2 Y', lwI K H2 b Y' → hJ K M_La_law B Q 822 cu [some (.ref a), some (.ref b), some (.ref (b + 175)), some (.int w)] [] H2) : hJ K M_La_law B Q 500 cu [some (.ref a), some (.ref b), some (.ref (b + 175)), some (.int w)] [] H := by
  have e1 : w + 1 = nI (i + 1) := by rw [ei, nI_1]
  have e2 : w + 2 = nI (i + 2) := by rw [ei]; exact nI_add i 2
  obtain ⟨⟨S, N, π, D, C, P, T, lr, Z, h⟩, mp, ok⟩ := I
  refine hGo_sound (okc_La_law K _ _) [18, 822] 60 _ _ _ _ _ ?_
  refine ⟨_, h.1, _, c_restore h ok, ?_⟩
  rintro _ H1 ⟨rfl, cp1, f1⟩
  obtain ⟨c, B1, hr, hp⟩ := mp.fr f1 (Or.inl (Nat.le_refl _))
  refine ⟨_, hr.1, _, c_Mo_restore hr hp ok, ?_⟩
  rintro _ H2 ⟨rfl, q, f2⟩
  refine ⟨fun _ => ?_, fun z => absurd rfl z⟩
  obtain ⟨Y', I'⟩ := lwI.next (ok_restore ok) cp1 q f2
  exact hend H2 Y' I'
set_option maxRecDepth 100000 in
set_option maxHeartbeats 4000000 in
theorem l_La_guest (hs : K.2.2.2.2.2 a = some (L, xs)) (hL : L ≤ 1536) (ei : w = nI i) (hi : i + 3 ≤ L) (I : lwI K H b Y) (hend : ∀ H2 Y', lwI K H2 b Y' → hJ K M_La_law B Q 822 cu [some (.ref a), some (.ref b), some (.ref (b + 175)), some (.int w)] [] H2) : hJ K M_La_law B Q 513 cu [some (.ref a), some (.ref b), some (.ref (b + 175)), some (.int w)] [] H := by
  have e1 : w + 1 = nI (i + 1) := by rw [ei, nI_1]
  have e2 : w + 2 = nI (i + 2) := by rw [ei]; exact nI_add i 2
  obtain ⟨⟨S, N, π, D, C, P, T, lr, Z, h⟩, mp, ok⟩ := I
  refine hGo_sound (okc_La_law K _ _) [18, 822] 60 _ _ _ _ _ ?_
  refine ⟨L, xs, i + 1, Or.inr hs, e1, by omega, by omega, L, xs, i + 2, Or.inr hs, e2, by omega, by omega, _, h.1, _, c_guest h ok (xs (i + 1)) (xs (i + 2)), ?_⟩
  rintro _ H1 ⟨rfl, cp1, f1⟩
  obtain ⟨c, B1, hr, hp⟩ := mp.fr f1 (Or.inl (Nat.le_refl _))
  refine ⟨L, xs, i + 1, Or.inr hs, e1, by omega, by omega, L, xs, i + 2, Or.inr hs, e2, by omega, by omega, _, hr.1, _, c_Mo_guest hr hp ok (xs (i + 1)) (xs (i + 2)), ?_⟩
  rintro _ H2 ⟨rfl, q, f2⟩
  refine ⟨fun _ => ?_, fun z => absurd rfl z⟩
  obtain ⟨Y', I'⟩ := lwI.next ok cp1 q f2
  exact hend H2 Y' I'
set_option maxRecDepth 100000 in
set_option maxHeartbeats 4000000 in
theorem l_La_met (hs : K.2.2.2.2.2 a = some (L, xs)) (hL : L ≤ 1536) (ei : w = nI i) (hi : i + 3 ≤ L) (I : lwI K H b Y) (hend : ∀ H2 Y', lwI K H2 b Y' → hJ K M_La_law B Q 822 cu [some (.ref a), some (.ref b), some (.ref (b + 175)), some (.int w)] [] H2) : hJ K M_La_law B Q 546 cu [some (.ref a), some (.ref b), some (.ref (b + 175)), some (.int w)] [] H := by
  have e1 : w + 1 = nI (i + 1) := by rw [ei, nI_1]
  have e2 : w + 2 = nI (i + 2) := by rw [ei]; exact nI_add i 2
  obtain ⟨⟨S, N, π, D, C, P, T, lr, Z, h⟩, mp, ok⟩ := I
  refine hGo_sound (okc_La_law K _ _) [18, 822] 60 _ _ _ _ _ ?_
  refine ⟨L, xs, i + 1, Or.inr hs, e1, by omega, by omega, L, xs, i + 2, Or.inr hs, e2, by omega, by omega, _, h.1, _, c_met h ok (xs (i + 1)) (xs (i + 2)), ?_⟩
  rintro _ H1 ⟨rfl, cp1, f1⟩
  obtain ⟨c, B1, hr, hp⟩ := mp.fr f1 (Or.inl (Nat.le_refl _))
  refine ⟨L, xs, i + 1, Or.inr hs, e1, by omega, by omega, L, xs, i + 2, Or.inr hs, e2, by omega, by omega, _, hr.1, _, c_Mo_met hr hp ok (xs (i + 1)) (xs (i + 2)), ?_⟩
  rintro _ H2 ⟨rfl, q, f2⟩
  refine ⟨fun _ => ?_, fun z => absurd rfl z⟩
  obtain ⟨Y', I'⟩ := lwI.next ok cp1 q f2
  exact hend H2 Y' I'
set_option maxRecDepth 100000 in
set_option maxHeartbeats 4000000 in
theorem l_La_stable (hs : K.2.2.2.2.2 a = some (L, xs)) (hL : L ≤ 1536) (ei : w = nI i) (hi : i + 3 ≤ L) (I : lwI K H b Y) (hend : ∀ H2 Y', lwI K H2 b Y' → hJ K M_La_law B Q 822 cu [some (.ref a), some (.ref b), some (.ref (b + 175)), some (.int w)] [] H2) : hJ K M_La_law B Q 579 cu [some (.ref a), some (.ref b), some (.ref (b + 175)), some (.int w)] [] H := by
  have e1 : w + 1 = nI (i + 1) := by rw [ei, nI_1]
  have e2 : w + 2 = nI (i + 2) := by rw [ei]; exact nI_add i 2
  obtain ⟨⟨S, N, π, D, C, P, T, lr, Z, h⟩, mp, ok⟩ := I
  refine hGo_sound (okc_La_law K _ _) [18, 822] 60 _ _ _ _ _ ?_
  refine ⟨L, xs, i + 1, Or.inr hs, e1, by omega, by omega, _, h.1, _, c_stable h ok (xs (i + 1)), ?_⟩
  rintro _ H1 ⟨rfl, cp1, f1⟩
  obtain ⟨c, B1, hr, hp⟩ := mp.fr f1 (Or.inl (Nat.le_refl _))
  refine ⟨L, xs, i + 1, Or.inr hs, e1, by omega, by omega, _, hr.1, _, c_Mo_stable hr hp ok (xs (i + 1)), ?_⟩
  rintro _ H2 ⟨rfl, q, f2⟩
  refine ⟨fun _ => ?_, fun z => absurd rfl z⟩
  obtain ⟨Y', I'⟩ := lwI.next ok cp1 q f2
  exact hend H2 Y' I'
set_option maxRecDepth 100000 in
set_option maxHeartbeats 4000000 in
theorem l_La_fee (hs : K.2.2.2.2.2 a = some (L, xs)) (hL : L ≤ 1536) (ei : w = nI i) (hi : i + 3 ≤ L) (I : lwI K H b Y) (hend : ∀ H2 Y', lwI K H2 b Y' → hJ K M_La_law B Q 822 cu [some (.ref a), some (.ref b), some (.ref (b + 175)), some (.int w)] [] H2) : hJ K M_La_law B Q 602 cu [some (.ref a), some (.ref b), some (.ref (b + 175)), some (.int w)] [] H := by
  have e1 : w + 1 = nI (i + 1) := by rw [ei, nI_1]
  have e2 : w + 2 = nI (i + 2) := by rw [ei]; exact nI_add i 2
  obtain ⟨⟨S, N, π, D, C, P, T, lr, Z, h⟩, mp, ok⟩ := I
  refine hGo_sound (okc_La_law K _ _) [18, 822] 60 _ _ _ _ _ ?_
  refine ⟨L, xs, i + 1, Or.inr hs, e1, by omega, by omega, _, h.1, _, c_fee h (xs (i + 1)), ?_⟩
  rintro _ H1 ⟨rfl, cp1, f1⟩
  obtain ⟨c, B1, hr, hp⟩ := mp.fr f1 (Or.inl (Nat.le_refl _))
  refine ⟨L, xs, i + 1, Or.inr hs, e1, by omega, by omega, _, hr.1, _, c_Mo_fee hr hp (xs (i + 1)), ?_⟩
  rintro _ H2 ⟨rfl, q, f2⟩
  refine ⟨fun _ => ?_, fun z => absurd rfl z⟩
  obtain ⟨Y', I'⟩ := lwI.next ok cp1 q f2
  exact hend H2 Y' I'
set_option maxRecDepth 100000 in
set_option maxHeartbeats 4000000 in
theorem l_La_company (hs : K.2.2.2.2.2 a = some (L, xs)) (hL : L ≤ 1536) (ei : w = nI i) (hi : i + 3 ≤ L) (I : lwI K H b Y) (hend : ∀ H2 Y', lwI K H2 b Y' → hJ K M_La_law B Q 822 cu [some (.ref a), some (.ref b), some (.ref (b + 175)), some (.int w)] [] H2) : hJ K M_La_law B Q 625 cu [some (.ref a), some (.ref b), some (.ref (b + 175)), some (.int w)] [] H := by
  have e1 : w + 1 = nI (i + 1) := by rw [ei, nI_1]
  have e2 : w + 2 = nI (i + 2) := by rw [ei]; exact nI_add i 2
  obtain ⟨⟨S, N, π, D, C, P, T, lr, Z, h⟩, mp, ok⟩ := I
  refine hGo_sound (okc_La_law K _ _) [18, 822] 60 _ _ _ _ _ ?_
  refine ⟨L, xs, i + 1, Or.inr hs, e1, by omega, by omega, _, h.1, _, c_company h ok (xs (i + 1)), ?_⟩
  rintro _ H1 ⟨rfl, cp1, f1⟩
  obtain ⟨c, B1, hr, hp⟩ := mp.fr f1 (Or.inl (Nat.le_refl _))
  refine ⟨L, xs, i + 1, Or.inr hs, e1, by omega, by omega, _, hr.1, _, c_Mo_company hr hp ok (xs (i + 1)), ?_⟩
  rintro _ H2 ⟨rfl, q, f2⟩
  refine ⟨fun _ => ?_, fun z => absurd rfl z⟩
  obtain ⟨Y', I'⟩ := lwI.next ok cp1 q f2
  exact hend H2 Y' I'
set_option maxRecDepth 100000 in
set_option maxHeartbeats 4000000 in
theorem l_La_companies (hs : K.2.2.2.2.2 a = some (L, xs)) (hL : L ≤ 1536) (ei : w = nI i) (hi : i + 3 ≤ L) (I : lwI K H b Y) (hend : ∀ H2 Y', lwI K H2 b Y' → hJ K M_La_law B Q 822 cu [some (.ref a), some (.ref b), some (.ref (b + 175)), some (.int w)] [] H2) : hJ K M_La_law B Q 648 cu [some (.ref a), some (.ref b), some (.ref (b + 175)), some (.int w)] [] H := by
  have e1 : w + 1 = nI (i + 1) := by rw [ei, nI_1]
  have e2 : w + 2 = nI (i + 2) := by rw [ei]; exact nI_add i 2
  obtain ⟨⟨S, N, π, D, C, P, T, lr, Z, h⟩, mp, ok⟩ := I
  refine hGo_sound (okc_La_law K _ _) [18, 822] 60 _ _ _ _ _ ?_
  refine ⟨_, h.1, _, c_companies h ok, ?_⟩
  rintro _ H1 ⟨rfl, cp1, f1⟩
  obtain ⟨c, B1, hr, hp⟩ := mp.fr f1 (Or.inl (Nat.le_refl _))
  refine ⟨_, hr.1, _, c_Mo_companies hr hp ok, ?_⟩
  rintro _ H2 ⟨rfl, q, f2⟩
  refine ⟨fun _ => ?_, fun z => absurd rfl z⟩
  obtain ⟨Y', I'⟩ := lwI.next ok cp1 q f2
  exact hend H2 Y' I'
set_option maxRecDepth 100000 in
set_option maxHeartbeats 4000000 in
theorem l_La_why (hs : K.2.2.2.2.2 a = some (L, xs)) (hL : L ≤ 1536) (ei : w = nI i) (hi : i + 3 ≤ L) (I : lwI K H b Y) (hend : ∀ H2 Y', lwI K H2 b Y' → hJ K M_La_law B Q 822 cu [some (.ref a), some (.ref b), some (.ref (b + 175)), some (.int w)] [] H2) : hJ K M_La_law B Q 661 cu [some (.ref a), some (.ref b), some (.ref (b + 175)), some (.int w)] [] H := by
  have e1 : w + 1 = nI (i + 1) := by rw [ei, nI_1]
  have e2 : w + 2 = nI (i + 2) := by rw [ei]; exact nI_add i 2
  obtain ⟨⟨S, N, π, D, C, P, T, lr, Z, h⟩, mp, ok⟩ := I
  refine hGo_sound (okc_La_law K _ _) [18, 822] 60 _ _ _ _ _ ?_
  refine ⟨L, xs, i + 1, Or.inr hs, e1, by omega, by omega, L, xs, i + 2, Or.inr hs, e2, by omega, by omega, _, h.1, _, c_why h ok (xs (i + 1)) (xs (i + 2)), ?_⟩
  rintro _ H1 ⟨rfl, cp1, f1⟩
  obtain ⟨c, B1, hr, hp⟩ := mp.fr f1 (Or.inl (Nat.le_refl _))
  refine ⟨L, xs, i + 1, Or.inr hs, e1, by omega, by omega, L, xs, i + 2, Or.inr hs, e2, by omega, by omega, _, hr.1, _, c_Mo_why hr hp ok (xs (i + 1)) (xs (i + 2)), ?_⟩
  rintro _ H2 ⟨rfl, q, f2⟩
  refine ⟨fun _ => ?_, fun z => absurd rfl z⟩
  obtain ⟨Y', I'⟩ := lwI.next ok cp1 q f2
  exact hend H2 Y' I'
set_option maxRecDepth 100000 in
set_option maxHeartbeats 4000000 in
theorem l_La_rounds (hs : K.2.2.2.2.2 a = some (L, xs)) (hL : L ≤ 1536) (ei : w = nI i) (hi : i + 3 ≤ L) (I : lwI K H b Y) (hend : ∀ H2 Y', lwI K H2 b Y' → hJ K M_La_law B Q 822 cu [some (.ref a), some (.ref b), some (.ref (b + 175)), some (.int w)] [] H2) : hJ K M_La_law B Q 694 cu [some (.ref a), some (.ref b), some (.ref (b + 175)), some (.int w)] [] H := by
  have e1 : w + 1 = nI (i + 1) := by rw [ei, nI_1]
  have e2 : w + 2 = nI (i + 2) := by rw [ei]; exact nI_add i 2
  obtain ⟨⟨S, N, π, D, C, P, T, lr, Z, h⟩, mp, ok⟩ := I
  refine hGo_sound (okc_La_law K _ _) [18, 822] 60 _ _ _ _ _ ?_
  refine ⟨_, h.1, _, c_rounds h ok, ?_⟩
  rintro _ H1 ⟨rfl, cp1, f1⟩
  obtain ⟨c, B1, hr, hp⟩ := mp.fr f1 (Or.inl (Nat.le_refl _))
  refine ⟨_, hr.1, _, c_Mo_rounds hr hp ok, ?_⟩
  rintro _ H2 ⟨rfl, q, f2⟩
  refine ⟨fun _ => ?_, fun z => absurd rfl z⟩
  obtain ⟨Y', I'⟩ := lwI.next ok cp1 q f2
  exact hend H2 Y' I'
set_option maxRecDepth 100000 in
set_option maxHeartbeats 4000000 in
theorem l_La_needs (hs : K.2.2.2.2.2 a = some (L, xs)) (hL : L ≤ 1536) (ei : w = nI i) (hi : i + 3 ≤ L) (I : lwI K H b Y) (hend : ∀ H2 Y', lwI K H2 b Y' → hJ K M_La_law B Q 822 cu [some (.ref a), some (.ref b), some (.ref (b + 175)), some (.int w)] [] H2) : hJ K M_La_law B Q 707 cu [some (.ref a), some (.ref b), some (.ref (b + 175)), some (.int w)] [] H := by
  have e1 : w + 1 = nI (i + 1) := by rw [ei, nI_1]
  have e2 : w + 2 = nI (i + 2) := by rw [ei]; exact nI_add i 2
  obtain ⟨⟨S, N, π, D, C, P, T, lr, Z, h⟩, mp, ok⟩ := I
  refine hGo_sound (okc_La_law K _ _) [18, 822] 60 _ _ _ _ _ ?_
  refine ⟨L, xs, i + 1, Or.inr hs, e1, by omega, by omega, _, h.1, _, c_needs h ok (xs (i + 1)), ?_⟩
  rintro _ H1 ⟨rfl, cp1, f1⟩
  obtain ⟨c, B1, hr, hp⟩ := mp.fr f1 (Or.inl (Nat.le_refl _))
  refine ⟨L, xs, i + 1, Or.inr hs, e1, by omega, by omega, _, hr.1, _, c_Mo_needs hr hp ok (xs (i + 1)), ?_⟩
  rintro _ H2 ⟨rfl, q, f2⟩
  refine ⟨fun _ => ?_, fun z => absurd rfl z⟩
  obtain ⟨Y', I'⟩ := lwI.next ok cp1 q f2
  exact hend H2 Y' I'
set_option maxRecDepth 100000 in
set_option maxHeartbeats 4000000 in
theorem l_La_weightOf (hs : K.2.2.2.2.2 a = some (L, xs)) (hL : L ≤ 1536) (ei : w = nI i) (hi : i + 3 ≤ L) (I : lwI K H b Y) (hend : ∀ H2 Y', lwI K H2 b Y' → hJ K M_La_law B Q 822 cu [some (.ref a), some (.ref b), some (.ref (b + 175)), some (.int w)] [] H2) : hJ K M_La_law B Q 730 cu [some (.ref a), some (.ref b), some (.ref (b + 175)), some (.int w)] [] H := by
  have e1 : w + 1 = nI (i + 1) := by rw [ei, nI_1]
  have e2 : w + 2 = nI (i + 2) := by rw [ei]; exact nI_add i 2
  obtain ⟨⟨S, N, π, D, C, P, T, lr, Z, h⟩, mp, ok⟩ := I
  refine hGo_sound (okc_La_law K _ _) [18, 822] 60 _ _ _ _ _ ?_
  refine ⟨L, xs, i + 1, Or.inr hs, e1, by omega, by omega, _, h.1, _, c_weightOf h ok (xs (i + 1)), ?_⟩
  rintro _ H1 ⟨rfl, cp1, f1⟩
  obtain ⟨c, B1, hr, hp⟩ := mp.fr f1 (Or.inl (Nat.le_refl _))
  refine ⟨L, xs, i + 1, Or.inr hs, e1, by omega, by omega, _, hr.1, _, c_Mo_weightOf hr hp ok (xs (i + 1)), ?_⟩
  rintro _ H2 ⟨rfl, q, f2⟩
  refine ⟨fun _ => ?_, fun z => absurd rfl z⟩
  obtain ⟨Y', I'⟩ := lwI.next ok cp1 q f2
  exact hend H2 Y' I'
set_option maxRecDepth 100000 in
set_option maxHeartbeats 4000000 in
theorem l_La_leastLimit (hs : K.2.2.2.2.2 a = some (L, xs)) (hL : L ≤ 1536) (ei : w = nI i) (hi : i + 3 ≤ L) (I : lwI K H b Y) (hend : ∀ H2 Y', lwI K H2 b Y' → hJ K M_La_law B Q 822 cu [some (.ref a), some (.ref b), some (.ref (b + 175)), some (.int w)] [] H2) : hJ K M_La_law B Q 753 cu [some (.ref a), some (.ref b), some (.ref (b + 175)), some (.int w)] [] H := by
  have e1 : w + 1 = nI (i + 1) := by rw [ei, nI_1]
  have e2 : w + 2 = nI (i + 2) := by rw [ei]; exact nI_add i 2
  obtain ⟨⟨S, N, π, D, C, P, T, lr, Z, h⟩, mp, ok⟩ := I
  refine hGo_sound (okc_La_law K _ _) [18, 822] 60 _ _ _ _ _ ?_
  refine ⟨L, xs, i + 1, Or.inr hs, e1, by omega, by omega, _, h.1, _, c_leastLimit h ok (xs (i + 1)), ?_⟩
  rintro _ H1 ⟨rfl, cp1, f1⟩
  obtain ⟨c, B1, hr, hp⟩ := mp.fr f1 (Or.inl (Nat.le_refl _))
  refine ⟨L, xs, i + 1, Or.inr hs, e1, by omega, by omega, _, hr.1, _, c_Mo_leastLimit hr hp ok (xs (i + 1)), ?_⟩
  rintro _ H2 ⟨rfl, q, f2⟩
  refine ⟨fun _ => ?_, fun z => absurd rfl z⟩
  obtain ⟨Y', I'⟩ := lwI.next ok cp1 q f2
  exact hend H2 Y' I'
set_option maxRecDepth 100000 in
set_option maxHeartbeats 4000000 in
theorem l_La_seat (hs : K.2.2.2.2.2 a = some (L, xs)) (hL : L ≤ 1536) (ei : w = nI i) (hi : i + 3 ≤ L) (I : lwI K H b Y) (hend : ∀ H2 Y', lwI K H2 b Y' → hJ K M_La_law B Q 822 cu [some (.ref a), some (.ref b), some (.ref (b + 175)), some (.int w)] [] H2) : hJ K M_La_law B Q 776 cu [some (.ref a), some (.ref b), some (.ref (b + 175)), some (.int w)] [] H := by
  have e1 : w + 1 = nI (i + 1) := by rw [ei, nI_1]
  have e2 : w + 2 = nI (i + 2) := by rw [ei]; exact nI_add i 2
  obtain ⟨⟨S, N, π, D, C, P, T, lr, Z, h⟩, mp, ok⟩ := I
  refine hGo_sound (okc_La_law K _ _) [18, 822] 60 _ _ _ _ _ ?_
  refine ⟨L, xs, i + 1, Or.inr hs, e1, by omega, by omega, _, h.1, _, c_seat h ok (xs (i + 1)), ?_⟩
  rintro _ H1 ⟨rfl, cp1, f1⟩
  obtain ⟨c, B1, hr, hp⟩ := mp.fr f1 (Or.inl (Nat.le_refl _))
  refine ⟨L, xs, i + 1, Or.inr hs, e1, by omega, by omega, _, hr.1, _, c_Mo_seat hr hp ok (xs (i + 1)), ?_⟩
  rintro _ H2 ⟨rfl, q, f2⟩
  refine ⟨fun _ => ?_, fun z => absurd rfl z⟩
  obtain ⟨Y', I'⟩ := lwI.next ok cp1 q f2
  exact hend H2 Y' I'
set_option maxRecDepth 100000 in
set_option maxHeartbeats 4000000 in
theorem l_La_count (hs : K.2.2.2.2.2 a = some (L, xs)) (hL : L ≤ 1536) (ei : w = nI i) (hi : i + 3 ≤ L) (I : lwI K H b Y) (hend : ∀ H2 Y', lwI K H2 b Y' → hJ K M_La_law B Q 822 cu [some (.ref a), some (.ref b), some (.ref (b + 175)), some (.int w)] [] H2) : hJ K M_La_law B Q 799 cu [some (.ref a), some (.ref b), some (.ref (b + 175)), some (.int w)] [] H := by
  have e1 : w + 1 = nI (i + 1) := by rw [ei, nI_1]
  have e2 : w + 2 = nI (i + 2) := by rw [ei]; exact nI_add i 2
  obtain ⟨⟨S, N, π, D, C, P, T, lr, Z, h⟩, mp, ok⟩ := I
  refine hGo_sound (okc_La_law K _ _) [18, 822] 60 _ _ _ _ _ ?_
  refine ⟨L, xs, i + 1, Or.inr hs, e1, by omega, by omega, _, h.1, _, c_count h ok (xs (i + 1)), ?_⟩
  rintro _ H1 ⟨rfl, cp1, f1⟩
  obtain ⟨c, B1, hr, hp⟩ := mp.fr f1 (Or.inl (Nat.le_refl _))
  refine ⟨L, xs, i + 1, Or.inr hs, e1, by omega, by omega, _, hr.1, _, c_Mo_count hr hp ok (xs (i + 1)), ?_⟩
  rintro _ H2 ⟨rfl, q, f2⟩
  refine ⟨fun _ => ?_, fun z => absurd rfl z⟩
  obtain ⟨Y', I'⟩ := lwI.next ok cp1 q f2
  exact hend H2 Y' I'
end LC
