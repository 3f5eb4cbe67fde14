/-! THE REFERENCE: the history, changes, charges -/
def sfI (F : Nat → Int32) (i : Nat) : Nat → Int32 := fun j => if j < i then F (j + 1647) else F j
def cpI (F V : Nat → Int32) (o i : Nat) : Nat → Int32 := fun j => if o ≤ j ∧ j < o + i then V (j - o) else F j
theorem sfI_s (F : Nat → Int32) (i : Nat) : upd (sfI F i) i (sfI F i (i + 1647)) = sfI F (i + 1) := by
  funext j
  by_cases e : j = i
  · rw [e, upd_s]
    show (if i + 1647 < i then F (i + 1647 + 1647) else F (i + 1647)) = if i < i + 1 then F (i + 1647) else F i
    rw [if_neg (by omega), if_pos (by omega)]
  · rw [upd_n e]
    show (if j < i then F (j + 1647) else F j) = if j < i + 1 then F (j + 1647) else F j
    by_cases h : j < i
    · rw [if_pos h, if_pos (by omega)]
    · rw [if_neg h, if_neg (by omega)]
theorem sfI_0 (F : Nat → Int32) : sfI F 0 = F := funext fun j => if_neg (Nat.not_lt_zero j)
theorem cpI_0 (F V : Nat → Int32) (o : Nat) : cpI F V o 0 = F := funext fun j => if_neg (fun q => by omega)
theorem cpI_s (F V : Nat → Int32) (o i : Nat) : upd (cpI F V o i) (o + i) (V i) = cpI F V o (i + 1) := by
  funext j
  by_cases e : j = o + i
  · rw [e, upd_s]
    show V i = if o ≤ o + i ∧ o + i < o + (i + 1) then V (o + i - o) else F (o + i)
    rw [if_pos (by omega), show o + i - o = i by omega]
  · rw [upd_n e]
    show (if o ≤ j ∧ j < o + i then V (j - o) else F j) = if o ≤ j ∧ j < o + (i + 1) then V (j - o) else F j
    by_cases h : o ≤ j ∧ j < o + i
    · rw [if_pos h, if_pos (by omega)]
    · rw [if_neg h, if_neg (by omega)]
theorem upB_id {B : Nat → Nat → Int32} {j : Nat} : upB B j (B j) = B := by
  funext i
  unfold upB
  by_cases e : i = j
  · rw [if_pos e, e]
  · rw [if_neg e]
section MR
variable {K : hK} {H : hAH} {m : Nat} {c : Nat → Int32} {B : Nat → Nat → Int32} {Y : hY}
theorem RMo.wh {H' : hAH} {f : Nat → Int32} (h : RMo K H m c B) (u : hUpd H (m + 2) (hInts K 0 6588 f) H') : RMo K H' m c (upB B 1 f) := h.bk (j := 1) (by decide) u
def rcQ (K : hK) (H : hAH) (m : Nat) (c : Nat → Int32) (B : Nat → Nat → Int32) (z : Nat) (F : Nat → Int32) : hPost := fun r H' => r = none ∧ RMo K H' m (upd c 0 (nI (z + 1))) (upB B 1 (cpI F (B 0) (1647 * z) 1647)) ∧ hFr m (m + 11) H H'
set_option maxRecDepth 100000 in
set_option maxHeartbeats 4000000 in
theorem l_rec2 {H0 : hAH} {z : Nat} (hz : z < 4) {F : Nat → Int32} {ci : Nat → Int32} (hci : ci 0 = nI z) (hcc : upd ci 0 0 = upd c 0 0) : ∀ (d i : Nat) (g : Int32) (H1 : hAH), i + d = 1647 → g = nI i → RMo K H1 m ci (upB B 1 (cpI F (B 0) (1647 * z) i)) → hFr m (m + 11) H0 H1 → hJ K M_Mo_record (0, 0) (rcQ K H0 m c B z F) 51 (0, 0) [some (.ref m), some (.int g)] [] H1 := by
  intro d
  induction d with
  | zero =>
    intro i g H1 hi hg h f
    obtain rfl : i = 1647 := by omega
    refine hGo_sound (okc_Mo_record K _ _) [51] 60 _ _ _ _ _ ?_
    refine ⟨fun _ => ⟨_, h.1, _, h.1, trivial, fun H2 u2 => ⟨rfl, ?_, f.trans (u2.fr' (by omega) (by omega))⟩⟩, fun q => absurd (by rw [hg]; exact nI_le (a := 1647) (by omega) (by omega)) q⟩
    refine h.sc u2 ?_
    have ec : upd ci 0 (ci 0 + 1) = upd c 0 (nI (z + 1)) := by
      funext j
      by_cases e : j = 0
      · rw [e, upd_s, upd_s, hci, nI_1]
      · rw [upd_n e, upd_n e]
        have := congrFun hcc j
        rw [upd_n e, upd_n e] at this
        exact this
    rw [← ec]
    rfl
  | succ d ih =>
    intro i g H1 hi hg h f
    have hix : (1647 : Int32) * ci 0 + g = nI (1647 * z + i) := by
      rw [hci, hg]
      show nI 1647 * nI z + nI i = _
      rw [pk_mul, nI_add]
    refine hGo_sound (okc_Mo_record K _ _) [51] 60 _ _ _ _ _ ?_
    refine ⟨fun q => absurd (by rw [hg] at q; exact q) (nI_ge (b := 1647) (by omega) (by omega)), fun _ => ⟨_, h.1, _, h.1, _, h.1, 1647, _, i, Or.inl h.v, hg, by omega, by decide, 6588, _, 1647 * z + i, h.hi, hix, by omega, by decide, fun H2 u2 => ?_⟩⟩
    have h2 := h.wh u2
    rw [upB_u] at h2
    have e1 : upd (upB B 1 (cpI F (B 0) (1647 * z) i) 1) (1647 * z + i) (upB B 1 (cpI F (B 0) (1647 * z) i) 0 i) = cpI F (B 0) (1647 * z) (i + 1) := by
      rw [upB_s, upB_n (by decide), cpI_s]
    rw [e1] at h2
    exact ih (i + 1) _ H2 (by omega) (by rw [hg, nI_1]) h2 (f.trans (u2.fr' (by omega) (by omega)))
set_option maxRecDepth 100000 in
set_option maxHeartbeats 4000000 in
theorem l_rec1 {H0 : hAH} (hc : c 0 = nI 4) : ∀ (d i : Nat) (g : Int32) (H1 : hAH), i + d = 4941 → g = nI i → RMo K H1 m c (upB B 1 (sfI (B 1) i)) → hFr m (m + 11) H0 H1 → hJ K M_Mo_record (0, 0) (rcQ K H0 m c B 3 (sfI (B 1) 4941)) 10 (0, 0) [some (.ref m), some (.int g)] [] H1 := by
  intro d
  induction d with
  | zero =>
    intro i g H1 hi hg h f
    obtain rfl : i = 4941 := by omega
    refine hGo_sound (okc_Mo_record K _ _) [10, 51] 60 _ _ _ _ _ ?_
    refine ⟨fun _ => ⟨_, h.1, _, h.1, trivial, fun H2 u2 => ?_⟩, fun q => absurd (by rw [hg]; exact nI_le (a := 4941) (by omega) (by omega)) q⟩
    have h2 : RMo K H2 m (upd c 0 (nI 3)) (upB B 1 (sfI (B 1) 4941)) := h.sc u2 (by
      show moCell m (upd c 0 (c 0 - 1)) = _
      rw [hc]
      rfl)
    refine l_rec2 (by decide) (ci := upd c 0 (nI 3)) upd_s ?_ 1647 0 _ H2 (by decide) rfl (by rw [cpI_0]; exact h2) (f.trans (u2.fr' (by omega) (by omega)))
    funext j
    by_cases e : j = 0
    · rw [e, upd_s, upd_s]
    · rw [upd_n e, upd_n e, upd_n e]
  | succ d ih =>
    intro i g H1 hi hg h f
    refine hGo_sound (okc_Mo_record K _ _) [10, 51] 60 _ _ _ _ _ ?_
    have hix : g + 1647 = nI (i + 1647) := by
      rw [hg]
      exact nI_add i 1647
    refine ⟨fun q => absurd (by rw [hg] at q; exact q) (nI_ge (b := 4941) (by omega) (by omega)), fun _ => ⟨_, h.1, _, h.1, 6588, _, i + 1647, Or.inl h.hi, hix, by omega, by decide, 6588, _, i, h.hi, hg, by omega, by decide, fun H2 u2 => ?_⟩⟩
    have h2 := h.wh u2
    rw [upB_u, upB_s, sfI_s] at h2
    exact ih (i + 1) _ H2 (by omega) (by rw [hg, nI_1]) h2 (f.trans (u2.fr' (by omega) (by omega)))
set_option maxRecDepth 100000 in
set_option maxHeartbeats 4000000 in
/-- one more state in the history -/
theorem c_Mo_record (h : RMo K H m c B) (hp : MPr c B Y) (hY : YOk Y) : hCT K M_Mo_record [.ref m] H 0 0 (fun r H' => r = none ∧ (∃ v f, RMo K H' m (upd c 0 v) (upB B 1 f) ∧ MPr (upd c 0 v) (upB B 1 f) (yRec Y)) ∧ hFr m (m + 11) H H') := by
  have hz := hY.2.1
  have hc : c 0 = nI Y.2.1 := hp.2.1
  have hV : B 0 = Y.1 := hp.1
  refine hCT.go (okc_Mo_record K _ _) [10, 51] 60 (by decide +kernel) rfl rfl ?_
  refine ⟨_, h.1, fun hne => ?_, fun heq => ?_⟩
  · rw [hc] at hne
    have hz4 : Y.2.1 ≠ 4 := fun q => hne (by rw [q]; rfl)
    refine (l_rec2 (c := c) (B := B) (F := B 1) (z := Y.2.1) (by omega) (ci := c) hc rfl 1647 0 _ H (by decide) rfl (by rw [cpI_0, upB_id]; exact h) hFr.rfl).imp ?_
    rintro r H' ⟨rfl, h', f⟩
    refine ⟨rfl, ⟨_, _, h', hV, ?_, fun i hi j hj => ?_, hp.2.2.2⟩, f⟩
    · show nI (Y.2.1 + 1) = nI (if Y.2.1 = 4 then 4 else Y.2.1 + 1)
      rw [if_neg hz4]
    · have hi' : i < (if Y.2.1 = 4 then 4 else Y.2.1 + 1) := hi
      rw [if_neg hz4] at hi'
      show cpI (B 1) (B 0) (1647 * Y.2.1) 1647 (1647 * i + j) = recH Y.1 Y.2.1 Y.2.2.1 i j
      unfold recH cpI
      rw [if_neg hz4]
      by_cases e : i = Y.2.1
      · rw [if_pos e, if_pos (by rw [e]; omega), hV, e, show 1647 * Y.2.1 + j - 1647 * Y.2.1 = j by omega]
      · rw [if_neg e, if_neg (by omega)]
        exact hp.2.2.1 i (by omega) j hj
  · rw [hc] at heq
    have hz4 : Y.2.1 = 4 := nI_inj (by omega) (by decide) heq
    have hc4 : c 0 = nI 4 := by rw [hc, hz4]
    have e0 : upB B 1 (sfI (B 1) 0) = B := by
      rw [sfI_0]
      funext j
      unfold upB
      by_cases e : j = 1
      · rw [if_pos e, e]
      · rw [if_neg e]
    refine (l_rec1 (c := c) (B := B) hc4 4941 0 _ H (by decide) rfl (by rw [e0]; exact h) hFr.rfl).imp ?_
    rintro r H' ⟨rfl, h', f⟩
    refine ⟨rfl, ⟨_, _, h', hV, ?_, fun i hi j hj => ?_, hp.2.2.2⟩, f⟩
    · show nI 4 = nI (if Y.2.1 = 4 then 4 else Y.2.1 + 1)
      rw [if_pos hz4]
    · have hi' : i < (if Y.2.1 = 4 then 4 else Y.2.1 + 1) := hi
      rw [if_pos hz4] at hi'
      show cpI (sfI (B 1) 4941) (B 0) (1647 * 3) 1647 (1647 * i + j) = recH Y.1 Y.2.1 Y.2.2.1 i j
      unfold recH cpI
      rw [if_pos hz4]
      by_cases e : i = 3
      · rw [if_pos e, if_pos (by rw [e]; omega), hV, e, show 1647 * 3 + j - 1647 * 3 = j by omega]
      · rw [if_neg e, if_neg (by omega)]
        unfold sfI
        rw [if_pos (by omega), show 1647 * i + j + 1647 = 1647 * (i + 1) + j by omega]
        exact hp.2.2.1 (i + 1) (by omega) j hj
set_option maxRecDepth 100000 in
set_option maxHeartbeats 4000000 in
theorem c_Mo_charges (h : RMo K H m c B) {k : Nat} (hk : k < 12) : hCT K M_Mo_charges [.ref m, .int (nI k)] H 0 0 (fun r H' => r = none ∧ RMo K H' m c (upB B 0 (chgV (B 0) k)) ∧ hFr m (m + 11) H H') := by
  refine hCT.go (okc_Mo_charges K _ _) [] 60 (by decide +kernel) rfl rfl ?_
  refine ⟨_, h.1, _, c_Mo_at K H k 3, ?_⟩
  rintro _ H ⟨rfl, rfl⟩
  have ei : 15 + 8 * k + 3 = 18 + 8 * k := by omega
  rw [ei]
  refine ⟨1647, _, 18 + 8 * k, Or.inl h.v, rfl, by omega, by decide, _, h.1, 1647, _, 1, Or.inl h.v, rfl, by decide, by decide, _, h.1, 1647, _, 5, Or.inl h.v, rfl, by decide, by decide, fun hle => ?_, fun hgt => ?_⟩
  · refine ⟨1647, _, 18 + 8 * k, h.v, rfl, by omega, by decide, fun H2 u2 => ⟨rfl, ?_, u2.fr' (by omega) (by omega)⟩⟩
    have h2 := h.wv u2
    have e : upd (B 0) (18 + 8 * k) (B 0 (18 + 8 * k) + 0) = chgV (B 0) k := by
      unfold chgV
      rw [if_neg (Int32.not_lt.mpr hle), Int32.add_zero]
      funext j
      by_cases e : j = 18 + 8 * k
      · rw [e, upd_s]
      · rw [upd_n e]
    rw [e] at h2
    exact h2
  · refine ⟨_, h.1, 1647, _, 6, Or.inl h.v, rfl, by decide, by decide, 1647, _, 18 + 8 * k, h.v, rfl, by omega, by decide, fun H2 u2 => ⟨rfl, ?_, u2.fr' (by omega) (by omega)⟩⟩
    have h2 := h.wv u2
    have e : upd (B 0) (18 + 8 * k) (B 0 (18 + 8 * k) + B 0 6) = chgV (B 0) k := by
      unfold chgV
      rw [if_pos (Int32.not_le.mp hgt)]
    rw [e] at h2
    exact h2
def chgQ (K : hK) (H : hAH) (m : Nat) (c : Nat → Int32) (B : Nat → Nat → Int32) (Y : hY) (i : Nat) (v : Int32) : hPost := fun r H' => (Y.1 7 = 1 ∧ r = some (.int (-4)) ∧ H' = H) ∨ (¬ Y.1 7 = 1 ∧ Y.1 i = v ∧ r = some (.int (-5)) ∧ H' = H) ∨
  (¬ Y.1 7 = 1 ∧ ¬ Y.1 i = v ∧ r = some (.int (Y.1 i)) ∧ (∃ q f, RMo K H' m (upd c 0 q) (upB (upB B 1 f) 0 (upd Y.1 i v)) ∧ MPr (upd c 0 q) (upB (upB B 1 f) 0 (upd Y.1 i v)) (yAct Y (upd Y.1 i v))) ∧ hFr m (m + 11) H H')
set_option maxRecDepth 100000 in
set_option maxHeartbeats 4000000 in
theorem c_Mo_changes (h : RMo K H m c B) (hp : MPr c B Y) (hY : YOk Y) {i : Nat} (hi : i < 1647) (v : Int32) : hCT K M_Mo_changes [.ref m, .int (nI i), .int v] H 0 0 (chgQ K H m c B Y i v) := by
  have hV : B 0 = Y.1 := hp.1
  refine hCT.go (okc_Mo_changes K _ _) [] 60 (by decide +kernel) rfl rfl ?_
  refine ⟨_, h.1, _, c_Mo_isFixed h, ?_⟩
  rintro _ H ⟨rfl, rfl⟩
  rw [hV]
  refine ⟨fun hz => ?_, fun hz => ?_⟩
  · have h71 := of_decide_eq_false (b2i_0.mp hz)
    refine ⟨_, h.1, 1647, _, i, Or.inl h.v, rfl, hi, by decide, fun hne => ?_, fun heq => ?_⟩
    · rw [hV] at hne
      refine ⟨_, h.1, _, c_Mo_record h hp hY, ?_⟩
      rintro _ H1 ⟨rfl, ⟨q, f, h', hp'⟩, f1⟩
      refine ⟨_, h'.1, 1647, _, i, Or.inl h'.v, rfl, hi, by decide, _, h'.1, 1647, _, i, h'.v, rfl, hi, by decide, fun H2 u2 => ⟨trivial, Or.inr (Or.inr ⟨h71, hne, ?_, ⟨q, f, ?_, ?_⟩, f1.trans (u2.fr' (by omega) (by omega))⟩)⟩⟩
      · rw [upB_n (by decide), hV]
      · have h2 := h'.wv u2
        rw [upB_n (by decide), hV] at h2
        exact h2
      · exact ⟨rfl, hp'.2⟩
    · rw [hV] at heq
      exact ⟨trivial, Or.inr (Or.inl ⟨h71, heq, rfl, rfl⟩)⟩
  · have h71 := of_decide_eq_true (b2i_n0.mp hz)
    exact ⟨trivial, Or.inl ⟨h71, rfl, rfl⟩⟩
end MR
