/-! THE REFERENCE: its acts -/
section MAc
variable {K : hK} {H : hAH} {m : Nat} {c : Nat → Int32} {B : Nat → Nat → Int32} {Y : hY}
theorem mN (h : RMo K H m c B) (hp : MPr c B Y) {x : Int32} {a : Ans} (e : a = (x, Y)) : mPost K m H a (some (.int x)) H := mA h hp hFr.rfl e hYeq.rfl
set_option maxRecDepth 100000 in
set_option maxHeartbeats 4000000 in
theorem c_Mo_setLimit (h : RMo K H m c B) (hp : MPr c B Y) (hY : YOk Y) (g l : Int32) : hCT K M_Mo_setLimit [.ref m, .int g, .int l] H 0 0 (mPost K m H (sp_setLimit Y g l)) := by
  have wf := hY.1
  have hV : B 0 = Y.1 := hp.1
  have hn := wf.1.2
  refine hCT.go (okc_Mo_setLimit K _ _) [] 60 (by decide +kernel) rfl rfl ?_
  refine ⟨_, h.1, _, c_Mo_isGuest h g, ?_⟩
  rintro _ H ⟨rfl, rfl⟩
  rw [hV]
  refine ⟨fun hq => ?_, fun hq => ?_⟩
  · have hg := of_decide_eq_true (b2i_n0.mp hq)
    obtain ⟨k, hk, rfl⟩ := (gOk_iff wf).mp hg
    have ek : clp (nI k) = k := clp_nI (by omega)
    refine ⟨_, c_Mo_in K H _ _ _, ?_⟩
    rintro _ H ⟨rfl, rfl⟩
    rw [b2i_if]
    refine ⟨fun hl => ?_, fun hl => ?_⟩
    · have hl := of_decide_eq_true (b2i_n0.mp hl)
      refine ⟨_, c_Mo_at K H k 0, ?_⟩
      rintro _ H ⟨rfl, rfl⟩
      refine ⟨_, h.1, _, c_Mo_changes h hp hY (i := 15 + 8 * k + 0) (by omega) l, ?_⟩
      rintro _ H1 (⟨h71, rfl, rfl⟩ | ⟨h71, he, rfl, rfl⟩ | ⟨h71, hne, rfl, ⟨q, f, h', hp'⟩, f1⟩)
      · refine ⟨fun _ => ⟨trivial, mN h hp ?_⟩, fun z => absurd (by decide) z⟩
        rw [sp_setLimit, if_neg (fun q => q hg), if_neg (fun q => q hl), if_pos h71]
      · refine ⟨fun _ => ⟨trivial, mN h hp ?_⟩, fun z => absurd (by decide) z⟩
        have he' : vG Y.1 k 0 = l := he
        rw [sp_setLimit, if_neg (fun q => q hg), if_neg (fun q => q hl), if_neg h71, ek, if_pos he']
      · obtain ⟨d, hd, ed⟩ := (wf.2.2.2.2.1 k hk).1
        have ed' : Y.1 (15 + 8 * k + 0) = nI d := ed
        refine ⟨fun z => absurd (by rw [ed'] at z; exact z) (nI_pos (by omega)), fun _ => ⟨_, h'.1, _, c_Mo_charges h' (k := k) (by omega), ?_⟩⟩
        rintro _ H2 ⟨rfl, h2, f2⟩
        rw [upB_s] at h2
        refine ⟨trivial, mA h2 (Y2 := yAct Y (chgV (upd Y.1 (15 + 8 * k + 0) l) k)) ⟨upB_s, hp'.2⟩ (f1.trans f2) ?_ hYeq.rfl⟩
        have hne' : ¬ vG Y.1 k 0 = l := hne
        rw [sp_setLimit, if_neg (fun q => q hg), if_neg (fun q => q hl), if_neg h71, ek, if_neg hne']
        rfl
    · have hl := of_decide_eq_false (b2i_0.mp hl)
      exact ⟨trivial, mN h hp (by rw [sp_setLimit, if_neg (fun q => q hg), if_pos hl])⟩
  · have hg := of_decide_eq_false (b2i_0.mp hq)
    exact ⟨trivial, mN h hp (by rw [sp_setLimit, if_pos hg])⟩
set_option maxRecDepth 100000 in
set_option maxHeartbeats 4000000 in
theorem c_Mo_setWeight (h : RMo K H m c B) (hp : MPr c B Y) (hY : YOk Y) (g l : Int32) : hCT K M_Mo_setWeight [.ref m, .int g, .int l] H 0 0 (mPost K m H (sp_setWeight Y g l)) := by
  have wf := hY.1
  have hV : B 0 = Y.1 := hp.1
  have hn := wf.1.2
  refine hCT.go (okc_Mo_setWeight K _ _) [] 60 (by decide +kernel) rfl rfl ?_
  refine ⟨_, h.1, _, c_Mo_isGuest h g, ?_⟩
  rintro _ H ⟨rfl, rfl⟩
  rw [hV]
  refine ⟨fun hq => ?_, fun hq => ?_⟩
  · have hg := of_decide_eq_true (b2i_n0.mp hq)
    obtain ⟨k, hk, rfl⟩ := (gOk_iff wf).mp hg
    have ek : clp (nI k) = k := clp_nI (by omega)
    have e16 : 15 + 8 * k + 1 = 16 + 8 * k := by omega
    refine ⟨_, c_Mo_in K H _ _ _, ?_⟩
    rintro _ H ⟨rfl, rfl⟩
    rw [b2i_if]
    refine ⟨fun hl => ?_, fun hl => ?_⟩
    · have hl := of_decide_eq_false (b2i_0.mp hl)
      exact ⟨trivial, mN h hp (by rw [sp_setWeight, if_neg (fun q => q hg), if_pos hl])⟩
    · have hl := of_decide_eq_true (b2i_n0.mp hl)
      refine ⟨_, c_Mo_at K H k 1, ?_⟩
      rintro _ H ⟨rfl, rfl⟩
      refine ⟨_, h.1, _, c_Mo_changes h hp hY (i := 15 + 8 * k + 1) (by omega) l, ?_⟩
      rintro _ H1 (⟨h71, rfl, rfl⟩ | ⟨h71, he, rfl, rfl⟩ | ⟨h71, hne, rfl, ⟨q, f, h', hp'⟩, f1⟩)
      · refine ⟨trivial, mN h hp ?_⟩
        rw [sp_setWeight, if_neg (fun q => q hg), if_neg (fun q => q hl), if_pos h71]
      · refine ⟨trivial, mN h hp ?_⟩
        have he' : vG Y.1 k 1 = l := he
        rw [sp_setWeight, if_neg (fun q => q hg), if_neg (fun q => q hl), if_neg h71, ek, if_pos he']
      · have hne' : ¬ vG Y.1 k 1 = l := hne
        refine ⟨trivial, mA h' hp' f1 ?_ hYeq.rfl⟩
        rw [sp_setWeight, if_neg (fun q => q hg), if_neg (fun q => q hl), if_neg h71, ek, if_neg hne', e16]
        show (Y.1 (15 + 8 * k + 1), _) = _
        rw [e16]
  · have hg := of_decide_eq_false (b2i_0.mp hq)
    exact ⟨trivial, mN h hp (by rw [sp_setWeight, if_pos hg])⟩
set_option maxRecDepth 100000 in
set_option maxHeartbeats 4000000 in
theorem c_Mo_invite (h : RMo K H m c B) (hp : MPr c B Y) (hY : YOk Y) (g l : Int32) (hl : l = 0 ∨ l = 1) : hCT K M_Mo_invite [.ref m, .int g, .int l] H 0 0 (mPost K m H (sp_invite Y g l)) := by
  have wf := hY.1
  have hV : B 0 = Y.1 := hp.1
  have hn := wf.1.2
  refine hCT.go (okc_Mo_invite K _ _) [25] 60 (by decide +kernel) rfl rfl ?_
  refine ⟨_, h.1, _, c_Mo_isGuest h g, ?_⟩
  rintro _ H ⟨rfl, rfl⟩
  rw [hV]
  refine ⟨fun hq => ?_, fun hq => ?_⟩
  · have hg := of_decide_eq_true (b2i_n0.mp hq)
    obtain ⟨k, hk, rfl⟩ := (gOk_iff wf).mp hg
    have ek : clp (nI k) = k := clp_nI (by omega)
    have e17 : 15 + 8 * k + 2 = 17 + 8 * k := by omega
    refine ⟨_, c_Mo_at K H k 2, ?_⟩
    rintro _ H ⟨rfl, rfl⟩
    have J25 : hJ K M_Mo_invite (0, 0) (mPost K m H (sp_invite Y (nI k) l)) 25 (0, 0) [some (.ref m), some (.int (nI k)), some (.int l), none] [.int l, .int (nI (15 + 8 * k + 2)), .ref m] H := by
      refine hGo_sound (okc_Mo_invite K _ _) [] 60 _ _ _ _ _ ?_
      refine ⟨_, h.1, _, c_Mo_changes h hp hY (i := 15 + 8 * k + 2) (by omega) l, ?_⟩
      rintro _ H1 (⟨h71, rfl, rfl⟩ | ⟨h71, he, rfl, rfl⟩ | ⟨h71, hne, rfl, ⟨q, f, h', hp'⟩, f1⟩)
      · refine ⟨fun z => absurd z (by decide), fun _ => ⟨trivial, mN h hp ?_⟩⟩
        rw [sp_invite, if_neg (fun q => q hg), if_pos h71]
      · refine ⟨fun z => absurd z (by decide), fun _ => ⟨trivial, mN h hp ?_⟩⟩
        have he' : vG Y.1 k 2 = l := he
        rw [sp_invite, if_neg (fun q => q hg), if_neg h71, ek, if_pos he']
      · have hne' : ¬ vG Y.1 k 2 = l := hne
        have hge : 0 ≤ Y.1 (15 + 8 * k + 2) := by
          rcases (wf.2.2.2.2.1 k hk).2.2.1 with e | e
          · have e' : Y.1 (15 + 8 * k + 2) = 0 := e
            rw [e']; decide
          · have e' : Y.1 (15 + 8 * k + 2) = 1 := e
            rw [e']; decide
        refine ⟨fun _ => ⟨_, h'.1, _, c_Mo_charges h' (k := k) (by omega), ?_⟩, fun z => absurd hge z⟩
        rintro _ H2 ⟨rfl, h2, f2⟩
        rw [upB_s] at h2
        have wf2 := wf.gu hk (c := 2) (by decide) (v := l) (fun q => absurd q (by decide)) (fun q => absurd q (by decide)) (fun _ => hl)
        have wf3 := wf2.ch (k := k) (by rw [vN_n (by omega)]; exact hk)
        refine ⟨_, h2.1, _, c_Mo_invited h2 (by rw [upB_s]; exact wf3), ?_⟩
        rintro _ H2 ⟨rfl, rfl⟩
        rw [upB_s]
        refine ⟨_, c_Mo_ones K H2 (setOf_12 _), ?_⟩
        rintro _ H2 ⟨rfl, rfl⟩
        refine ⟨trivial, mA h2 (Y2 := yAct Y (chgV (upd Y.1 (15 + 8 * k + 2) l) k)) ⟨upB_s, hp'.2⟩ (f1.trans f2) ?_ hYeq.rfl⟩
        rw [sp_invite, if_neg (fun q => q hg), if_neg h71, ek, if_neg hne', e17]
    rcases hl with rfl | rfl
    · exact ⟨fun _ => J25, fun z => absurd rfl z⟩
    · exact ⟨fun z => absurd z (by decide), fun _ => J25⟩
  · have hg := of_decide_eq_false (b2i_0.mp hq)
    exact ⟨trivial, mN h hp (by rw [sp_invite, if_pos hg])⟩
set_option maxRecDepth 100000 in
set_option maxHeartbeats 4000000 in
theorem c_Mo_set (h : RMo K H m c B) (hp : MPr c B Y) (hY : YOk Y) (x v : Int32) : hCT K M_Mo_set [.ref m, .int x, .int v] H 0 0 (mPost K m H (sp_set Y x v)) := by
  have wf := hY.1
  refine hCT.go (okc_Mo_set K _ _) [] 60 (by decide +kernel) rfl rfl ?_
  refine ⟨_, c_Mo_in K H _ _ _, ?_⟩
  rintro _ H ⟨rfl, rfl⟩
  rw [b2i_if]
  refine ⟨fun hw => ?_, fun hw => ?_⟩
  · have hw := of_decide_eq_false (b2i_0.mp hw)
    exact ⟨trivial, mN h hp (by rw [sp_set, if_pos hw])⟩
  · have hw := of_decide_eq_true (b2i_n0.mp hw)
    obtain ⟨j, hj, rfl⟩ := nI_of2 (M := 4) (n := 4) (by decide) (Int32.not_lt.mpr hw.1) hw.2
    have ej : clp (nI j) = j := clp_nI (by omega)
    have hj5 : j < 5 := by omega
    obtain ⟨elo, ehi⟩ := hp.2.2.2.2.2.2.2 j hj5
    refine ⟨_, h.1, 5, _, j, Or.inl h.lo, rfl, hj5, by decide, _, h.1, 5, _, j, Or.inl h.hg, rfl, hj5, by decide, _, c_Mo_in K H _ _ _, ?_⟩
    rintro _ H ⟨rfl, rfl⟩
    rw [b2i_if, elo, ehi]
    refine ⟨fun hv => ?_, fun hv => ?_⟩
    · have hv := of_decide_eq_true (b2i_n0.mp hv)
      have ei : (2 : Int32) + nI j = nI (2 + j) := nI_add 2 j
      refine ⟨_, h.1, _, ei ▸ c_Mo_changes h hp hY (i := 2 + j) (by omega) v, ?_⟩
      rintro _ H1 (⟨h71, rfl, rfl⟩ | ⟨h71, he, rfl, rfl⟩ | ⟨h71, hne, rfl, ⟨q, f, h', hp'⟩, f1⟩)
      · exact ⟨trivial, mN h hp (by rw [sp_set, if_neg (fun q => q hw), ej, if_neg (fun q => q hv), if_pos h71])⟩
      · exact ⟨trivial, mN h hp (by rw [sp_set, if_neg (fun q => q hw), ej, if_neg (fun q => q hv), if_neg h71, if_pos he])⟩
      · exact ⟨trivial, mA h' hp' f1 (by rw [sp_set, if_neg (fun q => q hw), ej, if_neg (fun q => q hv), if_neg h71, if_neg hne]) hYeq.rfl⟩
    · have hv := of_decide_eq_false (b2i_0.mp hv)
      exact ⟨trivial, mN h hp (by rw [sp_set, if_neg (fun q => q hw), ej, if_pos hv])⟩
set_option maxRecDepth 100000 in
set_option maxHeartbeats 4000000 in
theorem c_Mo_pass (h : RMo K H m c B) (hp : MPr c B Y) (hY : YOk Y) (d : Int32) : hCT K M_Mo_pass [.ref m, .int d] H 0 0 (mPost K m H (sp_pass Y d)) := by
  have hV : B 0 = Y.1 := hp.1
  refine hCT.go (okc_Mo_pass K _ _) [] 60 (by decide +kernel) rfl rfl ?_
  refine ⟨_, c_Mo_in K H _ _ _, ?_⟩
  rintro _ H ⟨rfl, rfl⟩
  rw [b2i_if]
  refine ⟨fun hd => ?_, fun hd => ?_⟩
  · have hd := of_decide_eq_true (b2i_n0.mp hd)
    refine ⟨_, h.1, 1647, _, 1, Or.inl h.v, rfl, by decide, by decide, fun hle => ?_, fun hgt => ?_⟩
    · rw [hV] at hle
      refine ⟨_, h.1, _, c_Mo_record h hp hY, ?_⟩
      rintro _ H1 ⟨rfl, ⟨q, f, h', hp'⟩, f1⟩
      refine ⟨_, h'.1, 1647, _, 1, Or.inl h'.v, rfl, by decide, by decide, 1647, _, 1, h'.v, rfl, by decide, by decide, fun H2 u2 => ?_⟩
      have h2 := h'.wv u2
      rw [upB_n (by decide), hV] at h2
      refine ⟨_, h2.1, 1647, _, 1, Or.inl h2.v, rfl, by decide, by decide, trivial, ?_⟩
      refine mA h2 (Y2 := yAct Y (upd Y.1 1 (Y.1 1 + d))) ⟨upB_s, hp'.2⟩ (f1.trans (u2.fr' (by omega) (by omega))) ?_ hYeq.rfl
      rw [sp_pass, if_neg (fun q => q hd), if_neg (Int32.not_lt.mpr hle), upB_s, upd_s]
    · rw [hV] at hgt
      exact ⟨trivial, mN h hp (by rw [sp_pass, if_neg (fun q => q hd), if_pos (Int32.not_le.mp hgt)])⟩
  · have hd := of_decide_eq_false (b2i_0.mp hd)
    exact ⟨trivial, mN h hp (by rw [sp_pass, if_pos hd])⟩
set_option maxRecDepth 100000 in
set_option maxHeartbeats 4000000 in
theorem c_Mo_clearText (h : RMo K H m c B) (hp : MPr c B Y) : hCT K M_Mo_clearText [.ref m] H 0 0 (mPost K m H (sp_clearText Y)) := by
  refine hCT.go (okc_Mo_clearText K _ _) [] 60 (by decide +kernel) rfl rfl ?_
  refine ⟨_, h.1, _, h.1, trivial, fun H2 u2 => ⟨trivial, ?_⟩⟩
  have h2 : RMo K H2 m (upd c 2 0) B := h.sc u2 rfl
  obtain ⟨p1, p2, p3, p4, p5, p6, p7, p8⟩ := hp
  refine mA h2 (Y2 := (Y.1, Y.2.1, Y.2.2.1, Y.2.2.2.1, Y.2.2.2.2.1, 0, Y.2.2.2.2.2.2)) ⟨p1, p2, p3, p4, p5, rfl, fun j hj => absurd hj (Nat.not_lt_zero j), p8⟩ (u2.fr' (by omega) (by omega)) ?_ hYeq.rfl
  rw [p6]
  rfl
set_option maxRecDepth 100000 in
set_option maxHeartbeats 4000000 in
theorem c_Mo_type (h : RMo K H m c B) (hp : MPr c B Y) (hY : YOk Y) {x : Nat} (hx : x < 65536) : hCT K M_Mo_type [.ref m, .int (nI x)] H 0 0 (mPost K m H (sp_type Y x)) := by
  obtain ⟨p1, p2, p3, p4, p5, p6, p7, p8⟩ := id hp
  have hlen := hY.2.2.2.2.2.1
  refine hCT.go (okc_Mo_type K _ _) [] 60 (by decide +kernel) rfl rfl ?_
  refine ⟨_, h.1, fun hne => ?_, fun heq => ?_⟩
  · rw [p6] at hne
    have hlt : Y.2.2.2.2.2.1 ≠ 60 := fun q => hne (by rw [q]; rfl)
    refine ⟨_, h.1, _, h.1, 60, _, Y.2.2.2.2.2.1, h.tx, p6, by omega, by decide, fun H2 u2 => ?_⟩
    have h2 := h.bk (j := 3) (by decide) u2
    refine ⟨_, h2.1, _, h2.1, trivial, fun H3 u3 => ?_⟩
    have h3 : RMo K H3 m (upd c 2 (nI (Y.2.2.2.2.2.1 + 1))) (upB B 3 (upd (B 3) Y.2.2.2.2.2.1 (nI x))) := h2.sc u3 (by
      show moCell m (upd c 2 (c 2 + 1)) = _
      rw [p6, nI_1])
    refine ⟨_, h3.1, trivial, ?_⟩
    refine mA h3 (Y2 := (Y.1, Y.2.1, Y.2.2.1, Y.2.2.2.1, Y.2.2.2.2.1, Y.2.2.2.2.2.1 + 1, up Y.2.2.2.2.2.2 Y.2.2.2.2.2.1 x)) ⟨p1, p2, p3, p4, p5, rfl, fun j hj => ?_, p8⟩ ((u2.fr' (by omega) (by omega)).trans (u3.fr' (by omega) (by omega))) ?_ hYeq.rfl
    · have hj' : j < Y.2.2.2.2.2.1 + 1 := hj
      show upd (B 3) Y.2.2.2.2.2.1 (nI x) j = nI (up Y.2.2.2.2.2.2 Y.2.2.2.2.2.1 x j)
      unfold up
      by_cases e : j = Y.2.2.2.2.2.1
      · rw [if_pos e, e, upd_s]
      · rw [if_neg e, upd_n e]
        exact p7 j (by omega)
    · rw [sp_type, if_neg hlt, upd_s]
  · rw [p6] at heq
    have h60 : Y.2.2.2.2.2.1 = 60 := nI_inj (by omega) (by decide) heq
    exact ⟨trivial, mN h hp (by rw [sp_type, if_pos h60])⟩
end MAc
