/-! THE LAW: the class's calls with what they answer; the law's small helpers -/
section LWA
variable {K : hK} {H : hAH} {b : Nat} {Y : hY}
/-- the party stands at b -/
def PY (K : hK) (H : hAH) (b : Nat) (Y : hY) : Prop := CP K H b Y ∧ YOk Y
theorem PY.obj (p : PY K H b Y) : H.2 b = some (paCell b Y.2.2.2.1 Y.2.2.2.2.2.1) := by
  obtain ⟨⟨S, N, π, D, C, P, T, lr, Z, h⟩, -⟩ := p
  exact h.1
theorem PY.w (p : PY K H b Y) : WF Y.1 := p.2.1
def RQ (K : hK) (b : Nat) (Y : hY) (v : Int32) : hPost := fun r H' => r = some (.int v) ∧ PY K H' b Y
theorem q_guest (p : PY K H b Y) {g x v : Int32} (e : sp_guest Y g x = v) : hCT K M_Pa_guest [.ref b, .int g, .int x] H 0 0 (RQ K b Y v) := by
  obtain ⟨⟨S, N, π, D, C, P, T, lr, Z, h⟩, ok⟩ := p
  exact (c_guest h ok g x).mono fun r H' q => ⟨by rw [← e]; exact q.1, q.2.1, ok⟩
theorem q_met (p : PY K H b Y) {g x v : Int32} (e : sp_met Y g x = v) : hCT K M_Pa_met [.ref b, .int g, .int x] H 0 0 (RQ K b Y v) := by
  obtain ⟨⟨S, N, π, D, C, P, T, lr, Z, h⟩, ok⟩ := p
  exact (c_met h ok g x).mono fun r H' q => ⟨by rw [← e]; exact q.1, q.2.1, ok⟩
theorem q_stable (p : PY K H b Y) {x v : Int32} (e : sp_stable Y x = v) : hCT K M_Pa_stable [.ref b, .int x] H 0 0 (RQ K b Y v) := by
  obtain ⟨⟨S, N, π, D, C, P, T, lr, Z, h⟩, ok⟩ := p
  exact (c_stable h ok x).mono fun r H' q => ⟨by rw [← e]; exact q.1, q.2.1, ok⟩
theorem q_fee (p : PY K H b Y) {x v : Int32} (e : sp_fee Y x = v) : hCT K M_Pa_fee [.ref b, .int x] H 0 0 (RQ K b Y v) := by
  obtain ⟨⟨S, N, π, D, C, P, T, lr, Z, h⟩, ok⟩ := p
  exact (c_fee h x).mono fun r H' q => ⟨by rw [← e]; exact q.1, q.2.1, ok⟩
theorem q_seat (p : PY K H b Y) {x v : Int32} (e : sp_seat Y x = v) : hCT K M_Pa_seat [.ref b, .int x] H 0 0 (RQ K b Y v) := by
  obtain ⟨⟨S, N, π, D, C, P, T, lr, Z, h⟩, ok⟩ := p
  exact (c_seat h ok x).mono fun r H' q => ⟨by rw [← e]; exact q.1, q.2.1, ok⟩
theorem q_companies (p : PY K H b Y) {v : Int32} (e : sp_companies Y = v) : hCT K M_Pa_companies [.ref b] H 0 0 (RQ K b Y v) := by
  obtain ⟨⟨S, N, π, D, C, P, T, lr, Z, h⟩, ok⟩ := p
  exact (c_companies h ok).mono fun r H' q => ⟨by rw [← e]; exact q.1, q.2.1, ok⟩
theorem q_company (p : PY K H b Y) {x v : Int32} (e : sp_company Y x = v) : hCT K M_Pa_company [.ref b, .int x] H 0 0 (RQ K b Y v) := by
  obtain ⟨⟨S, N, π, D, C, P, T, lr, Z, h⟩, ok⟩ := p
  exact (c_company h ok x).mono fun r H' q => ⟨by rw [← e]; exact q.1, q.2.1, ok⟩
theorem q_rounds (p : PY K H b Y) {v : Int32} (e : sp_rounds Y = v) : hCT K M_Pa_rounds [.ref b] H 0 0 (RQ K b Y v) := by
  obtain ⟨⟨S, N, π, D, C, P, T, lr, Z, h⟩, ok⟩ := p
  exact (c_rounds h ok).mono fun r H' q => ⟨by rw [← e]; exact q.1, q.2.1, ok⟩
theorem q_why (p : PY K H b Y) {g x v : Int32} (e : sp_why Y g x = v) : hCT K M_Pa_why [.ref b, .int g, .int x] H 0 0 (RQ K b Y v) := by
  obtain ⟨⟨S, N, π, D, C, P, T, lr, Z, h⟩, ok⟩ := p
  exact (c_why h ok g x).mono fun r H' q => ⟨by rw [← e]; exact q.1, q.2.1, ok⟩
theorem q_needs (p : PY K H b Y) {g v : Int32} (e : sp_needs Y g = v) : hCT K M_Pa_needs [.ref b, .int g] H 0 0 (RQ K b Y v) := by
  obtain ⟨⟨S, N, π, D, C, P, T, lr, Z, h⟩, ok⟩ := p
  exact (c_needs h ok g).mono fun r H' q => ⟨by rw [← e]; exact q.1, q.2.1, ok⟩
theorem q_weightOf (p : PY K H b Y) {g v : Int32} (e : sp_weightOf Y g = v) : hCT K M_Pa_weightOf [.ref b, .int g] H 0 0 (RQ K b Y v) := by
  obtain ⟨⟨S, N, π, D, C, P, T, lr, Z, h⟩, ok⟩ := p
  exact (c_weightOf h ok g).mono fun r H' q => ⟨by rw [← e]; exact q.1, q.2.1, ok⟩
theorem q_leastLimit (p : PY K H b Y) {g v : Int32} (e : sp_leastLimit Y g = v) : hCT K M_Pa_leastLimit [.ref b, .int g] H 0 0 (RQ K b Y v) := by
  obtain ⟨⟨S, N, π, D, C, P, T, lr, Z, h⟩, ok⟩ := p
  exact (c_leastLimit h ok g).mono fun r H' q => ⟨by rw [← e]; exact q.1, q.2.1, ok⟩
theorem q_count (p : PY K H b Y) {x v : Int32} (e : sp_count Y x = v) : hCT K M_Pa_count [.ref b, .int x] H 0 0 (RQ K b Y v) := by
  obtain ⟨⟨S, N, π, D, C, P, T, lr, Z, h⟩, ok⟩ := p
  exact (c_count h ok x).mono fun r H' q => ⟨by rw [← e]; exact q.1, q.2.1, ok⟩
theorem q_n (p : PY K H b Y) : hCT K M_Pa_count [.ref b, .int 1] H 0 0 (RQ K b Y (nI (vN Y.1))) := q_count p p.2.1.1.1
theorem q_gu (p : PY K H b Y) {k : Nat} (hk : k < vN Y.1) {f : Nat} (hf : f < 8) : hCT K M_Pa_guest [.ref b, .int (nI k), .int (nI f)] H 0 0 (RQ K b Y (vG Y.1 k f)) := q_guest p (a_guest p.2.1 hk hf)
theorem q_addGuest (p : PY K H b Y) (l w : Int32) : hCT K M_Pa_addGuest [.ref b, .int l, .int w] H 0 0 (RQ K b (sp_addGuest Y l w).2 (sp_addGuest Y l w).1) := by
  obtain ⟨⟨S, N, π, D, C, P, T, lr, Z, h⟩, ok⟩ := p
  exact (c_addGuest h ok l w).mono fun r H' q => ⟨q.1, q.2.1, ok_addGuest ok l w⟩
theorem q_setLimit (p : PY K H b Y) (g l : Int32) : hCT K M_Pa_setLimit [.ref b, .int g, .int l] H 0 0 (RQ K b (sp_setLimit Y g l).2 (sp_setLimit Y g l).1) := by
  obtain ⟨⟨S, N, π, D, C, P, T, lr, Z, h⟩, ok⟩ := p
  exact (c_setLimit h ok g l).mono fun r H' q => ⟨q.1, q.2.1, ok_setLimit ok g l⟩
theorem q_setWeight (p : PY K H b Y) (g l : Int32) : hCT K M_Pa_setWeight [.ref b, .int g, .int l] H 0 0 (RQ K b (sp_setWeight Y g l).2 (sp_setWeight Y g l).1) := by
  obtain ⟨⟨S, N, π, D, C, P, T, lr, Z, h⟩, ok⟩ := p
  exact (c_setWeight h ok g l).mono fun r H' q => ⟨q.1, q.2.1, ok_setWeight ok g l⟩
theorem q_invite (p : PY K H b Y) (g l : Int32) (hl : l = 0 ∨ l = 1) : hCT K M_Pa_invite [.ref b, .int g, .int l] H 0 0 (RQ K b (sp_invite Y g l).2 (sp_invite Y g l).1) := by
  obtain ⟨⟨S, N, π, D, C, P, T, lr, Z, h⟩, ok⟩ := p
  exact (c_invite h ok g l hl).mono fun r H' q => ⟨q.1, q.2.1, ok_invite ok g l hl⟩
theorem q_set (p : PY K H b Y) (hK' : hSetK K) (x v : Int32) : hCT K M_Pa_set [.ref b, .int x, .int v] H 0 0 (RQ K b (sp_set Y x v).2 (sp_set Y x v).1) := by
  obtain ⟨⟨S, N, π, D, C, P, T, lr, Z, h⟩, ok⟩ := p
  exact (c_set h ok hK' x v).mono fun r H' q => ⟨q.1, q.2.1, ok_set ok x v⟩
theorem q_pass (p : PY K H b Y) (d : Int32) : hCT K M_Pa_pass [.ref b, .int d] H 0 0 (RQ K b (sp_pass Y d).2 (sp_pass Y d).1) := by
  obtain ⟨⟨S, N, π, D, C, P, T, lr, Z, h⟩, ok⟩ := p
  exact (c_pass h ok d).mono fun r H' q => ⟨q.1, q.2.1, ok_pass ok d⟩
theorem q_fix (p : PY K H b Y) : hCT K M_Pa_fix [.ref b] H 0 0 (RQ K b (sp_fix Y).2 (sp_fix Y).1) := by
  obtain ⟨⟨S, N, π, D, C, P, T, lr, Z, h⟩, ok⟩ := p
  exact (c_fix h ok).mono fun r H' q => ⟨q.1, q.2.1, ok_fix ok⟩
theorem q_cancel (p : PY K H b Y) (g : Int32) : hCT K M_Pa_cancel [.ref b, .int g] H 0 0 (RQ K b (sp_cancel Y g).2 (sp_cancel Y g).1) := by
  obtain ⟨⟨S, N, π, D, C, P, T, lr, Z, h⟩, ok⟩ := p
  exact (c_cancel h ok g).mono fun r H' q => ⟨q.1, q.2.1, ok_cancel ok g⟩
theorem q_dissolve (p : PY K H b Y) : hCT K M_Pa_dissolve [.ref b] H 0 0 (RQ K b (sp_dissolve Y).2 (sp_dissolve Y).1) := by
  obtain ⟨⟨S, N, π, D, C, P, T, lr, Z, h⟩, ok⟩ := p
  exact (c_dissolve h ok).mono fun r H' q => ⟨q.1, q.2.1, ok_dissolve ok⟩
theorem q_type (p : PY K H b Y) {c : Nat} (hc : c < 65536) : hCT K M_Pa_type [.ref b, .int (nI c)] H 0 0 (RQ K b (sp_type Y c).2 (sp_type Y c).1) := by
  obtain ⟨⟨S, N, π, D, C, P, T, lr, Z, h⟩, ok⟩ := p
  exact (c_type h ok hc).mono fun r H' q => ⟨q.1, q.2.1, ok_type ok hc⟩
theorem q_clearText (p : PY K H b Y) : hCT K M_Pa_clearText [.ref b] H 0 0 (RQ K b (sp_clearText Y).2 (sp_clearText Y).1) := by
  obtain ⟨⟨S, N, π, D, C, P, T, lr, Z, h⟩, ok⟩ := p
  exact (c_clearText h).mono fun r H' q => ⟨q.1, q.2.1, ok_clearText ok⟩
theorem q_undo (p : PY K H b Y) : hCT K M_Pa_undo [.ref b] H 0 0 (RQ K b (sp_undo Y).2 (sp_undo Y).1) := by
  obtain ⟨⟨S, N, π, D, C, P, T, lr, Z, h⟩, ok⟩ := p
  exact (c_undo h ok).mono fun r H' q => ⟨q.1, q.2.1, ok_undo ok⟩
theorem q_keep (p : PY K H b Y) : hCT K M_Pa_keep [.ref b] H 0 0 (RQ K b (sp_keep Y).2 (sp_keep Y).1) := by
  obtain ⟨⟨S, N, π, D, C, P, T, lr, Z, h⟩, ok⟩ := p
  exact (c_keep h ok).mono fun r H' q => ⟨q.1, q.2.1, ok_keep ok⟩
theorem q_restore (p : PY K H b Y) : hCT K M_Pa_restore [.ref b] H 0 0 (RQ K b (sp_restore Y).2 (sp_restore Y).1) := by
  obtain ⟨⟨S, N, π, D, C, P, T, lr, Z, h⟩, ok⟩ := p
  exact (c_restore h ok).mono fun r H' q => ⟨q.1, q.2.1, ok_restore ok⟩
theorem q_setCondition (p : PY K H b Y) (g : Int32) : hCT K M_Pa_setCondition [.ref b, .int g] H 0 0 (RQ K b (sp_setCondition Y g).2 (sp_setCondition Y g).1) := by
  obtain ⟨⟨S, N, π, D, C, P, T, lr, Z, h⟩, ok⟩ := p
  exact (c_setCondition h ok g).mono fun r H' q => ⟨q.1, q.2.1, ok_setCondition ok g⟩
end LWA
section LWB
variable {K : hK} {H : hAH} {b : Nat} {Y : hY}
theorem sh1_bit (x : Nat) {k : Nat} (hk : k < 32) : (nI x >>> (nI k &&& 31)) &&& 1 = b2i (x.testBit k) := by
  have h := shr_bit (n := x) hk
  rw [ib_and1]
  rw [ib_bit0] at h
  rw [h]
  rfl
set_option maxRecDepth 100000 in
set_option maxHeartbeats 4000000 in
theorem c_cell {a L : Nat} {xs : Nat → Int32} (hs : K.2.2.2.2.2 a = some (L, xs)) (hL : L ≤ 260) {k : Nat} (hk : k < 1000) : hCT K M_La_cell [.ref a, .int (nI k)] H 0 0 (fun r H' => H' = H ∧ ∃ n, n < 2147483648 ∧ r = some (.int (nI n))) := by
  refine hCT.go (okc_La_cell K _ _) [] 40 (by decide +kernel) rfl rfl ?_
  refine ⟨L, Or.inr ⟨xs, hs⟩, fun z => ?_, fun z => ?_⟩
  · obtain ⟨n, hn, e⟩ := pk_andE ((15565427 : Int32) * nI k + 1907) (m := 2147483647) 31 (by decide)
    exact ⟨trivial, rfl, n, hn, congrArg (fun z => some (Value.int z)) e⟩
  · have hkL : k < L := Nat.lt_of_not_le fun q => z (nI_le q (by omega))
    refine ⟨L, xs, k, Or.inr hs, rfl, hkL, by omega, ?_⟩
    obtain ⟨n, hn, e⟩ := pk_andE (xs k) (m := 2147483647) 31 (by decide)
    exact ⟨trivial, rfl, n, hn, congrArg (fun z => some (Value.int z)) e⟩
theorem cnt_bit (p : Nat → Bool) (k : Nat) : nI (cnt p k) + b2i (p k) = nI (cnt p (k + 1)) := by
  rw [cnt]
  cases p k
  · show nI (cnt p k) + 0 = _
    rw [Int32.add_zero]; rfl
  · show nI (cnt p k) + 1 = _
    rw [nI_1]; rfl
set_option maxRecDepth 100000 in
set_option maxHeartbeats 4000000 in
theorem l_ones {x : Nat} : ∀ (m k : Nat) (c w : Int32), k + m = 12 → c = nI (cnt x.testBit k) → w = nI k → hJ K M_La_ones (0, 0) (fun r H' => r = some (.int (nI (pop x))) ∧ H' = H) 4 (0, 0) [some (.int (nI x)), some (.int c), some (.int w)] [] H := by
  intro m
  induction m with
  | zero =>
    intro k c w hk ec ew
    obtain rfl : k = 12 := by omega
    refine hGo_sound (okc_La_ones K _ _) [4] 30 _ _ _ _ _ ?_
    rw [ec, ew]
    exact ⟨fun _ => ⟨trivial, rfl, rfl⟩, fun z => absurd (Int32.le_refl _) z⟩
  | succ m ih =>
    intro k c w hk ec ew
    refine hGo_sound (okc_La_ones K _ _) [4] 30 _ _ _ _ _ ?_
    refine ⟨fun z => ?_, fun z => ?_⟩
    · rw [ew] at z
      exact absurd ((nI_leI (a := 12) (by decide) (by omega)).mp z) (by omega)
    · refine ih (k + 1) _ _ (by omega) ?_ (by rw [ew, nI_1])
      rw [ec, ew, sh1_bit x (by omega), cnt_bit]
set_option maxRecDepth 100000 in
set_option maxHeartbeats 4000000 in
theorem c_ones (K : hK) (H : hAH) (x : Nat) : hCT K M_La_ones [.int (nI x)] H 0 0 (fun r H' => r = some (.int (nI (pop x))) ∧ H' = H) := by
  refine hCT.go (okc_La_ones K _ _) [4] 30 (by decide +kernel) rfl rfl ?_
  exact l_ones 12 0 0 0 rfl rfl rfl
theorem ws_n (w : WF Y.1) (x : Nat) : vWs Y.1 x = sumI (fun k => if x.testBit k = true then vG Y.1 k 1 else 0) (vN Y.1) := by
  unfold vWs
  rw [← sum_to w]
  refine sumI_cong fun k _ => ?_
  by_cases h1 : k < vN Y.1
  · by_cases h2 : x.testBit k = true
    · rw [if_pos ⟨h1, h2⟩, if_pos h1, if_pos h2]
    · rw [if_neg (fun q => h2 q.2), if_pos h1, if_neg h2]
  · rw [if_neg (fun q => h1 q.1), if_neg h1]
theorem b2i_mul (t : Bool) (v : Int32) : b2i t * v = if t = true then v else 0 := by
  cases t
  · exact Int32.zero_mul
  · exact Int32.one_mul v
set_option maxRecDepth 100000 in
set_option maxHeartbeats 4000000 in
theorem l_weight {x : Nat} (hn : vN Y.1 ≤ 12) : ∀ (m k : Nat) (c w : Int32) (H : hAH), k + m = vN Y.1 → PY K H b Y → c = sumI (fun k => if x.testBit k = true then vG Y.1 k 1 else 0) k → w = nI k → hJ K M_La_weight (0, 0) (RQ K b Y (vWs Y.1 x)) 4 (0, 0) [some (.ref b), some (.int (nI x)), some (.int c), some (.int w)] [] H := by
  intro m
  induction m with
  | zero =>
    intro k c w H hk p ec ew
    obtain rfl : k = vN Y.1 := by omega
    refine hGo_sound (okc_La_weight K _ _) [4] 60 _ _ _ _ _ ?_
    rw [ec, ew]
    refine ⟨_, p.obj, _, q_n p, ?_⟩
    rintro _ H1 ⟨rfl, p1⟩
    exact ⟨fun _ => ⟨trivial, by rw [ws_n p.w], p1⟩, fun z => absurd (Int32.le_refl _) z⟩
  | succ m ih =>
    intro k c w H hk p ec ew
    refine hGo_sound (okc_La_weight K _ _) [4] 60 _ _ _ _ _ ?_
    rw [ew]
    refine ⟨_, p.obj, _, q_n p, ?_⟩
    rintro _ H1 ⟨rfl, p1⟩
    refine ⟨fun z => ?_, fun z => ?_⟩
    · exact absurd ((nI_leI (by omega) (by omega)).mp z) (by omega)
    · refine ⟨_, p1.obj, _, q_gu p1 (k := k) (by omega) (f := 1) (by decide), ?_⟩
      rintro _ H2 ⟨rfl, p2⟩
      refine ih (k + 1) _ _ H2 (by omega) p2 ?_ (nI_1 k)
      rw [ec, sh1_bit x (by omega), b2i_mul]
      rfl
set_option maxRecDepth 100000 in
set_option maxHeartbeats 4000000 in
theorem c_weight (p : PY K H b Y) (x : Nat) : hCT K M_La_weight [.ref b, .int (nI x)] H 0 0 (RQ K b Y (vWs Y.1 x)) := by
  refine hCT.go (okc_La_weight K _ _) [4] 60 (by decide +kernel) rfl rfl ?_
  exact l_weight p.w.1.2 (vN Y.1) 0 0 0 H (by omega) p rfl rfl
end LWB
