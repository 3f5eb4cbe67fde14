/-! the search: its rounds -/
def FIN (E : gE) (Z : Nat → Nat → Int32) (k : Nat) : Prop := Z 1 k = err E k ∧ Z 2 k = nI (ett E k) ∧ Z 3 k = ebb E k ∧ Z 4 k = nI (ewl E (ett E k) k).1 ∧ Z 5 k = nI (ewl E (ett E k) k).2
def INI (Z : Nat → Nat → Int32) (k : Nat) : Prop := Z 1 k = 0 ∧ Z 4 k = 1 ∧ Z 5 k = nI k
def INV (E : gE) (Z : Nat → Nat → Int32) (i g : Nat) : Prop := (∀ j, j ≤ i → Z 0 j = nI (epa E j)) ∧ ∀ k, k < 12 → ((ess E i).testBit k = true → (k < g ∧ (eaw E (ess E i)).testBit k = true → FIN E Z k) ∧ (¬ (k < g ∧ (eaw E (ess E i)).testBit k = true) → INI Z k)) ∧ (k < E.1 → (ess E i).testBit k = false → FIN E Z k)
theorem INV.no {E : gE} {Z : Nat → Nat → Int32} {i g : Nat} (h : INV E Z i g) (hb : (eaw E (ess E i)).testBit g = false) : INV E Z i (g + 1) := by
  refine ⟨h.1, fun k hk => ⟨fun he => ⟨fun q => ?_, fun q => ?_⟩, (h.2 k hk).2⟩⟩
  · by_cases e : k = g
    · subst e; rw [hb] at q; exact absurd q.2 (by decide)
    · exact ((h.2 k hk).1 he).1 ⟨by omega, q.2⟩
  · exact ((h.2 k hk).1 he).2 (fun z => q ⟨by omega, z.2⟩)
theorem sus_eq {E : gE} {i j su : Nat} (hsu : su < 4096 ∨ True) : (su &&& epa E i).testBit j = ((epa E i).testBit j && su.testBit j) := by rw [Nat.testBit_and, Bool.and_comm]
theorem t4095 : ∀ j, j < 12 → (4095 : Nat).testBit j = true := by decide
/-- a note keeps the invariant -/
theorem INV.yes {E : gE} {Z Z' : Nat → Nat → Int32} {i g su : Nat} {r : Int32} (hg : g < 12) (hi : i < 13) (hn : E.1 ≤ 12) (h : INV E Z i g) (hb : (eaw E (ess E i)).testBit g = true) (hr : r = if E.2.1 g (ess E i) then 3 else 2) (hsu : su = if E.2.1 g (ess E i) then 4095 else E.2.2.2.2.2 g)
    (hZ : ntP Z g r (i + 1) (lowest (su &&& epa E i).testBit 12 0) Z') : INV E Z' i (g + 1) := by
  obtain ⟨z0, zo, z1, z2, z3, z4, z5⟩ := hZ
  obtain ⟨e1, e2⟩ := err_of hi hb
  have hin := (eaw_in hb).2.2.1
  have hini := ((h.2 g hg).1 hin).2 (fun q => absurd q.1 (Nat.lt_irrefl _))
  have hbb : ebb E g = lowest (su &&& epa E i).testBit 12 0 := by
    unfold ebb
    rw [e1, Nat.add_sub_cancel]
    cases hm : E.2.1 g (ess E i)
    · rw [hm] at e2 hsu
      simp only [Bool.false_eq_true, if_false] at e2 hsu
      rw [if_pos e2, hsu]
      exact lowest_cong 12 0 fun j _ _ => by rw [Nat.testBit_and, Bool.and_comm]
    · rw [hm] at e2 hsu
      simp only [if_true] at e2 hsu
      rw [if_neg (by rw [e2]; decide), if_pos e2, hsu]
      exact lowest_cong 12 0 fun j _ hj => by rw [Nat.testBit_and, t4095 j (by omega), Bool.true_and]
  have hfin : FIN E Z' g := by
    refine ⟨?_, ?_, ?_, ?_, ?_⟩
    · rw [z1, hr, e2]
    · rw [z2, e1]
    · rw [z3, hbb]
    all_goals
      rw [e1, ewl]
      rcases lowest_spec (su &&& epa E i).testBit 12 0 (by decide) with ⟨q, -⟩ | ⟨j, q, -, hj, hjb, -⟩
      · have hneg : ebb E g < 0 := by rw [hbb, q]; decide
        rw [if_pos hneg]
        obtain ⟨w1, w2⟩ := z4 (by rw [q]; decide)
        first | (rw [w1]; exact hini.2.1) | (rw [w2]; exact hini.2.2)
      · have hj12 : j < 12 := by omega
        have hnn : ¬ ebb E g < 0 := by rw [hbb, q]; exact nI_pos (by omega)
        rw [if_neg hnn]
        have ecl : (ebb E g).toNatClampNeg = j := by rw [hbb, q]; exact nI_clamp (by omega)
        rw [ecl]
        obtain ⟨w1, w2⟩ := z5 j hj12 q
        have hpj : (epa E i).testBit j = true := by
          rw [Nat.testBit_and, Bool.and_eq_true] at hjb
          exact hjb.2
        have htj : ett E j = i := ett_of (by omega) hpj
        have hjn : j < E.1 := by
          match i, hpj with
          | 0, hpj =>
            rw [epa_bit0] at hpj
            simp only [Bool.and_eq_true, decide_eq_true_eq] at hpj
            exact hpj.2.1
          | i + 1, hpj => exact (eaw_in hpj).2.1
        have hjo : (ess E i).testBit j = false := by
          cases hbj : (ess E i).testBit j
          · rfl
          · have := ess_tt hbj (by omega)
            omega
        obtain ⟨-, -, -, f4, f5⟩ := (h.2 j hj12).2 hjn hjo
        rw [htj] at f4 f5
        first
          | (rw [w1, f4, nI_1])
          | (rw [w2, f5])
  refine ⟨fun j hj => by rw [z0]; exact h.1 j hj, fun k hk => ?_⟩
  by_cases e : k = g
  · subst e
    exact ⟨fun he => ⟨fun _ => hfin, fun q => absurd ⟨Nat.lt_succ_self _, hb⟩ q⟩, fun _ q => by rw [hin] at q; cases q⟩
  · have fk : FIN E Z k → FIN E Z' k := fun q => ⟨(zo 1 k e).trans q.1, (zo 2 k e).trans q.2.1, (zo 3 k e).trans q.2.2.1, (zo 4 k e).trans q.2.2.2.1, (zo 5 k e).trans q.2.2.2.2⟩
    refine ⟨fun he => ⟨fun q => fk (((h.2 k hk).1 he).1 ⟨by omega, q.2⟩), fun q => ?_⟩, fun q1 q2 => fk ((h.2 k hk).2 q1 q2)⟩
    obtain ⟨a, b, c⟩ := ((h.2 k hk).1 he).2 (fun z => q ⟨by omega, z.2⟩)
    exact ⟨(zo 1 k e).trans a, (zo 4 k e).trans b, (zo 5 k e).trans c⟩
/-- from one round to the next -/
theorem INV.next {E : gE} {Z Z' : Nat → Nat → Int32} {i : Nat} (h : INV E Z i 12) (h0 : Z' 0 = upd (Z 0) (i + 1) (nI (eaw E (ess E i)))) (h1 : ∀ j, j ≠ 0 → Z' j = Z j) : INV E Z' (i + 1) 0 := by
  refine ⟨fun j hj => ?_, fun k hk => ?_⟩
  · rw [h0]
    by_cases e : j = i + 1
    · subst e; rw [upd_s]; rfl
    · rw [upd_n e]; exact h.1 j (by omega)
  · have fk : FIN E Z k → FIN E Z' k := fun q => by
      unfold FIN
      rw [h1 1 (by decide), h1 2 (by decide), h1 3 (by decide), h1 4 (by decide), h1 5 (by decide)]
      exact q
    refine ⟨fun he => ⟨fun q => absurd q.1 (Nat.not_lt_zero _), fun _ => ?_⟩, fun hkn he => ?_⟩
    · have h2 := ((h.2 k hk).1 (ess_sub he)).2 (fun z => by rw [ess_out z.2] at he; cases he)
      unfold INI
      rw [h1 1 (by decide), h1 4 (by decide), h1 5 (by decide)]
      exact h2
    · cases hb : (ess E i).testBit k
      · exact fk ((h.2 k hk).2 hkn hb)
      · refine fk (((h.2 k hk).1 hb).1 ⟨hk, ?_⟩)
        rw [ess, dif_bit, hb] at he
        simpa [hk] using he
def ltN (S : Nat → Nat → Int32) (k : Nat) : Nat := (S (2 + k) 7).toNatClampNeg
def LOk (S : Nat → Nat → Int32) (n : Nat) : Prop := ∀ k, k < n → S (2 + k) 7 = nI (ltN S k) ∧ ltN S k < 4096
/-- what the search works with -/
def eC (S : Nat → Nat → Int32) (n I : Nat) (gen : Int32) : gE := (n, sMet S, fun k => if nI k = gen then 99999 else S (2 + k) 0, fun X => feeC (S 1) (nI (pop X)), I, ltN S)
theorem eP_eC {S : Nat → Nat → Int32} {n I X k : Nat} {gen : Int32} : eP (eC S n I gen) X k = (decide (k < n) && (X.testBit k && (!sMet S k X || decide ((if nI k = gen then 99999 else S (2 + k) 0) < feeC (S 1) (nI (pop X)))))) := rfl
set_option maxRecDepth 100000 in
set_option maxHeartbeats 4000000 in
theorem l_sendAway {K : hK} {H : hAH} {a s n i I : Nat} {lr gen fe : Int32} {S : Nat → Nat → Int32} (hS : SOk S n) (hL : LOk S n) (hO : RSt K H s S) (hd : s + 27 ≤ a ∨ a + 7 ≤ s) (hi : i < 13) (hI : I < 4096) (hfe : fe = feeC (S 1) (nI (pop (ess (eC S n I gen) i)))) :
    ∀ (m g : Nat) (w f : Int32) (l8 l9 : Option Value) (Hc : hAH) (Z : Nat → Nat → Int32), g + m = 12 → w = nI g → f = nI (setOf (eP (eC S n I gen) (ess (eC S n I gen) i)) g) → RSe K Hc a lr Z → INV (eC S n I gen) Z i g → hFr a (a + 7) H Hc →
    hJ K M_Se_sendAway (0, 0) (fun r H' => r = some (.int (nI (eaw (eC S n I gen) (ess (eC S n I gen) i)))) ∧ (∃ Z', RSe K H' a lr Z' ∧ INV (eC S n I gen) Z' i 12) ∧ hFr a (a + 7) H H') 16 (0, 0) [some (.ref a), some (.ref s), some (.int (nI (ess (eC S n I gen) i))), some (.int (nI (i + 1))), some (.int gen), some (.int fe), some (.int f), some (.int w), l8, l9] [] Hc := by
  obtain ⟨h0, hn, -, hgs⟩ := hS
  have hX : ess (eC S n I gen) i < 4096 := ess_lt (E := eC S n I gen) hI i
  generalize hXe : ess (eC S n I gen) i = X at hX hfe
  intro m
  induction m with
  | zero =>
    intro g w f l8 l9 Hc Z hg hw hf hR hV hfr
    refine hGo_sound (okc_Se_sendAway K _ _) [16] 60 _ _ _ _ _ ?_
    refine ⟨fun _ => ⟨trivial, by rw [hf, show g = 12 by omega]; rfl, ⟨Z, hR, by rw [show g = 12 by omega] at hV; exact hV⟩, hfr⟩, fun h => ?_⟩
    exact absurd (by rw [hw]; exact nI_le (a := 12) (by omega) (by omega)) h
  | succ m ih =>
    intro g w f l8 l9 Hc Z hg hw hf hR hV hfr
    have hg12 : g < 12 := by omega
    have hO' := hO.fr hfr (by omega)
    have bit : (eaw (eC S n I gen) X).testBit g = eP (eC S n I gen) X g := by rw [eaw_bit, decide_eq_true hg12, Bool.true_and]
    have noG : ∀ (Hq : hAH) (q8 q9 : Option Value), RSe K Hq a lr Z → hFr a (a + 7) H Hq → eP (eC S n I gen) X g = false → hJ K M_Se_sendAway (0, 0) (fun r H' => r = some (.int (nI (eaw (eC S n I gen) X))) ∧ (∃ Z', RSe K H' a lr Z' ∧ INV (eC S n I gen) Z' i 12) ∧ hFr a (a + 7) H H') 127 (0, 0) [some (.ref a), some (.ref s), some (.int (nI X)), some (.int (nI (i + 1))), some (.int gen), some (.int fe), some (.int f), some (.int w), q8, q9] [] Hq := by
      intro Hq q8 q9 hRq hfq hno
      refine hGo_sound (okc_Se_sendAway K _ _) [16] 10 _ _ _ _ _ ?_
      refine ih (g + 1) _ _ _ _ _ Z (by omega) (by rw [hw, nI_1]) ?_ hRq (INV.no hV ?_) hfq
      · rw [hf, setOf_no hno]
      · rw [hXe, bit]; exact hno
    have yesG : ∀ (Hq : hAH) (q8 q9 : Option Value) (Z' : Nat → Nat → Int32), RSe K Hq a lr Z' → hFr a (a + 7) H Hq → INV (eC S n I gen) Z' i (g + 1) → eP (eC S n I gen) X g = true → hJ K M_Se_sendAway (0, 0) (fun r H' => r = some (.int (nI (eaw (eC S n I gen) X))) ∧ (∃ Z', RSe K H' a lr Z' ∧ INV (eC S n I gen) Z' i 12) ∧ hFr a (a + 7) H H') 127 (0, 0) [some (.ref a), some (.ref s), some (.int (nI X)), some (.int (nI (i + 1))), some (.int gen), some (.int fe), some (.int (f ||| nI (2 ^ g))), some (.int w), q8, q9] [] Hq := by
      intro Hq q8 q9 Z' hRq hfq hVq hyes
      refine hGo_sound (okc_Se_sendAway K _ _) [16] 10 _ _ _ _ _ ?_
      refine ih (g + 1) _ _ _ _ _ Z' (by omega) (by rw [hw, nI_1]) ?_ hRq hVq hfq
      rw [hf, nI_or, setOf_yes hyes]
    have J62 : ∀ (Hq : hAH) (q9 : Option Value), Hq = Hc → g < n → X.testBit g = true → hJ K M_Se_sendAway (0, 0) (fun r H' => r = some (.int (nI (eaw (eC S n I gen) X))) ∧ (∃ Z', RSe K H' a lr Z' ∧ INV (eC S n I gen) Z' i 12) ∧ hFr a (a + 7) H H') 62 (0, 0) [some (.ref a), some (.ref s), some (.int (nI X)), some (.int (nI (i + 1))), some (.int gen), some (.int fe), some (.int f), some (.int w), some (.ref (s + 3 + 2 * g)), q9] [.int (if nI g = gen then 99999 else S (2 + g) 0)] Hq := by
      intro Hq q9 hHq hgn hbg
      subst hHq
      have hRg := hO'.2.2.2 g hg12
      refine hGo_sound (okc_Se_sendAway K _ _) [16, 127] 60 _ _ _ _ _ ?_
      refine ⟨_, hRg.1, _, c_isContentWith hRg (hgs g hgn).2.1 (hgs g hgn).2.2 hX, ?_⟩
      rintro _ Hq ⟨rfl, rfl⟩
      refine ⟨fun hm => ⟨fun hle => ?_, fun hgt => ?_⟩, fun hm => ?_⟩
      · have hm' : sMet S g X = true := b2i_n0.mp hm
        refine noG _ _ _ hR hfr ?_
        rw [eP_eC, hm', hbg, decide_eq_true hgn, ← hfe, decide_eq_false (Int32.not_lt.mpr hle)]; rfl
      · have hm' : sMet S g X = true := b2i_n0.mp hm
        have hyes : eP (eC S n I gen) X g = true := by rw [eP_eC, hm', hbg, decide_eq_true hgn, ← hfe, decide_eq_true (Int32.not_le.mp hgt)]; rfl
        refine ⟨_, hR.1, _, hw ▸ c_Se_note (ρ := i + 1) (A := epa (eC S n I gen) i) (su := 4095) hR hg12 (by omega) (by omega) (hV.1 i (Nat.le_refl _)) (epa_lt _ _), ?_⟩
        rintro _ H1 ⟨rfl, ⟨Z', hR1, hnt⟩, f1⟩
        refine ⟨_, hw ▸ c_bitOf K H1 (k := g) (by omega), ?_⟩
        rintro _ H1 ⟨rfl, rfl⟩
        refine yesG _ _ _ Z' hR1 (hfr.trans f1) (INV.yes hg12 hi hn hV (by rw [hXe, bit]; exact hyes) (r := 3) (su := 4095) ?_ ?_ hnt) hyes
        · rw [hXe]; show (3 : Int32) = if sMet S g X = true then 3 else 2; rw [if_pos hm']
        · rw [hXe]; show 4095 = if sMet S g X = true then 4095 else ltN S g; rw [if_pos hm']
      · have hm' : sMet S g X = false := b2i_0.mp hm
        have hyes : eP (eC S n I gen) X g = true := by rw [eP_eC, hm', hbg, decide_eq_true hgn]; rfl
        refine ⟨_, hRg.1, _, hR.1, _, hw ▸ (hL g hgn).1 ▸ c_Se_note (ρ := i + 1) (A := epa (eC S n I gen) i) (su := ltN S g) hR hg12 (by omega) (by omega) (hV.1 i (Nat.le_refl _)) (epa_lt _ _), ?_⟩
        rintro _ H1 ⟨rfl, ⟨Z', hR1, hnt⟩, f1⟩
        refine ⟨_, hw ▸ c_bitOf K H1 (k := g) (by omega), ?_⟩
        rintro _ H1 ⟨rfl, rfl⟩
        refine yesG _ _ _ Z' hR1 (hfr.trans f1) (INV.yes hg12 hi hn hV (by rw [hXe, bit]; exact hyes) (r := 2) (su := ltN S g) ?_ ?_ hnt) hyes
        · rw [hXe]; show (2 : Int32) = if sMet S g X = true then 3 else 2; rw [hm']; rfl
        · rw [hXe]; show ltN S g = if sMet S g X = true then 4095 else ltN S g; rw [hm']; rfl
    refine hGo_sound (okc_Se_sendAway K _ _) [16, 62, 127] 60 _ _ _ _ _ ?_
    refine ⟨fun h => absurd (by rw [hw] at h; exact h) (nI_ge (b := 12) (by omega) (by omega)), fun _ => ?_⟩
    by_cases hk : g < n
    · refine ⟨_, hO'.1, _, hw ▸ c_find_lt hO' h0 hn hk, ?_⟩
      rintro _ Hc ⟨rfl, rfl⟩
      refine ⟨_, hw ▸ c_isIn K Hc X (k := g) (by omega), ?_⟩
      rintro _ Hc ⟨rfl, rfl⟩
      refine ⟨fun h => ?_, fun h => ⟨fun hgen => ?_, fun hgen => ?_⟩⟩
      · refine noG _ _ _ hR hfr ?_
        rw [eP_eC, b2i_0.mp h]; simp
      · have e : nI g = gen → False := fun q => hgen (by rw [hw]; exact q)
        have := J62 Hc l9 rfl hk (b2i_n0.mp h)
        rw [if_neg (fun q => e q)] at this
        exact ⟨_, (hO'.2.2.2 g hg12).1, this⟩
      · have := J62 Hc l9 rfl hk (b2i_n0.mp h)
        rw [if_pos (by rw [← hw]; exact hgen)] at this
        exact this
    · refine ⟨_, hO'.1, _, hw ▸ c_find_ge hO' h0 hn (Nat.le_of_not_lt hk) (by omega), ?_⟩
      rintro _ Hc ⟨rfl, rfl⟩
      refine noG _ _ _ hR hfr ?_
      rw [eP_eC, decide_eq_false hk]; rfl
set_option maxRecDepth 100000 in
set_option maxHeartbeats 4000000 in
theorem c_sendAway {K : hK} {H : hAH} {a s n i I : Nat} {lr gen : Int32} {S Z : Nat → Nat → Int32} (hS : SOk S n) (hL : LOk S n) (hO : RSt K H s S) (hd : s + 27 ≤ a ∨ a + 7 ≤ s) (hi : i < 13) (hI : I < 4096) (hR : RSe K H a lr Z) (hV : INV (eC S n I gen) Z i 0) :
    hCT K M_Se_sendAway [.ref a, .ref s, .int (nI (ess (eC S n I gen) i)), .int (nI (i + 1)), .int gen] H 0 0 (fun r H' => r = some (.int (nI (eaw (eC S n I gen) (ess (eC S n I gen) i)))) ∧ (∃ Z', RSe K H' a lr Z' ∧ INV (eC S n I gen) Z' i 12) ∧ hFr a (a + 7) H H') := by
  refine hCT.go (okc_Se_sendAway K _ _) [16] 60 (by decide +kernel) rfl rfl ?_
  refine ⟨_, c_pop K H (ess_lt (E := eC S n I gen) hI i), ?_⟩
  rintro _ H ⟨rfl, rfl⟩
  refine ⟨_, hO.1, _, c_feeOf hO _, ?_⟩
  rintro _ H ⟨rfl, rfl⟩
  exact l_sendAway hS hL hO hd hi hI rfl 12 0 _ _ _ _ H Z (by omega) rfl rfl hR hV hFr.rfl

theorem minus_eq {X Y : Nat} (hX : X < 4096) : nI X &&& (nI Y ^^^ (-1)) = nI (dif X Y) := by
  apply Int32.toBitVec_inj.mp
  rw [Int32.toBitVec_and, Int32.toBitVec_xor]
  show BitVec.ofNat 32 X &&& (BitVec.ofNat 32 Y ^^^ BitVec.allOnes 32) = BitVec.ofNat 32 (dif X Y)
  rw [BitVec.xor_allOnes]
  apply BitVec.eq_of_getLsbD_eq
  intro k hk
  simp only [BitVec.getLsbD_and, BitVec.getLsbD_not, BitVec.getLsbD_ofNat, hk, decide_true, Bool.true_and, dif_bit]
  by_cases h12 : k < 12
  · simp [h12]
  · have : X.testBit k = false := Nat.testBit_lt_two_pow (Nat.lt_of_lt_of_le hX (Nat.le_trans (by decide : 4096 ≤ 2 ^ 12) (Nat.pow_le_pow_right (by decide) (by omega))))
    simp [this]
/-- what the search leaves behind -/
def DONE (E : gE) (Z : Nat → Nat → Int32) : Prop := ∀ k, k < 12 → k < E.1 → Z 1 k = err E k ∧ (err E k ≠ 0 → FIN E Z k)
theorem INV.done {E : gE} {Z : Nat → Nat → Int32} {i : Nat} (hI : E.2.2.2.2.1 < 4096) (h : INV E Z i 12) (hi : i ≤ 12) (he : eaw E (ess E i) = 0) : DONE E Z := by
  intro k hk hn
  cases hb : (ess E i).testBit k
  · have := (h.2 k hk).2 hn hb
    exact ⟨this.1, fun _ => this⟩
  · have h1 := ((h.2 k hk).1 hb).2 (fun q => by rw [he, Nat.zero_testBit] at q; exact absurd q.2 (by decide))
    have hge : eL E ≤ i := Nat.le_of_not_lt fun q => (eL_spec E).2.2 i q he
    have h13 : (ess E 13).testBit k = true := by
      rw [(epa_late hI (show eL E ≤ 13 by omega)).1, ← (epa_late hI hge).1]
      exact hb
    have ht := ess_tt h13 (by decide)
    have herr : err E k = 0 := by rw [err, if_pos (by omega)]
    exact ⟨by rw [herr]; exact h1.1, fun q => absurd herr q⟩
set_option maxRecDepth 100000 in
set_option maxHeartbeats 4000000 in
theorem l_findGreatest {K : hK} {H : hAH} {a s n I : Nat} {gen : Int32} {S : Nat → Nat → Int32} (hS : SOk S n) (hL : LOk S n) (hO : RSt K H s S) (hd : s + 27 ≤ a ∨ a + 7 ≤ s) (hI : I < 4096) :
    ∀ (m i : Nat) (w X lr : Int32) (Hc : hAH) (Z : Nat → Nat → Int32), i + m = eL (eC S n I gen) → w = nI (i + 1) → X = nI (ess (eC S n I gen) i) → RSe K Hc a lr Z → INV (eC S n I gen) Z i 0 → hFr a (a + 7) H Hc →
    hJ K M_Se_findGreatest (0, 0) (fun r H' => r = some (.int (nI (egr (eC S n I gen)))) ∧ (∃ Z', RSe K H' a (nI (eL (eC S n I gen) + 1)) Z' ∧ DONE (eC S n I gen) Z') ∧ hFr a (a + 7) H H') 21 (0, 0) [some (.ref a), some (.ref s), some (.int (nI I)), some (.int gen), some (.int X), some (.int 0), some (.int w)] [] Hc := by
  obtain ⟨sp1, sp2, sp3⟩ := eL_spec (eC S n I gen)
  have hEI : (eC S n I gen).2.2.2.2.1 < 4096 := hI
  intro m
  induction m with
  | zero =>
    intro i w X lr Hc Z hi hw hX hR hV hf
    have ei : i = eL (eC S n I gen) := by omega
    have hO' := hO.fr hf (by omega)
    refine hGo_sound (okc_Se_findGreatest K _ _) [21] 60 _ _ _ _ _ ?_
    refine ⟨_, hR.1, 14, Or.inl ⟨0, _, by decide, hR.2.1⟩, fun h => absurd (by rw [hw] at h; exact h) (nI_ge (b := 14) (by omega) (by omega)), fun _ => ⟨fun q => absurd rfl q, fun _ => ?_⟩⟩
    refine ⟨_, hR.1, _, hR.1, _, hX ▸ hw ▸ c_sendAway hS hL hO' hd (by omega) hI hR hV, ?_⟩
    rintro _ H1 ⟨rfl, ⟨Z1, hR1, hV1⟩, f1⟩
    refine ⟨14, _, i + 1, hR1.2.1, hw, by omega, by decide, fun H2 u2 => ?_⟩
    have hR2 := hR1.aw u2
    refine ⟨_, hR2.1, 14, _, i + 1, Or.inl hR2.2.1, hw, by omega, by decide, _, hR2.1, trivial, fun H3 u3 => ?_⟩
    have hR3 := hR2.lr (lr' := w) u3 rfl
    refine ⟨_, hR3.1, 14, _, i + 1, Or.inl hR3.2.1, hw, by omega, by decide, ?_⟩
    have e0 : zUp Z1 0 (upd (Z1 0) (i + 1) (nI (eaw (eC S n I gen) (ess (eC S n I gen) i)))) 0 (i + 1) = 0 := by
      rw [zUp_s, upd_s, ei, sp2]; rfl
    have hV2 := hV1.next (Z' := zUp Z1 0 (upd (Z1 0) (i + 1) (nI (eaw (eC S n I gen) (ess (eC S n I gen) i))))) zUp_s (fun j hj => zUp_n hj)
    refine ⟨fun q => absurd e0 q, fun _ => ?_⟩
    refine hGo_sound (okc_Se_findGreatest K _ _) [] 60 _ _ _ _ _ ?_
    have hDone : DONE (eC S n I gen) (zUp Z1 0 (upd (Z1 0) (i + 1) (nI (eaw (eC S n I gen) (ess (eC S n I gen) i))))) := by
      have h1 := hV1.done hEI (by omega) (by rw [ei]; exact sp2)
      intro k hk hkn
      have := h1 k hk hkn
      refine ⟨(by rw [zUp_n (by decide)]; exact this.1), fun q => ?_⟩
      unfold FIN
      rw [zUp_n (by decide), zUp_n (by decide), zUp_n (by decide), zUp_n (by decide), zUp_n (by decide)]
      exact this.2 q
    have hres : X &&& (zUp Z1 0 (upd (Z1 0) (i + 1) (nI (eaw (eC S n I gen) (ess (eC S n I gen) i)))) 0 (i + 1) ^^^ (-1)) = nI (egr (eC S n I gen)) := by
      rw [zUp_s, upd_s, hX, minus_eq (ess_lt hEI i)]
      show nI (ess (eC S n I gen) (i + 1)) = _
      rw [(epa_late hEI (show eL (eC S n I gen) ≤ i + 1 by omega)).1]
    have fin : hFr a (a + 7) H H3 := ((hf.trans f1).trans (u2.fr' (by omega) (by omega))).trans (u3.fr' (by omega) (by omega))
    have hpost : RSe K H3 a (nI (eL (eC S n I gen) + 1)) (zUp Z1 0 (upd (Z1 0) (i + 1) (nI (eaw (eC S n I gen) (ess (eC S n I gen) i))))) := by
      rw [← ei, ← hw]; exact hR3
    refine ⟨_, hR3.1, 14, Or.inl ⟨0, _, by decide, hR3.2.1⟩, fun _ => ?_, fun _ => ⟨fun _ => ?_, fun q => absurd q (by decide)⟩⟩
    · exact ⟨trivial, by rw [← hres], ⟨_, hpost, hDone⟩, fin⟩
    · exact ⟨trivial, by rw [← hres], ⟨_, hpost, hDone⟩, fin⟩
  | succ m ih =>
    intro i w X lr Hc Z hi hw hX hR hV hf
    have hO' := hO.fr hf (by omega)
    refine hGo_sound (okc_Se_findGreatest K _ _) [21] 60 _ _ _ _ _ ?_
    refine ⟨_, hR.1, 14, Or.inl ⟨0, _, by decide, hR.2.1⟩, fun h => absurd (by rw [hw] at h; exact h) (nI_ge (b := 14) (by omega) (by omega)), fun _ => ⟨fun q => absurd rfl q, fun _ => ?_⟩⟩
    refine ⟨_, hR.1, _, hR.1, _, hX ▸ hw ▸ c_sendAway hS hL hO' hd (by omega) hI hR hV, ?_⟩
    rintro _ H1 ⟨rfl, ⟨Z1, hR1, hV1⟩, f1⟩
    refine ⟨14, _, i + 1, hR1.2.1, hw, by omega, by decide, fun H2 u2 => ?_⟩
    have hR2 := hR1.aw u2
    refine ⟨_, hR2.1, 14, _, i + 1, Or.inl hR2.2.1, hw, by omega, by decide, _, hR2.1, trivial, fun H3 u3 => ?_⟩
    have hR3 := hR2.lr (lr' := w) u3 rfl
    refine ⟨_, hR3.1, 14, _, i + 1, Or.inl hR3.2.1, hw, by omega, by decide, ?_⟩
    have e0 : ¬ zUp Z1 0 (upd (Z1 0) (i + 1) (nI (eaw (eC S n I gen) (ess (eC S n I gen) i)))) 0 (i + 1) = 0 := by
      rw [zUp_s, upd_s]
      intro q
      exact sp3 i (by omega) (nI_inj (Nat.lt_trans (eaw_lt _ _) (by decide)) (by decide) q)
    have hV2 := hV1.next (Z' := zUp Z1 0 (upd (Z1 0) (i + 1) (nI (eaw (eC S n I gen) (ess (eC S n I gen) i))))) zUp_s (fun j hj => zUp_n hj)
    refine ⟨fun _ => ?_, fun q => absurd q e0⟩
    refine ih (i + 1) _ _ _ _ _ (by omega) (by rw [hw, nI_1]) ?_ hR3 hV2 (((hf.trans f1).trans (u2.fr' (by omega) (by omega))).trans (u3.fr' (by omega) (by omega)))
    rw [zUp_s, upd_s, hX, minus_eq (ess_lt hEI i)]
    rfl
set_option maxRecDepth 100000 in
set_option maxHeartbeats 4000000 in
theorem c_Se_findGreatest {K : hK} {H : hAH} {a s n I : Nat} {lr gen : Int32} {S Z : Nat → Nat → Int32} (hS : SOk S n) (hL : LOk S n) (hO : RSt K H s S) (hd : s + 27 ≤ a ∨ a + 7 ≤ s) (hI : I < 2 ^ n) (hR : RSe K H a lr Z) :
    hCT K M_Se_findGreatest [.ref a, .ref s, .int (nI I), .int gen] H 0 0 (fun r H' => r = some (.int (nI (egr (eC S n I gen)))) ∧ (∃ Z', RSe K H' a (nI (eL (eC S n I gen) + 1)) Z' ∧ DONE (eC S n I gen) Z') ∧ hFr a (a + 7) H H') := by
  have hn := hS.2.1
  have h212 : 2 ^ n ≤ 4096 := Nat.le_trans (Nat.pow_le_pow_right (n := 2) (j := 12) (by decide) hn) (by decide)
  have hI2 : I < 4096 := Nat.lt_of_lt_of_le hI h212
  refine hCT.go (okc_Se_findGreatest K _ _) [21] 60 (by decide +kernel) rfl rfl ?_
  refine ⟨_, hO.1, _, c_everybody hO hS.1 hn, ?_⟩
  rintro _ H ⟨rfl, rfl⟩
  have e2n : 2 ^ n - 1 < 4096 := by
    have := Nat.two_pow_pos n
    omega
  have eN : nI (2 ^ n - 1) &&& (nI I ^^^ (-1)) = nI (epa (eC S n I gen) 0) := by
    rw [minus_eq e2n]
    congr 1
    apply Nat.eq_of_testBit_eq
    intro k
    rw [dif_bit, epa_bit0, Nat.testBit_two_pow_sub_one]
    rfl
  refine ⟨_, hR.1, _, eN ▸ c_Se_begin (N := epa (eC S n I gen) 0) hR, ?_⟩
  rintro _ H1 ⟨rfl, ⟨Z1, hR1, hb0, hb⟩, f1⟩
  refine l_findGreatest hS hL hO hd hI2 (eL (eC S n I gen)) 0 _ _ lr H1 Z1 (by omega) rfl rfl hR1 ⟨fun j hj => ?_, fun k hk => ⟨fun he => ⟨fun q => absurd q.1 (Nat.not_lt_zero _), fun _ => ?_⟩, fun hkn he => ?_⟩⟩ f1
  · rw [show j = 0 by omega, hb0, upd_s]
  · obtain ⟨b1, b2, b3, b4, b5⟩ := hb k hk
    refine ⟨?_, b4, b5⟩
    rw [b1, epa_bit0]
    have : (eC S n I gen).2.2.2.2.1.testBit k = true := he
    rw [this]; simp [b2i]
  · obtain ⟨b1, b2, b3, b4, b5⟩ := hb k hk
    have hp : (epa (eC S n I gen) 0).testBit k = true := by
      rw [epa_bit0]
      have : (eC S n I gen).2.2.2.2.1.testBit k = false := he
      rw [this]; simp [hk, hkn]
    have ht : ett (eC S n I gen) k = 0 := ett_of (by decide) hp
    have herr : err (eC S n I gen) k = 1 := by rw [err, if_neg (by omega), if_pos ht]
    refine ⟨?_, ?_, ?_, ?_, ?_⟩
    · rw [b1, hp, herr]; rfl
    · rw [b2, ht]; rfl
    · rw [b3, ebb, herr, if_neg (by decide), if_neg (by decide)]
    · rw [b4, ht]; rfl
    · rw [b5, ht]; rfl
