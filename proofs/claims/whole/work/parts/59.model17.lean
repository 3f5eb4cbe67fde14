/-! THE TEXT, token by token: what the reader's steps say, for the reference's walk over the text -/
def gRn (q : rdQ) (x : Nat) : Int32 × Int32 := gcRun q.2 x (q.1 0)
def gBs (q : rdQ) (x : Nat) : Int32 × Int32 := gcRun q.2 x (q.1 0 - 1)
theorem gRn_add {q : rdQ} {st : Int32} {x : Nat} (h : q.1 0 < 60) : gRn (pAdd q st) x = gcStep st x (gRn q x) := by
  unfold gRn pAdd
  rw [if_pos h]
  show gcStep (upd q.2 (q.1 0) st (q.1 0)) x (gcRun (upd q.2 (q.1 0) st) x (q.1 0)) = _
  rw [upd_s, gcRun_cong (T' := q.2) fun j hj => upd_n (by omega)]
theorem gBs_add {q : rdQ} {st : Int32} {x : Nat} (h : q.1 0 < 60) : gBs (pAdd q st) x = gRn q x := by
  unfold gRn gBs pAdd
  rw [if_pos h]
  show gcRun (upd q.2 (q.1 0) st) x (q.1 0 + 1 - 1) = _
  rw [Nat.add_sub_cancel]
  exact gcRun_cong fun j hj => upd_n (by omega)
theorem gRn_chg {q : rdQ} {st : Int32} {x : Nat} (h : 0 < q.1 0) : gRn (pChg q st) x = gcStep st x (gBs q x) := by
  unfold gRn gBs pChg
  rw [if_pos h]
  show gcRun (upd q.2 (q.1 0 - 1) st) x (q.1 0) = _
  have e : q.1 0 = (q.1 0 - 1) + 1 := by omega
  have e2 : gcRun (upd q.2 (q.1 0 - 1) st) x (q.1 0) = gcRun (upd q.2 (q.1 0 - 1) st) x ((q.1 0 - 1) + 1) := by rw [← e]
  rw [e2]
  show gcStep (upd q.2 (q.1 0 - 1) st (q.1 0 - 1)) x (gcRun (upd q.2 (q.1 0 - 1) st) x (q.1 0 - 1)) = _
  rw [upd_s, gcRun_cong (T' := q.2) fun j hj => upd_n (by omega)]
theorem gBs_chg {q : rdQ} {st : Int32} {x : Nat} : gBs (pChg q st) x = gBs q x := by
  unfold gBs pChg
  split
  · show gcRun (upd q.2 (q.1 0 - 1) st) x (q.1 0 - 1) = _
    exact gcRun_cong fun j hj => upd_n (by omega)
  · rfl
theorem gRn_up {P : Nat → Nat} {T : Nat → Int32} {k v x : Nat} (h : k ≠ 0) : gRn (up P k v, T) x = gRn (P, T) x := by
  unfold gRn up
  dsimp only
  rw [if_neg (Ne.symm h)]
theorem gBs_up {P : Nat → Nat} {T : Nat → Int32} {k v x : Nat} (h : k ≠ 0) : gBs (up P k v, T) x = gBs (P, T) x := by
  unfold gBs up
  dsimp only
  rw [if_neg (Ne.symm h)]
theorem pAdd_c {q : rdQ} {st : Int32} (h : q.1 0 < 60) : (pAdd q st).1 0 = q.1 0 + 1 := by
  unfold pAdd
  rw [if_pos h]
  rfl
theorem pAdd_le {q : rdQ} {st : Int32} : (pAdd q st).1 0 ≤ q.1 0 + 1 := by
  unfold pAdd
  split
  · exact Nat.le_refl _
  · exact Nat.le_succ _
theorem up_s {P : Nat → Nat} {k v : Nat} : up P k v k = v := if_pos rfl
theorem up_n {P : Nat → Nat} {k v j : Nat} (h : j ≠ k) : up P k v j = P j := if_neg h
/-! one character -/
theorem st_open {c : Nat} {P : Nat → Nat} {T : Nat → Int32} (h3 : P 3 = 0) (hc : c = 40) (h0 : P 0 < 60) : (rdStep c P T).1 3 = 0 ∧ (rdStep c P T).1 2 = P 2 + 1 ∧ (rdStep c P T).1 1 = P 1 ∧ ∀ x, gRn (rdStep c P T) x = gcStep (-1) x (gRn (P, T) x) := by
  unfold rdStep atomQ
  rw [if_pos h3, if_pos hc]
  refine ⟨by rw [pAdd3]; exact h3, by rw [pAdd2]; rfl, by rw [pAdd1]; rfl, fun x => ?_⟩
  rw [gRn_add h0, gRn_up (by decide)]
theorem st_star {c : Nat} {P : Nat → Nat} {T : Nat → Int32} (h3 : P 3 = 0) (hc : c = 42) (h0 : P 0 < 60) : (rdStep c P T).1 3 = 4 ∧ (rdStep c P T).1 2 = P 2 ∧ (rdStep c P T).1 1 = P 1 ∧ ∀ x, gRn (rdStep c P T) x = gcStep (nI 0) x (gRn (P, T) x) := by
  unfold rdStep atomQ
  rw [if_pos h3, if_neg (by omega), if_pos hc]
  refine ⟨rfl, pAdd2, pAdd1, fun x => ?_⟩
  rw [gRn_up (by decide)]
  exact gRn_add h0
theorem isLet_n {c : Nat} (h : isLet c = true) : c ≠ 40 ∧ c ≠ 42 ∧ c ≠ 35 ∧ c ≠ 41 ∧ c ≠ 124 ∧ c ≠ 38 ∧ ¬ isDig c 49 57 = true ∧ ¬ isDig c 48 57 = true := by
  have := isLet_spec h
  refine ⟨by omega, by omega, by omega, by omega, by omega, by omega, fun q => ?_, fun q => ?_⟩
  · have := isDig_spec q
    omega
  · have := isDig_spec q
    omega
theorem st_let {c : Nat} {P : Nat → Nat} {T : Nat → Int32} (h3 : P 3 = 0) (hc : isLet c = true) (h0 : P 0 < 60) : (rdStep c P T).1 3 = 4 ∧ (rdStep c P T).1 2 = P 2 ∧ (rdStep c P T).1 1 = (P 1 ||| 2 ^ (c - 97)) ∧ ∀ x, gRn (rdStep c P T) x = gcStep (nI (1 * 4096 + 2 ^ (c - 97))) x (gRn (P, T) x) := by
  obtain ⟨n1, n2, n3, -, -, -, -, -⟩ := isLet_n hc
  unfold rdStep atomQ
  rw [if_pos h3, if_neg n1, if_neg n2, if_neg n3, if_pos hc]
  refine ⟨rfl, ?_, ?_, fun x => ?_⟩
  · exact pAdd2.trans rfl
  · exact pAdd1.trans rfl
  · rw [gRn_up (by decide)]
    refine (gRn_add h0).trans ?_
    rw [gRn_up (by decide)]
theorem st_hash {c : Nat} {P : Nat → Nat} {T : Nat → Int32} (h3 : P 3 = 0) (hc : c = 35) : (rdStep c P T).1 3 = 1 ∧ (rdStep c P T).1 2 = P 2 ∧ (rdStep c P T).1 1 = P 1 ∧ (rdStep c P T).1 0 = P 0 ∧ ∀ x, gRn (rdStep c P T) x = gRn (P, T) x := by
  unfold rdStep atomQ
  rw [if_pos h3, if_neg (by omega), if_neg (by omega), if_pos hc]
  exact ⟨rfl, rfl, rfl, rfl, fun x => gRn_up (by decide)⟩
theorem st_dig {c : Nat} {P : Nat → Nat} {T : Nat → Int32} (h3 : P 3 = 0) (hc : isDig c 49 57 = true) (h0 : P 0 < 60) : (rdStep c P T).1 3 = 2 ∧ (rdStep c P T).1 2 = P 2 ∧ (rdStep c P T).1 1 = P 1 ∧ (rdStep c P T).1 4 = c - 48 ∧ (rdStep c P T).1 5 = 0 ∧ 0 < (rdStep c P T).1 0 ∧ ∀ x, gBs (rdStep c P T) x = gRn (P, T) x := by
  have hd := isDig_spec hc
  have hl : ¬ isLet c = true := fun q => by
    have := isLet_spec q
    omega
  unfold rdStep atomQ
  rw [if_pos h3, if_neg (by omega), if_neg (by omega), if_neg (by omega), if_neg hl]
  have h0' : ((up (up P 4 (c - 48)) 5 0, T) : rdQ).1 0 < 60 := by
    show up (up P 4 (c - 48)) 5 0 0 < 60
    rw [up_n (by decide), up_n (by decide)]
    exact h0
  refine ⟨rfl, ?_, ?_, ?_, ?_, ?_, fun x => ?_⟩
  · exact pAdd2.trans rfl
  · exact pAdd1.trans rfl
  · exact pAdd4.trans rfl
  · exact pAdd5.trans rfl
  · refine Nat.lt_of_lt_of_eq (Nat.succ_pos _) (pAdd_c h0').symm
  · rw [gBs_up (by decide)]
    refine (gBs_add h0').trans ?_
    rw [gRn_up (by decide), gRn_up (by decide)]
theorem st_num {c : Nat} {P : Nat → Nat} {T : Nat → Int32} (h3 : P 3 = 1) (h0 : P 0 < 60) : (rdStep c P T).1 3 = (if c = 49 then 6 else 4) ∧ (rdStep c P T).1 2 = P 2 ∧ (rdStep c P T).1 1 = P 1 ∧ 0 < (rdStep c P T).1 0 ∧ ∀ x, gRn (rdStep c P T) x = gcStep (nI ((c - 48) * 4096 + 4095)) x (gRn (P, T) x) ∧ gBs (rdStep c P T) x = gRn (P, T) x := by
  unfold rdStep numQ
  rw [if_neg (by omega), if_pos h3]
  refine ⟨rfl, pAdd2, pAdd1, Nat.lt_of_lt_of_eq (Nat.succ_pos _) (pAdd_c (q := (P, T)) h0).symm, fun x => ⟨?_, ?_⟩⟩
  · rw [gRn_up (by decide)]
    exact gRn_add h0
  · rw [gBs_up (by decide)]
    exact gBs_add h0
theorem st_col {c : Nat} {P : Nat → Nat} {T : Nat → Int32} (h3 : P 3 = 2) : (rdStep c P T).1 3 = 3 ∧ (rdStep c P T).1 2 = P 2 ∧ (rdStep c P T).1 1 = P 1 ∧ (rdStep c P T).1 0 = P 0 ∧ (rdStep c P T).1 4 = P 4 ∧ (rdStep c P T).1 5 = P 5 ∧ ∀ x, gBs (rdStep c P T) x = gBs (P, T) x := by
  unfold rdStep colQ
  rw [if_neg (by omega), if_neg (by omega), if_pos h3]
  exact ⟨rfl, rfl, rfl, rfl, rfl, rfl, fun x => gBs_up (by decide)⟩
theorem st_l35 {c : Nat} {P : Nat → Nat} {T : Nat → Int32} (h3 : P 3 = 3 ∨ P 3 = 5) (hc : isLet c = true) (h0 : 0 < P 0) : (rdStep c P T).1 3 = 5 ∧ (rdStep c P T).1 2 = P 2 ∧ (rdStep c P T).1 1 = (P 1 ||| 2 ^ (c - 97)) ∧ (rdStep c P T).1 0 = P 0 ∧ (rdStep c P T).1 4 = P 4 ∧ (rdStep c P T).1 5 = (P 5 ||| 2 ^ (c - 97)) ∧ ∀ x, gBs (rdStep c P T) x = gBs (P, T) x ∧ gRn (rdStep c P T) x = gcStep (nI (P 4 * 4096 + (P 5 ||| 2 ^ (c - 97)))) x (gBs (P, T) x) := by
  have e : rdStep c P T = letQ c P T := by
    unfold rdStep
    rcases h3 with h3 | h3
    · rw [if_neg (by omega), if_neg (by omega), if_neg (by omega), if_pos h3]
    · rw [if_neg (by omega), if_neg (by omega), if_neg (by omega), if_neg (by omega), if_pos h3, if_pos hc]
  have h0' : 0 < ((up (up P 1 (P 1 ||| 2 ^ (c - 97))) 5 (P 5 ||| 2 ^ (c - 97)), T) : rdQ).1 0 := by
    show 0 < up (up P 1 (P 1 ||| 2 ^ (c - 97))) 5 (P 5 ||| 2 ^ (c - 97)) 0
    rw [up_n (by decide), up_n (by decide)]
    exact h0
  rw [e]
  unfold letQ
  refine ⟨rfl, ?_, ?_, ?_, ?_, ?_, fun x => ⟨?_, ?_⟩⟩
  · show (pChg _ _).1 2 = _
    rw [pChg_1]; rfl
  · show (pChg _ _).1 1 = _
    rw [pChg_1]; rfl
  · show (pChg _ _).1 0 = _
    rw [pChg_1]; rfl
  · show (pChg _ _).1 4 = _
    rw [pChg_1]; rfl
  · show (pChg _ _).1 5 = _
    rw [pChg_1]; rfl
  · rw [gBs_up (by decide)]
    refine gBs_chg.trans ?_
    rw [gBs_up (by decide), gBs_up (by decide)]
  · rw [gRn_up (by decide)]
    refine (gRn_chg h0').trans ?_
    rw [gBs_up (by decide), gBs_up (by decide)]
theorem st_sec {c : Nat} {P : Nat → Nat} {T : Nat → Int32} (h3 : P 3 = 6) (hc : isDig c 48 50 = true) (h0 : 0 < P 0) : (rdStep c P T).1 3 = 4 ∧ (rdStep c P T).1 2 = P 2 ∧ (rdStep c P T).1 1 = P 1 ∧ ∀ x, gRn (rdStep c P T) x = gcStep (nI ((c - 38) * 4096 + 4095)) x (gBs (P, T) x) := by
  unfold rdStep secQ
  rw [if_neg (by omega), if_neg (by omega), if_neg (by omega), if_neg (by omega), if_neg (by omega), if_pos h3, if_pos hc]
  refine ⟨rfl, ?_, ?_, fun x => ?_⟩
  · show (pChg _ _).1 2 = _
    rw [pChg_1]
  · show (pChg _ _).1 1 = _
    rw [pChg_1]
  · rw [gRn_up (by decide)]
    exact gRn_chg h0
/-- behind an atom: what comes next begins anew -/
def rsB (P : Nat → Nat) (c : Nat) : Prop := P 3 = 4 ∨ (P 3 = 5 ∧ ¬ isLet c = true) ∨ (P 3 = 6 ∧ ¬ isDig c 48 50 = true)
theorem st_beh {c : Nat} {P : Nat → Nat} {T : Nat → Int32} (h : rsB P c) : rdStep c P T = behQ c P T ∧ rdOk P c = behOk (P 2) c := by
  unfold rdStep rdOk
  rcases h with h | ⟨h, hl⟩ | ⟨h, hl⟩
  · rw [if_neg (by omega), if_neg (by omega), if_neg (by omega), if_neg (by omega), if_neg (by omega), if_neg (by omega), if_neg (by omega), if_neg (by omega), if_neg (by omega), if_neg (by omega), if_neg (by omega), if_neg (by omega)]
    exact ⟨rfl, rfl⟩
  · rw [if_neg (by omega), if_neg (by omega), if_neg (by omega), if_neg (by omega), if_pos h, if_neg hl, if_neg (by omega), if_neg (by omega), if_neg (by omega), if_neg (by omega), if_pos h, ts_false hl]
    exact ⟨rfl, rfl⟩
  · rw [if_neg (by omega), if_neg (by omega), if_neg (by omega), if_neg (by omega), if_neg (by omega), if_pos h, if_neg hl, if_neg (by omega), if_neg (by omega), if_neg (by omega), if_neg (by omega), if_neg (by omega), if_pos h, ts_false hl]
    exact ⟨rfl, rfl⟩
theorem st_close {c : Nat} {P : Nat → Nat} {T : Nat → Int32} (hc : c = 41) (h0 : P 0 < 60) : (behQ c P T).1 3 = 4 ∧ (behQ c P T).1 2 = P 2 - 1 ∧ (behQ c P T).1 1 = P 1 ∧ ∀ x, gRn (behQ c P T) x = gcStep (-2) x (gRn (P, T) x) := by
  unfold behQ clQ
  rw [if_pos hc]
  refine ⟨rfl, ?_, ?_, fun x => ?_⟩
  · exact pAdd2.trans rfl
  · exact pAdd1.trans rfl
  · rw [gRn_up (by decide)]
    refine (gRn_add h0).trans ?_
    rw [gRn_up (by decide)]
theorem st_bar {c : Nat} {P : Nat → Nat} {T : Nat → Int32} (hc : c = 124) (h0 : P 0 < 60) : (behQ c P T).1 3 = 0 ∧ (behQ c P T).1 2 = P 2 ∧ (behQ c P T).1 1 = P 1 ∧ ∀ x, gRn (behQ c P T) x = gcStep (-3) x (gRn (P, T) x) := by
  unfold behQ
  rw [if_neg (by omega), if_pos hc]
  refine ⟨rfl, pAdd2, pAdd1, fun x => ?_⟩
  rw [gRn_up (by decide)]
  exact gRn_add h0
theorem st_amp {c : Nat} {P : Nat → Nat} {T : Nat → Int32} (hc : c = 38) : (behQ c P T).1 3 = 0 ∧ (behQ c P T).1 2 = P 2 ∧ (behQ c P T).1 1 = P 1 ∧ ∀ x, gRn (behQ c P T) x = gRn (P, T) x := by
  unfold behQ
  rw [if_neg (by omega), if_neg (by omega)]
  exact ⟨rfl, rfl, rfl, fun x => gRn_up (by decide)⟩
/-! how many steps there are -/
theorem behQ_0 {c : Nat} {P : Nat → Nat} {T : Nat → Int32} : (behQ c P T).1 0 ≤ P 0 + 1 := by
  unfold behQ clQ
  split
  · exact pAdd_le
  · split
    · exact pAdd_le
    · exact Nat.le_succ _
theorem letQ_0 {c : Nat} {P : Nat → Nat} {T : Nat → Int32} : (letQ c P T).1 0 ≤ P 0 + 1 := by
  unfold letQ
  show (pChg _ _).1 0 ≤ _
  rw [pChg_1]
  exact Nat.le_succ _
theorem rdStep_0 {c : Nat} {P : Nat → Nat} {T : Nat → Int32} : (rdStep c P T).1 0 ≤ P 0 + 1 := by
  unfold rdStep
  split
  · unfold atomQ
    split
    · exact pAdd_le
    · split
      · exact pAdd_le
      · split
        · exact Nat.le_succ _
        · split
          · exact pAdd_le
          · exact pAdd_le
  · split
    · exact pAdd_le
    · split
      · exact Nat.le_succ _
      · split
        · exact letQ_0
        · split
          · split
            · exact letQ_0
            · exact behQ_0
          · split
            · split
              · show (pChg _ _).1 0 ≤ _
                rw [pChg_1]
                exact Nat.le_succ _
              · exact behQ_0
            · exact behQ_0
theorem tR_0 (tx : Nat → Nat) : ∀ p, (tR tx p).1 0 ≤ p
  | 0 => Nat.le_refl _
  | p + 1 => Nat.le_trans rdStep_0 (Nat.succ_le_succ (tR_0 tx p))
theorem tR_s (tx : Nat → Nat) (p : Nat) : tR tx (p + 1) = rdStep (tx p) (tR tx p).1 (tR tx p).2 := rfl
/-! so far every character is allowed -/
def gdTo (tx : Nat → Nat) (p : Nat) : Prop := ∀ i, i < p → rdOk (tR tx i).1 (tx i) = true
theorem gdTo.succ {tx : Nat → Nat} {p : Nat} (h : gdTo tx p) (hk : rdOk (tR tx p).1 (tx p) = true) : gdTo tx (p + 1) := fun i hi => by
  by_cases e : i = p
  · rw [e]; exact hk
  · exact h i (by omega)
theorem gdTo.inv {tx : Nat → Nat} : ∀ {p : Nat}, gdTo tx p → rdInv (tR tx p).1
  | 0, _ => rdInv_init
  | p + 1, h => rdInv_step (gdTo.inv fun i hi => h i (by omega)) (h p (Nat.lt_succ_self p))
theorem rdF_go {tx : Nat → Nat} {len : Nat} : ∀ (k m p : Nat), (∀ i, p ≤ i → i < p + k → rdOk (tR tx i).1 (tx i) = true) → rdFault tx (fun _ => 0) (fun _ => 0) len (m + k) p = rdFault tx (fun _ => 0) (fun _ => 0) len m (p + k)
  | 0, _, _, _ => rfl
  | k + 1, m, p, h => by
    have h1 : rdOk (rdRun tx (fun _ => 0) (fun _ => 0) p).1 (tx p) = true := h p (Nat.le_refl _) (by omega)
    show (if rdOk (rdRun tx (fun _ => 0) (fun _ => 0) p).1 (tx p) then rdFault tx (fun _ => 0) (fun _ => 0) len (m + k) (p + 1) else nI p) = _
    rw [if_pos h1, rdF_go k m (p + 1) (fun i h1 h2 => h i (by omega) (by omega)), show p + 1 + k = p + (k + 1) by omega]
theorem tF_at {tx : Nat → Nat} {len p : Nat} (h : gdTo tx p) (hp : p ≤ len) : tF tx len = rdFault tx (fun _ => 0) (fun _ => 0) len (len - p) p := by
  unfold tF
  have e := rdF_go (tx := tx) (len := len) p (len - p) 0 (fun i _ hi => h i (by omega))
  rw [Nat.sub_add_cancel hp, Nat.zero_add] at e
  exact e
theorem tF_no {tx : Nat → Nat} {len p : Nat} (h : gdTo tx p) (hp : p < len) (hk : rdOk (tR tx p).1 (tx p) = false) : tF tx len = nI p := by
  rw [tF_at h (by omega), show len - p = (len - p - 1) + 1 by omega]
  show (if rdOk (tR tx p).1 (tx p) then rdFault tx (fun _ => 0) (fun _ => 0) len (len - p - 1) (p + 1) else nI p) = _
  rw [hk]
  rfl
theorem tF_end {tx : Nat → Nat} {len : Nat} (h : gdTo tx len) : tF tx len = if rdWhole (tR tx len).1 then -1 else nI len := by
  rw [tF_at h (Nat.le_refl _), Nat.sub_self]
  rfl
theorem tF_ok {tx : Nat → Nat} {len : Nat} (hl : len ≤ 60) (h : tF tx len = -1) : gdTo tx len ∧ rdWhole (tR tx len).1 = true := by
  have key : ∀ p, p ≤ len → gdTo tx p := by
    intro p
    induction p with
    | zero => exact fun _ i hi => absurd hi (Nat.not_lt_zero i)
    | succ p ih =>
      intro hp
      have g := ih (by omega)
      cases hk : rdOk (tR tx p).1 (tx p)
      · rw [tF_no g (by omega) hk] at h
        have := nI_pos (n := p) (by omega)
        rw [h] at this
        exact absurd (by decide) this
      · exact g.succ hk
  have g := key len (Nat.le_refl _)
  refine ⟨g, ?_⟩
  cases hw : rdWhole (tR tx len).1
  · rw [tF_end g, hw] at h
    have := nI_pos (n := len) (by omega)
    have h : nI len = -1 := h
    rw [h] at this
    exact absurd (by decide) this
  · rfl
