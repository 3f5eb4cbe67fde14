/-! THE TEXT OF A CONDITION, typed token by token -/
section TXS
variable {n len st : Nat} {tx : Nat → Nat}
theorem tu_s {P : Nat → Nat} {k v : Nat} : up P k v k = v := if_pos rfl
theorem tu_n {P : Nat → Nat} {k v j : Nat} (h : j ≠ k) : up P k v j = P j := if_neg h
/-- what is typed so far is read without a fault, the reader is at the place st, no bracket is open, all letters are of guests below n -/
def TX (n : Nat) (tx : Nat → Nat) (len st : Nat) : Prop := (∀ p, p < len → rdOk (tR tx p).1 (tx p) = true) ∧ (tR tx len).1 3 = st ∧ (tR tx len).1 2 = 0 ∧ (tR tx len).1 1 < 2 ^ n
/-- .. and an atom is whole -/
def TB (n : Nat) (tx : Nat → Nat) (len : Nat) : Prop := ∃ st, (st = 4 ∨ st = 5 ∨ st = 6) ∧ TX n tx len st
theorem tR_up (c : Nat) : ∀ p, p ≤ len → tR (up tx len c) p = tR tx p
  | 0, _ => rfl
  | p + 1, h => by
    show rdStep (up tx len c p) (tR (up tx len c) p).1 (tR (up tx len c) p).2 = rdStep (tx p) (tR tx p).1 (tR tx p).2
    rw [tR_up c p (by omega), tu_n (by omega)]
theorem TX.step (h : TX n tx len st) {c st' : Nat} (h1 : rdOk (tR tx len).1 c = true) (h2 : (rdStep c (tR tx len).1 (tR tx len).2).1 3 = st') (h3 : (rdStep c (tR tx len).1 (tR tx len).2).1 2 = 0) (h4 : (rdStep c (tR tx len).1 (tR tx len).2).1 1 < 2 ^ n) : TX n (up tx len c) (len + 1) st' := by
  obtain ⟨a, -, -, -⟩ := h
  have e : tR (up tx len c) (len + 1) = rdStep c (tR tx len).1 (tR tx len).2 := by
    show rdStep (up tx len c len) (tR (up tx len c) len).1 (tR (up tx len c) len).2 = _
    rw [tR_up c len (Nat.le_refl _), tu_s]
  refine ⟨fun p hp => ?_, by rw [e]; exact h2, by rw [e]; exact h3, by rw [e]; exact h4⟩
  rw [tR_up c p (by omega)]
  by_cases ep : p = len
  · subst ep; rw [tu_s]; exact h1
  · rw [tu_n ep]; exact a p (by omega)
theorem TX.zero : TX n tx 0 0 := ⟨fun p h => absurd h (Nat.not_lt_zero p), rfl, rfl, Nat.two_pow_pos n⟩
theorem isLet_j {j : Nat} (hj : j < 12) : isLet (97 + j) = true := by
  unfold isLet
  rw [decide_eq_true (by omega), decide_eq_true (by omega)]
  rfl
theorem pAj {q : rdQ} {s : Int32} {j : Nat} (h : j ≠ 0) : (pAdd q s).1 j = q.1 j := by
  unfold pAdd
  split
  · exact tu_n h
  · rfl
theorem pC1 {q : rdQ} {s : Int32} : (pChg q s).1 = q.1 := by
  unfold pChg
  split <;> rfl
theorem TX.let0 (h : TX n tx len 0) (hn : n ≤ 12) {j : Nat} (hj : j < n) : TX n (up tx len (97 + j)) (len + 1) 4 := by
  obtain ⟨-, a3, a2, a1⟩ := id h
  have hl := isLet_j (j := j) (by omega)
  have e : rdStep (97 + j) (tR tx len).1 (tR tx len).2 = (up (pAdd (up (tR tx len).1 1 ((tR tx len).1 1 ||| 2 ^ j), (tR tx len).2) (nI (1 * 4096 + 2 ^ j))).1 3 4, (pAdd (up (tR tx len).1 1 ((tR tx len).1 1 ||| 2 ^ j), (tR tx len).2) (nI (1 * 4096 + 2 ^ j))).2) := by
    unfold rdStep atomQ
    rw [if_pos a3, if_neg (by omega), if_neg (by omega), if_neg (by omega), if_pos hl, show 97 + j - 97 = j by omega]
  refine h.step ?_ ?_ ?_ ?_
  · unfold rdOk atomOk
    rw [if_pos a3, if_neg (by omega), hl]
    simp
  · rw [e]; rfl
  · rw [e]
    show up (pAdd _ _).1 3 4 2 = 0
    rw [tu_n (by decide), pAj (by decide)]
    exact a2
  · rw [e]
    show up (pAdd _ _).1 3 4 1 < _
    rw [tu_n (by decide), pAj (by decide)]
    exact or_lt a1 hj
theorem TX.hash (h : TX n tx len 0) : TX n (up tx len 35) (len + 1) 1 := by
  obtain ⟨-, a3, a2, a1⟩ := id h
  have e : rdStep 35 (tR tx len).1 (tR tx len).2 = (up (tR tx len).1 3 1, (tR tx len).2) := by
    unfold rdStep atomQ
    rw [if_pos a3, if_neg (by omega), if_neg (by omega), if_pos rfl]
  refine h.step ?_ ?_ ?_ ?_
  · unfold rdOk atomOk
    rw [if_pos a3, if_neg (by omega)]
    simp
  · rw [e]; rfl
  · rw [e]
    show up _ 3 1 2 = 0
    rw [tu_n (by decide)]
    exact a2
  · rw [e]
    show up _ 3 1 1 < _
    rw [tu_n (by decide)]
    exact a1
theorem isDig_j {c a b : Nat} (h1 : a ≤ c) (h2 : c ≤ b) : isDig c a b = true := by
  unfold isDig
  rw [decide_eq_true h1, decide_eq_true h2]
  rfl
theorem TX.num (h : TX n tx len 1) {j : Nat} (hj : j < 6) : TB n (up tx len (49 + j)) (len + 1) := by
  obtain ⟨-, a3, a2, a1⟩ := id h
  have e : rdStep (49 + j) (tR tx len).1 (tR tx len).2 = (up (pAdd (tR tx len) (nI ((49 + j - 48) * 4096 + 4095))).1 3 (if 49 + j = 49 then 6 else 4), (pAdd (tR tx len) (nI ((49 + j - 48) * 4096 + 4095))).2) := by
    unfold rdStep numQ
    rw [if_neg (by omega), if_pos a3]
  refine ⟨if 49 + j = 49 then 6 else 4, by split <;> simp, h.step ?_ ?_ ?_ ?_⟩
  · unfold rdOk
    rw [if_neg (by omega), if_pos a3]
    exact isDig_j (by omega) (by omega)
  · rw [e]; rfl
  · rw [e]
    show up (pAdd _ _).1 3 (if 49 + j = 49 then 6 else 4) 2 = 0
    rw [tu_n (by decide), pAj (by decide)]
    exact a2
  · rw [e]
    show up (pAdd _ _).1 3 (if 49 + j = 49 then 6 else 4) 1 < _
    rw [tu_n (by decide), pAj (by decide)]
    exact a1
theorem TX.dig (h : TX n tx len 0) {j : Nat} (hj : j < 2) : TX n (up tx len (49 + j)) (len + 1) 2 := by
  obtain ⟨-, a3, a2, a1⟩ := id h
  have hl : isLet (49 + j) = false := by
    unfold isLet
    rw [decide_eq_false (by omega)]
    rfl
  have e : rdStep (49 + j) (tR tx len).1 (tR tx len).2 = (up (pAdd (up (up (tR tx len).1 4 (49 + j - 48)) 5 0, (tR tx len).2) (nI ((49 + j - 48) * 4096 + 0))).1 3 2, (pAdd (up (up (tR tx len).1 4 (49 + j - 48)) 5 0, (tR tx len).2) (nI ((49 + j - 48) * 4096 + 0))).2) := by
    unfold rdStep atomQ
    rw [if_pos a3, if_neg (by omega), if_neg (by omega), if_neg (by omega), hl, if_neg (by decide)]
  refine h.step ?_ ?_ ?_ ?_
  · unfold rdOk atomOk
    rw [if_pos a3, if_neg (by omega), isDig_j (c := 49 + j) (a := 49) (b := 57) (by omega) (by omega)]
    simp
  · rw [e]; rfl
  · rw [e]
    show up (pAdd _ _).1 3 2 2 = 0
    rw [tu_n (by decide), pAj (by decide)]
    exact a2
  · rw [e]
    show up (pAdd _ _).1 3 2 1 < _
    rw [tu_n (by decide), pAj (by decide)]
    exact a1
theorem TX.col (h : TX n tx len 2) : TX n (up tx len 58) (len + 1) 3 := by
  obtain ⟨-, a3, a2, a1⟩ := id h
  have e : rdStep 58 (tR tx len).1 (tR tx len).2 = (up (tR tx len).1 3 3, (tR tx len).2) := by
    unfold rdStep colQ
    rw [if_neg (by omega), if_neg (by omega), if_pos a3]
  refine h.step ?_ ?_ ?_ ?_
  · unfold rdOk
    rw [if_neg (by omega), if_neg (by omega), if_pos a3]
    rfl
  · rw [e]; rfl
  · rw [e]
    show up _ 3 3 2 = 0
    rw [tu_n (by decide)]
    exact a2
  · rw [e]
    show up _ 3 3 1 < _
    rw [tu_n (by decide)]
    exact a1
theorem TX.let3 (h : TX n tx len st) (hs : st = 3 ∨ st = 5) (hn : n ≤ 12) {j : Nat} (hj : j < n) : TX n (up tx len (97 + j)) (len + 1) 5 := by
  obtain ⟨-, a3, a2, a1⟩ := id h
  have hl := isLet_j (j := j) (by omega)
  have e : rdStep (97 + j) (tR tx len).1 (tR tx len).2 = letQ (97 + j) (tR tx len).1 (tR tx len).2 := by
    unfold rdStep
    rcases hs with q | q
    · rw [if_neg (by omega), if_neg (by omega), if_neg (by omega), if_pos (by omega)]
    · rw [if_neg (by omega), if_neg (by omega), if_neg (by omega), if_neg (by omega), if_pos (by omega), if_pos hl]
  refine h.step ?_ ?_ ?_ ?_
  · unfold rdOk
    rcases hs with q | q
    · rw [if_neg (by omega), if_neg (by omega), if_neg (by omega), if_pos (by omega)]; exact hl
    · rw [if_neg (by omega), if_neg (by omega), if_neg (by omega), if_neg (by omega), if_pos (by omega), hl]; rfl
  · rw [e]; rfl
  · rw [e]
    show up (pChg _ _).1 3 5 2 = 0
    rw [tu_n (by decide), pC1]
    exact a2
  · rw [e]
    show up (pChg _ _).1 3 5 1 < _
    rw [tu_n (by decide), pC1]
    show (tR tx len).1 1 ||| 2 ^ (97 + j - 97) < _
    rw [show 97 + j - 97 = j by omega]
    exact or_lt a1 hj
theorem TB.op (h : TB n tx len) {c : Nat} (hc : c = 38 ∨ c = 124) : TX n (up tx len c) (len + 1) 0 := by
  obtain ⟨st, hs, h⟩ := h
  obtain ⟨-, a3, a2, a1⟩ := id h
  have hb : behOk ((tR tx len).1 2) c = true := by
    unfold behOk
    rw [if_neg (by omega)]
    rcases hc with rfl | rfl <;> decide
  have hl : isLet c = false := by rcases hc with rfl | rfl <;> decide
  have hd : isDig c 48 50 = false := by rcases hc with rfl | rfl <;> decide
  have e : rdStep c (tR tx len).1 (tR tx len).2 = behQ c (tR tx len).1 (tR tx len).2 := by
    unfold rdStep
    rw [hl, hd]
    rcases hs with q | q | q
    · rw [if_neg (by omega), if_neg (by omega), if_neg (by omega), if_neg (by omega), if_neg (by omega), if_neg (by omega)]
    · rw [if_neg (by omega), if_neg (by omega), if_neg (by omega), if_neg (by omega), if_pos (by omega), if_neg (by decide)]
    · rw [if_neg (by omega), if_neg (by omega), if_neg (by omega), if_neg (by omega), if_neg (by omega), if_pos (by omega), if_neg (by decide)]
  have q1 : (behQ c (tR tx len).1 (tR tx len).2).1 3 = 0 ∧ (behQ c (tR tx len).1 (tR tx len).2).1 2 = 0 ∧ (behQ c (tR tx len).1 (tR tx len).2).1 1 < 2 ^ n := by
    unfold behQ
    rw [if_neg (by omega)]
    rcases hc with rfl | rfl
    · rw [if_neg (by decide)]
      refine ⟨rfl, ?_, ?_⟩
      · show up _ 3 0 2 = 0
        rw [tu_n (by decide)]; exact a2
      · show up _ 3 0 1 < _
        rw [tu_n (by decide)]; exact a1
    · rw [if_pos rfl]
      refine ⟨rfl, ?_, ?_⟩
      · show up (pAdd _ _).1 3 0 2 = 0
        rw [tu_n (by decide), pAj (by decide)]; exact a2
      · show up (pAdd _ _).1 3 0 1 < _
        rw [tu_n (by decide), pAj (by decide)]; exact a1
  refine h.step ?_ ?_ ?_ ?_
  · unfold rdOk
    rw [hl, hd, hb]
    rcases hs with q | q | q
    · rw [if_neg (by omega), if_neg (by omega), if_neg (by omega), if_neg (by omega), if_neg (by omega), if_neg (by omega)]
    · rw [if_neg (by omega), if_neg (by omega), if_neg (by omega), if_neg (by omega), if_pos (by omega)]; rfl
    · rw [if_neg (by omega), if_neg (by omega), if_neg (by omega), if_neg (by omega), if_neg (by omega), if_pos (by omega)]; rfl
  · rw [e]; exact q1.1
  · rw [e]; exact q1.2.1
  · rw [e]; exact q1.2.2
theorem TB.fault (h : TB n tx len) : tF tx len = -1 := by
  obtain ⟨st, hs, h, a3, a2, -⟩ := h
  have key : ∀ m p, p + m = len → rdFault tx (fun _ => 0) (fun _ => 0) len m p = -1 := by
    intro m
    induction m with
    | zero =>
      intro p hp
      unfold rdFault
      have hw : rdWhole (tR tx len).1 = true := by
        unfold rdWhole
        rw [a3, a2, decide_eq_true (by omega)]
        rfl
      exact if_pos hw
    | succ m ih =>
      intro p hp
      unfold rdFault
      have := h p (by omega)
      exact (if_pos this).trans (ih (p + 1) (by omega))
  exact key len 0 (by omega)
theorem TB.lt (h : TB n tx len) : tL tx len < 2 ^ n := by
  obtain ⟨st, hs, h, a3, a2, a1⟩ := h
  exact a1
/-! the party with another text -/
def ytx (Y : hY) (len : Nat) (tx : Nat → Nat) : hY := (Y.1, Y.2.1, Y.2.2.1, Y.2.2.2.1, Y.2.2.2.2.1, len, tx)
theorem a_type (Y : hY) {c : Nat} (h : len < 60) : sp_type (ytx Y len tx) c = (nI (len + 1), ytx Y (len + 1) (up tx len c)) := if_neg (show ¬ len = 60 by omega)
theorem a_setc {Y : hY} {k : Nat} (w : WF Y.1) (hk : k < vN Y.1) (h : TB (vN Y.1) tx len) : sp_setCondition (ytx Y len tx) (nI k) = if Y.1 7 = 1 then (-4, ytx Y len tx) else (nI (pop (tL tx len)), yAct (ytx Y len tx) (chgV (cndV Y.1 k (tL tx len) (tM tx len)) k)) := by
  unfold sp_setCondition
  have h1 : gOk (ytx Y len tx).1 (nI k) := gOk_nI w hk
  have h2 : tF (ytx Y len tx).2.2.2.2.2.2 (ytx Y len tx).2.2.2.2.2.1 = -1 := h.fault
  have h3 : tL (ytx Y len tx).2.2.2.2.2.2 (ytx Y len tx).2.2.2.2.2.1 < 2 ^ vN (ytx Y len tx).1 := h.lt
  rw [if_neg (not_not_intro h1), if_neg (not_not_intro h2), if_neg (not_not_intro h3), clp_k w hk]
  rfl
theorem chg_g {V : Nat → Int32} {k f : Nat} (hf : f < 8) : vG (chgV V k) k f = if f = 3 then vG V k 3 + (if V 5 < V 1 then V 6 else 0) else vG V k f := by
  unfold chgV
  by_cases h : V 5 < V 1
  · rw [if_pos h, if_pos h, show 18 + 8 * k = 15 + 8 * k + 3 by omega, vG_upd (by decide) hf]
    by_cases e : f = 3
    · rw [if_pos ⟨rfl, e⟩, if_pos e]; rfl
    · rw [if_neg (fun q => e q.2), if_neg e]
  · rw [if_neg h, if_neg h, Int32.add_zero]
    by_cases e : f = 3
    · rw [if_pos e, e]
    · rw [if_neg e]
theorem chg_o {V : Nat → Int32} {k i : Nat} (hi : i < 15) : chgV V k i = V i := by
  unfold chgV
  split
  · exact upd_n (by omega)
  · rfl
theorem chg_n {V : Nat → Int32} {k : Nat} : vN (chgV V k) = vN V := by
  unfold vN
  rw [chg_o (by decide)]
end TXS
