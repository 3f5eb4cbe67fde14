/-! what an act makes of a state's picture, and of the numbers that it stands for -/
theorem gcRun_cong {T T' : Nat → Int32} {x : Nat} : ∀ {c : Nat}, (∀ j, j < c → T j = T' j) → gcRun T x c = gcRun T' x c
  | 0, _ => rfl
  | c + 1, h => by rw [gcRun, gcRun, gcRun_cong (fun j hj => h j (by omega)), h c (by omega)]
theorem gcMet_cong {T T' : Nat → Int32} {x c : Nat} (h : ∀ j, j < c → T j = T' j) : gcMet T c x = gcMet T' c x := by
  unfold gcMet
  rw [gcRun_cong h]
theorem all_ones : ∀ s : Nat, s < 32 → ((-1 : Int32) >>> (nI s &&& 31)) &&& 1 = 1 := by decide +kernel
section EN
variable {S S' : Nat → Nat → Int32} {V V' : Nat → Int32} {k : Nat}
theorem EncG.of (h : EncG S V k) (e : ∀ j, j < 9 → S' (2 + k) j = S (2 + k) j) (t : ∀ j, j < stC S k → S' (14 + k) j = S (14 + k) j) (v : ∀ f, f < 8 → vG V' k f = vG V k f) (m : ∀ x, x < 4096 → vMet V' k x = vMet V k x) : EncG S' V' k := by
  obtain ⟨⟨h0, h1, h2, h3, h4, h5, h6, h7⟩, ⟨h8, h9⟩, h10⟩ := h
  have ec : stC S' k = stC S k := by unfold stC; rw [e 8 (by decide)]
  refine ⟨⟨?_, ?_, ?_, ?_, ?_, ?_, ?_, ?_⟩, ⟨?_, ?_⟩, fun x hx => ?_⟩
  · rw [e 0 (by decide), v 0 (by decide), h0]
  · rw [e 1 (by decide), v 1 (by decide), h1]
  · rw [e 2 (by decide), v 2 (by decide), h2]
  · rw [e 3 (by decide), v 3 (by decide), h3]
  · rw [e 4 (by decide), v 5 (by decide), h4]
  · rw [e 5 (by decide), v 6 (by decide), h5]
  · rw [e 6 (by decide), v 7 (by decide), h6]
  · rw [e 7 (by decide), v 4 (by decide), h7]
  · rw [e 8 (by decide), ec, h8]
  · rw [ec]; exact h9
  · rw [m x hx, ← h10 x hx]
    unfold sMet
    rw [ec]
    exact gcMet_cong fun j hj => t j hj
theorem Enc.cp (h : Enc S V) (c : cpRel S (vN V) S') : Enc S' V := by
  obtain ⟨⟨h0, h1, h2, h3, h4, h5, h6, h7⟩, h8, h9⟩ := h
  obtain ⟨c0, c1, c2⟩ := c
  refine ⟨⟨?_, ?_, ?_, ?_, ?_, ?_, ?_, ?_⟩, fun j hj => ?_, fun k hk => ?_⟩
  · rw [c0 0 (by decide), h0]
  · rw [c0 1 (by decide), h1]
  · rw [c0 2 (by decide), h2]
  · rw [c0 3 (by decide), h3]
  · rw [c0 4 (by decide), h4]
  · rw [c0 5 (by decide), h5]
  · rw [c0 6 (by decide), h6]
  · rw [c0 7 (by decide), h7]
  · rw [c1 j hj, h8 j hj]
  · exact (h9 k hk).of (c2 k hk).1 (c2 k hk).2 (fun _ _ => rfl) (fun _ _ => rfl)
theorem vMet_n {V : Nat → Int32} {i k x : Nat} {v : Int32} (hi : i < 111) : vMet (upd V i v) k x = vMet V k x := by
  unfold vMet
  rw [upd_n (by omega)]
theorem vN_n {V : Nat → Int32} {i : Nat} {v : Int32} (hi : i ≠ 0) : vN (upd V i v) = vN V := by
  unfold vN
  rw [upd_n (Ne.symm hi)]
theorem sGu_o {S : Nat → Nat → Int32} {k r : Nat} {G T : Nat → Int32} (h1 : r ≠ 2 + k) (h2 : r ≠ 14 + k) : sGu S k G T r = S r := by
  unfold sGu
  rw [if_neg h1, if_neg h2]
theorem sGu_g {S : Nat → Nat → Int32} {k : Nat} {G T : Nat → Int32} : sGu S k G T (2 + k) = G := if_pos rfl
theorem sGu_t {S : Nat → Nat → Int32} {k : Nat} {G T : Nat → Int32} : sGu S k G T (14 + k) = T := by
  unfold sGu
  rw [if_neg (by omega), if_pos rfl]
/-- one number of a guest -/
theorem Enc.gu {c : Nat} (h : Enc S V) (hk : k < vN V) (hn : vN V ≤ 12) (hc : c < 4) (v : Int32) : Enc (sGu S k (upd (S (2 + k)) c v) (S (14 + k))) (upd V (15 + 8 * k + c) v) := by
  obtain ⟨⟨h0, h1, h2, h3, h4, h5, h6, h7⟩, h8, h9⟩ := h
  have o : ∀ i, i < 15 → upd V (15 + 8 * k + c) v i = V i := fun i hi => upd_n (by omega)
  refine ⟨⟨?_, ?_, ?_, ?_, ?_, ?_, ?_, ?_⟩, fun j hj => ?_, fun j hj => ?_⟩
  · rw [sGu_o (by omega) (by omega), o 0 (by decide), h0]
  · rw [sGu_o (by omega) (by omega), o 1 (by decide), h1]
  · rw [sGu_o (by omega) (by omega), o 7 (by decide), h2]
  · rw [sGu_o (by omega) (by omega), o 8 (by decide), h3]
  · rw [sGu_o (by omega) (by omega), o 9 (by decide), h4]
  · rw [sGu_o (by omega) (by omega), o 12 (by decide), h5]
  · rw [sGu_o (by omega) (by omega), o 13 (by decide), h6]
  · rw [sGu_o (by omega) (by omega), o 14 (by decide), h7]
  · rw [sGu_o (by omega) (by omega), o (2 + j) (by omega), h8 j hj]
  · rw [vN_n (by omega)] at hj
    by_cases e : j = k
    · subst e
      obtain ⟨⟨g0, g1, g2, g3, g4, g5, g6, g7⟩, ⟨g8, g9⟩, g10⟩ := h9 j hj
      have key : ∀ (a b : Nat), a < 9 → (a = b ∨ 4 ≤ a) → (4 ≤ a → 4 ≤ b) → S (2 + j) a = vG V j b → sGu S j (upd (S (2 + j)) c v) (S (14 + j)) (2 + j) a = vG (upd V (15 + 8 * j + c) v) j b := fun a b ha hab h4 e => by
        rw [sGu_g]
        unfold vG
        by_cases hac : a = c
        · subst hac
          rw [upd_s, show a = b by omega, upd_s]
        · rw [upd_n hac, upd_n (by omega)]
          exact e
      have ec : stC (sGu S j (upd (S (2 + j)) c v) (S (14 + j))) j = stC S j := by
        unfold stC
        rw [sGu_g, upd_n (by omega)]
      refine ⟨⟨key 0 0 (by decide) (by decide) (by decide) g0, key 1 1 (by decide) (by decide) (by decide) g1, key 2 2 (by decide) (by decide) (by decide) g2, key 3 3 (by decide) (by decide) (by decide) g3, key 4 5 (by decide) (by decide) (by decide) g4, key 5 6 (by decide) (by decide) (by decide) g5, key 6 7 (by decide) (by decide) (by decide) g6, key 7 4 (by decide) (by decide) (by decide) g7⟩, ⟨?_, by rw [ec]; exact g9⟩, fun x hx => ?_⟩
      · rw [ec, sGu_g, upd_n (by omega), g8]
      · rw [vMet_n (by omega), ← g10 x hx]
        unfold sMet
        rw [ec, sGu_t]
    · refine (h9 j hj).of (fun i _ => ?_) (fun i _ => ?_) (fun f hf => ?_) (fun x _ => ?_)
      · rw [sGu_o (by omega) (by omega)]
      · rw [sGu_o (by omega) (by omega)]
      · unfold vG
        rw [upd_n (by omega)]
      · exact vMet_n (by omega)
theorem Enc.ch (h : Enc S V) (hk : k < vN V) (hn : vN V ≤ 12) : Enc (chS S k) (chgV V k) := by
  have e1 : S 0 1 = V 1 := h.1.2.1
  have e3 : S 1 3 = V 5 := h.2.1 3 (by decide)
  have e4 : S 1 4 = V 6 := h.2.1 4 (by decide)
  have eg : S (2 + k) 3 = vG V k 3 := (h.2.2 k hk).1.2.2.2.1
  unfold chS chgV
  rw [e1, e3, e4, eg]
  split
  · have := h.gu hk hn (c := 3) (by decide) (vG V k 3 + V 6)
    rw [show 15 + 8 * k + 3 = 18 + 8 * k by omega] at this
    have e : vG V k 3 = V (18 + 8 * k) := by
      unfold vG
      rw [show 15 + 8 * k + 3 = 18 + 8 * k by omega]
    rw [e] at this ⊢
    exact this
  · exact h
theorem Enc.set (h : Enc S V) {w : Nat} (hw : w < 5) (v : Int32) : Enc (sSe S (upd (S 1) w v)) (upd V (2 + w) v) := by
  obtain ⟨⟨h0, h1, h2, h3, h4, h5, h6, h7⟩, h8, h9⟩ := h
  have o : ∀ i, i < 2 ∨ 7 ≤ i → upd V (2 + w) v i = V i := fun i hi => upd_n (by omega)
  have q : ∀ r, r ≠ 1 → sSe S (upd (S 1) w v) r = S r := fun r hr => if_neg hr
  refine ⟨⟨?_, ?_, ?_, ?_, ?_, ?_, ?_, ?_⟩, fun j hj => ?_, fun j hj => ?_⟩
  · rw [q 0 (by decide), o 0 (by decide), h0]
  · rw [q 0 (by decide), o 1 (by decide), h1]
  · rw [q 0 (by decide), o 7 (by decide), h2]
  · rw [q 0 (by decide), o 8 (by decide), h3]
  · rw [q 0 (by decide), o 9 (by decide), h4]
  · rw [q 0 (by decide), o 12 (by decide), h5]
  · rw [q 0 (by decide), o 13 (by decide), h6]
  · rw [q 0 (by decide), o 14 (by decide), h7]
  · show upd (S 1) w v j = _
    by_cases e : j = w
    · subst e; rw [upd_s, upd_s]
    · rw [upd_n e, upd_n (by omega), h8 j hj]
  · rw [vN_n (by omega)] at hj
    refine (h9 j hj).of (fun i _ => ?_) (fun i _ => ?_) (fun f hf => ?_) (fun x _ => vMet_n (by omega))
    · rw [q _ (by omega)]
    · rw [q _ (by omega)]
    · unfold vG
      rw [upd_n (by omega)]
theorem Enc.pass (h : Enc S V) (v : Int32) : Enc (sOb S (upd (S 0) 1 v)) (upd V 1 v) := by
  obtain ⟨⟨h0, h1, h2, h3, h4, h5, h6, h7⟩, h8, h9⟩ := h
  have q : ∀ r, r ≠ 0 → sOb S (upd (S 0) 1 v) r = S r := fun r hr => if_neg hr
  have q0 : ∀ j, j ≠ 1 → sOb S (upd (S 0) 1 v) 0 j = S 0 j := fun j hj => upd_n hj
  refine ⟨⟨?_, rfl, ?_, ?_, ?_, ?_, ?_, ?_⟩, fun j hj => ?_, fun j hj => ?_⟩
  · rw [q0 0 (by decide), upd_n (by decide), h0]
  · rw [q0 2 (by decide), upd_n (by decide), h2]
  · rw [q0 3 (by decide), upd_n (by decide), h3]
  · rw [q0 4 (by decide), upd_n (by decide), h4]
  · rw [q0 5 (by decide), upd_n (by decide), h5]
  · rw [q0 6 (by decide), upd_n (by decide), h6]
  · rw [q0 7 (by decide), upd_n (by decide), h7]
  · rw [q 1 (by decide), upd_n (by omega), h8 j hj]
  · rw [vN_n (by omega)] at hj
    refine (h9 j hj).of (fun i _ => ?_) (fun i _ => ?_) (fun f hf => ?_) (fun x _ => vMet_n (by omega))
    · rw [q _ (by omega)]
    · rw [q _ (by omega)]
    · unfold vG
      rw [upd_n (by omega)]
/-- a guest more -/
theorem Enc.ad (h : Enc S V) (w : WF V) (hn : vN V < 12) (l wt : Int32) : Enc (adS S (vN V) l wt) (addV V (vN V) l wt) := by
  obtain ⟨⟨h0, h1, h2, h3, h4, h5, h6, h7⟩, h8, h9⟩ := h
  obtain ⟨-, -, -, -, -, -, hz⟩ := w
  generalize hnn : vN V = n at *
  have q : ∀ r, r ≠ 0 → r ≠ 2 + n → r ≠ 14 + n → adS S n l wt r = S r := fun r hr h1 h2 => by
    unfold adS
    rw [sGu_o h1 h2]
    exact if_neg hr
  have q0 : ∀ j, adS S n l wt 0 j = upd (S 0) 0 (nI (n + 1)) j := fun j => by
    unfold adS
    rw [sGu_o (by omega) (by omega)]
    rfl
  have o : ∀ i, i ≠ 0 → (i < 15 + 8 * n ∨ 23 + 8 * n ≤ i) → (i < 111 + 128 * n ∨ 239 + 128 * n ≤ i) → addV V n l wt i = V i := fun i h1 h2 h3 => by
    unfold addV
    rw [if_neg h1, if_neg (by omega), if_neg (by omega), if_neg (by omega), if_neg (by omega), if_neg (by omega)]
  have hN : vN (addV V n l wt) = n + 1 := nI_clamp (by omega)
  refine ⟨⟨?_, ?_, ?_, ?_, ?_, ?_, ?_, ?_⟩, fun j hj => ?_, fun j hj => ?_⟩
  · rw [q0]; rfl
  · rw [q0, upd_n (by decide), o 1 (by decide) (by omega) (by omega), h1]
  · rw [q0, upd_n (by decide), o 7 (by decide) (by omega) (by omega), h2]
  · rw [q0, upd_n (by decide), o 8 (by decide) (by omega) (by omega), h3]
  · rw [q0, upd_n (by decide), o 9 (by decide) (by omega) (by omega), h4]
  · rw [q0, upd_n (by decide), o 12 (by decide) (by omega) (by omega), h5]
  · rw [q0, upd_n (by decide), o 13 (by decide) (by omega) (by omega), h6]
  · rw [q0, upd_n (by decide), o 14 (by decide) (by omega) (by omega), h7]
  · rw [q 1 (by decide) (by omega) (by omega), o (2 + j) (by omega) (by omega) (by omega), h8 j hj]
  · rw [hN] at hj
    by_cases e : j = n
    · subst e
      obtain ⟨z3, z4, z5, z6⟩ := hz j (Nat.le_refl _) hn
      have eg : adS S j l wt (2 + j) = gBegin l wt := sGu_g
      have et : adS S j l wt (14 + j) = upd (S (14 + j)) 0 0 := sGu_t
      have ec : stC (adS S j l wt) j = 1 := by
        unfold stC
        rw [eg]
        rfl
      have ov : ∀ f, 3 ≤ f → f ≤ 6 → vG (addV V j l wt) j f = vG V j f := fun f h3 h6 => by
        unfold vG addV
        rw [if_neg (by omega), if_neg (by omega), if_neg (by omega), if_neg (by omega), if_neg (by omega), if_neg (by omega)]
      have v0 : vG (addV V j l wt) j 0 = l := by
        unfold vG addV
        rw [if_neg (by omega), if_pos (by omega)]
      have v1 : vG (addV V j l wt) j 1 = wt := by
        unfold vG addV
        rw [if_neg (by omega), if_neg (by omega), if_pos (by omega)]
      have v2 : vG (addV V j l wt) j 2 = 1 := by
        unfold vG addV
        rw [if_neg (by omega), if_neg (by omega), if_neg (by omega), if_pos (by omega)]
      have v7 : vG (addV V j l wt) j 7 = -5 := by
        unfold vG addV
        rw [if_neg (by omega), if_neg (by omega), if_neg (by omega), if_neg (by omega), if_pos (by omega)]
      refine ⟨⟨?_, ?_, ?_, ?_, ?_, ?_, ?_, ?_⟩, ⟨?_, ?_⟩, fun x hx => ?_⟩
      · rw [eg, v0]; rfl
      · rw [eg, v1]; rfl
      · rw [eg, v2]; rfl
      · rw [eg, ov 3 (by decide) (by decide), z3]; rfl
      · rw [eg, ov 5 (by decide) (by decide), z5]; rfl
      · rw [eg, ov 6 (by decide) (by decide), z6]; rfl
      · rw [eg, v7]; rfl
      · rw [eg, ov 4 (by decide) (by decide), z4]; rfl
      · rw [ec, eg]; rfl
      · rw [ec]; decide
      · have hv : vMet (addV V j l wt) j x = true := by
          have hx32 : x / 32 < 128 := Nat.div_lt_of_lt_mul (by omega)
          have e1 : addV V j l wt (111 + 128 * j + x / 32) = -1 := by
            unfold addV
            rw [if_neg (by omega), if_neg (by omega), if_neg (by omega), if_neg (by omega), if_neg (by omega), if_pos (by omega)]
          unfold vMet
          rw [e1]
          exact decide_eq_true (all_ones _ (Nat.mod_lt _ (by decide)))
        rw [hv]
        unfold sMet
        rw [ec, et]
        have e1 : gcRun (upd (S (14 + j)) 0 0) x 1 = (0, 1) := by
          show gcStep (upd (S (14 + j)) 0 0 0) x (0, 1) = _
          have ha : atomMet 0 x = true := decide_eq_true (nI_le (a := 0) (by omega) (by have := pop_le (x &&& low 0); omega))
          rw [upd_s]
          unfold gcStep
          rw [if_neg (by decide), if_neg (by decide), if_neg (by decide), if_pos ha]
        unfold gcMet
        rw [e1]
        rfl
    · refine (h9 j (by omega)).of (fun i _ => ?_) (fun i _ => ?_) (fun f hf => ?_) (fun x hx => ?_)
      · rw [q _ (by omega) (by omega) (by omega)]
      · rw [q _ (by omega) (by omega) (by omega)]
      · exact o _ (by omega) (by omega) (by omega)
      · unfold vMet
        have : x / 32 < 128 := Nat.div_lt_of_lt_mul (by omega)
        rw [o _ (by omega) (by omega) (by omega)]
end EN
