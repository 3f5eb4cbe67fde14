/-! THE PARTY IN NUMBERS: the row V of 1647 numbers (the reference's order), the history, the snapshot, the text; what each call answers and what it makes of them -/
abbrev hY : Type := (Nat → Int32) × Nat × (Nat → Nat → Int32) × Int32 × (Nat → Int32) × Nat × (Nat → Nat)
def vN (V : Nat → Int32) : Nat := (V 0).toNatClampNeg
def vG (V : Nat → Int32) (k f : Nat) : Int32 := V (15 + 8 * k + f)
def vMet (V : Nat → Int32) (k x : Nat) : Bool := decide ((V (111 + 128 * k + x / 32) >>> (nI (x % 32) &&& 31)) &&& 1 = 1)
def vLet (V : Nat → Int32) (k : Nat) : Nat := (vG V k 4).toNatClampNeg
def WF (V : Nat → Int32) : Prop :=
  (V 0 = nI (vN V) ∧ vN V ≤ 12) ∧ (∃ d, d ≤ 999 ∧ V 1 = nI d) ∧ ((∃ d, d ≤ 99999 ∧ V 2 = nI d) ∧ (∃ d, d ≤ 9999 ∧ V 3 = nI d) ∧ (∃ d, 1 ≤ d ∧ d ≤ 12 ∧ V 4 = nI d) ∧ (∃ d, d ≤ 999 ∧ V 5 = nI d) ∧ ∃ d, d ≤ 9999 ∧ V 6 = nI d) ∧
  ((V 7 = 0 ∨ V 7 = 1) ∧ ∃ y, y < 2 ^ vN V ∧ V 8 = nI y ∧ (V 7 = 0 → y = 0)) ∧
  (∀ k, k < vN V → (∃ d, d ≤ 99999 ∧ vG V k 0 = nI d) ∧ (∃ d, 1 ≤ d ∧ d ≤ 9 ∧ vG V k 1 = nI d) ∧ (vG V k 2 = 0 ∨ vG V k 2 = 1) ∧ (vG V k 4 = nI (vLet V k) ∧ vLet V k < 4096) ∧ (vG V k 7 = -5 ∨ (V 7 = 1 ∧ ∃ y, V 8 = nI y ∧ y < 4096 ∧ y.testBit k = true)) ∧ (∀ j, j < vN V → j ≠ k → vG V j 7 = vG V k 7 → vG V k 7 = -5) ∧ ∀ x y, x < 4096 → y < 4096 → subB x y = true → vMet V k x = true → vMet V k y = true) ∧
  (V 10 = sumI (fun k => vG V k 5) 12 ∧ V 11 = sumI (fun k => vG V k 6) 12) ∧
  ∀ k, vN V ≤ k → k < 12 → vG V k 3 = 0 ∧ vG V k 4 = 0 ∧ vG V k 5 = 0 ∧ vG V k 6 = 0
def YOk (Y : hY) : Prop := WF Y.1 ∧ Y.2.1 ≤ 4 ∧ (∀ i, i < Y.2.1 → WF (Y.2.2.1 i)) ∧ (Y.2.2.2.1 = 0 ∨ Y.2.2.2.1 = 1) ∧ (Y.2.2.2.1 = 1 → WF Y.2.2.2.2.1) ∧ Y.2.2.2.2.2.1 ≤ 60 ∧ ∀ j, j < Y.2.2.2.2.2.1 → Y.2.2.2.2.2.2 j < 65536
def yV (Y : hY) (V : Nat → Int32) : hY := (V, Y.2)
/-- one more state in the history -/
def recH (V : Nat → Int32) (z : Nat) (Hs : Nat → Nat → Int32) : Nat → Nat → Int32 := fun i => if z = 4 then (if i = 3 then V else Hs (i + 1)) else if i = z then V else Hs i
def yRec (Y : hY) : hY := (Y.1, if Y.2.1 = 4 then 4 else Y.2.1 + 1, recH Y.1 Y.2.1 Y.2.2.1, Y.2.2.2)
/-- an act that makes V of the row -/
def yAct (Y : hY) (V : Nat → Int32) : hY := yV (yRec Y) V
abbrev gOk (V : Nat → Int32) (w : Int32) : Prop := 0 ≤ w ∧ w ≤ V 0 - 1
abbrev sOk (V : Nat → Int32) (w : Int32) : Prop := 0 ≤ w ∧ w ≤ nI (2 ^ vN V - 1)
def clp (w : Int32) : Nat := w.toNatClampNeg
def addV (V : Nat → Int32) (n : Nat) (l w : Int32) : Nat → Int32 := fun i => if i = 0 then nI (n + 1) else if i = 15 + 8 * n then l else if i = 16 + 8 * n then w else if i = 17 + 8 * n then 1 else if i = 22 + 8 * n then -5 else if 111 + 128 * n ≤ i ∧ i < 239 + 128 * n then -1 else V i
def chgV (V : Nat → Int32) (k : Nat) : Nat → Int32 := if V 5 < V 1 then upd V (18 + 8 * k) (V (18 + 8 * k) + V 6) else V
/-- the bits of a condition -/
def bitsW (p : Nat → Bool) (q : Nat) : Int32 := nI (setOf (fun j => p (32 * q + j)) 32)
def cndV (V : Nat → Int32) (k L : Nat) (p : Nat → Bool) : Nat → Int32 := fun i => if i = 19 + 8 * k then nI L else if 111 + 128 * k ≤ i ∧ i < 239 + 128 * k then bitsW p (i - (111 + 128 * k)) else V i
def vInv (V : Nat → Int32) : Nat := setOf (fun k => decide (k < vN V) && !decide (vG V k 2 = 0)) 12
def vFee (V : Nat → Int32) (m : Int32) : Int32 := feeC (fun j => V (2 + j)) m
def vE (V : Nat → Int32) (I : Nat) (gen : Int32) : gE := (vN V, vMet V, fun k => if nI k = gen then 99999 else vG V k 0, fun X => vFee V (nI (pop X)), I, vLet V)
def vOkG (V : Nat → Int32) (x : Nat) (fe : Int32) (k : Nat) : Bool := !x.testBit k || (decide (k < vN V) && !decide (vG V k 2 = 0) && decide (fe ≤ vG V k 0) && vMet V k x)
def vStb (V : Nat → Int32) (x : Nat) : Bool := allB (vOkG V x (vFee V (nI (pop x)))) 12
def vWs (V : Nat → Int32) (x : Nat) : Int32 := sumI (fun k => if k < vN V ∧ x.testBit k = true then vG V k 1 else 0) 12
def vBet (V : Nat → Int32) (x z : Nat) : Bool := decide (pop z < pop x) || (decide (pop z = pop x) && decide (vWs V z < vWs V x))
def vBp (V : Nat → Int32) (x z : Nat) : Bool := decide (nI (pop x) ≤ V 4) && vBet V x z && vStb V x
def vGr (V : Nat → Int32) : Nat := egr (vE V (vInv V) (-1))
def vCh (V : Nat → Int32) : Nat := if nI (pop (vGr V)) ≤ V 4 then vGr V else bpRun (vBp V) (2 ^ vN V - 1)
/-- the smallest of the sets 1 .. j that satisfy p -/
def smO (p : Nat → Bool) : Nat → Option Nat
  | 0 => none
  | j + 1 => if p (j + 1) && (match smO p j with
    | none => true
    | some b => decide (pop (j + 1) < pop b)) then some (j + 1) else smO p j
def oI : Option Nat → Int32
  | none => -5
  | some b => nI b
/-- the fewest of the sets below j that satisfy p -/
def ndO (p : Nat → Bool) : Nat → Option Nat
  | 0 => none
  | j + 1 => if p j && (match ndO p j with
    | none => true
    | some b => decide (pop j < b)) then some (pop j) else ndO p j
def fxvP (V : Nat → Int32) (x k : Nat) : Int32 := if inX (vN V) x k = true then vFee V (nI (pop x)) + vG V k 3 else 0
def fxV (V : Nat → Int32) (x : Nat) : Nat → Int32 := fun i => if i = 7 then 1 else if i = 8 then nI x else if i = 9 then vFee V (nI (pop x)) else if i = 10 then V 10 + sumI (fxvP V x) 12 else if i = 12 then V 12 + 1
  else if 15 ≤ i ∧ i < 111 ∧ inX (vN V) x ((i - 15) / 8) = true then (if (i - 15) % 8 = 3 then 0 else if (i - 15) % 8 = 5 then V i + (vFee V (nI (pop x)) + V (i - 2)) else if (i - 15) % 8 = 7 then nI (cnt (inX (vN V) x) ((i - 15) / 8)) else V i) else V i
/-- those of x leave; each gets v back -/
def lgV (V : Nat → Int32) (y x : Nat) (v : Int32) : Nat → Int32 := fun i => if i = 8 then nI (dif y x) else if i = 11 then V 11 + v * nI (pop x) else if 15 ≤ i ∧ i < 111 ∧ inX (vN V) x ((i - 15) / 8) = true then (if (i - 15) % 8 = 6 then V i + v else if (i - 15) % 8 = 7 then -5 else V i) else V i
abbrev lvQ : Type := (Nat → Int32) × Nat
def lvDis (q : lvQ) : Nat := setOf (fun k => decide (k < vN q.1) && (q.2.testBit k && !vMet q.1 k q.2)) 12
def lvN (q : lvQ) : lvQ := (upd (lgV q.1 q.2 (lvDis q) (q.1 9 / 2)) 14 (q.1 14 + nI (pop (lvDis q))), dif q.2 (lvDis q))
def lv0 (V : Nat → Int32) (y g : Nat) : lvQ := (upd (lgV V y (2 ^ g) 0) 13 (V 13 + 1), dif y (2 ^ g))
def lvR (q : lvQ) : Nat → lvQ
  | 0 => q
  | j + 1 => if lvDis (lvR q j) = 0 then lvR q j else lvN (lvR q j)
def dsV (V : Nat → Int32) : Nat → Int32 := fun i => if i = 7 then 0 else if i = 8 then 0 else if 15 ≤ i ∧ i < 111 ∧ (i - 15) / 8 < vN V ∧ (i - 15) % 8 = 7 then -5 else V i
abbrev Ans : Type := Int32 × hY
def sp_addGuest (Y : hY) (l w : Int32) : Ans := if ¬ (0 ≤ l ∧ l ≤ 99999) ∨ ¬ (1 ≤ w ∧ w ≤ 9) then (-2, Y) else if Y.1 7 = 1 then (-4, Y) else if vN Y.1 = 12 then (-3, Y) else (nI (vN Y.1), yAct Y (addV Y.1 (vN Y.1) l w))
def sp_setLimit (Y : hY) (g l : Int32) : Ans := if ¬ gOk Y.1 g then (-1, Y) else if ¬ (0 ≤ l ∧ l ≤ 99999) then (-2, Y) else if Y.1 7 = 1 then (-4, Y) else if vG Y.1 (clp g) 0 = l then (-5, Y) else (vG Y.1 (clp g) 0, yAct Y (chgV (upd Y.1 (15 + 8 * clp g) l) (clp g)))
def sp_setWeight (Y : hY) (g w : Int32) : Ans := if ¬ gOk Y.1 g then (-1, Y) else if ¬ (1 ≤ w ∧ w ≤ 9) then (-2, Y) else if Y.1 7 = 1 then (-4, Y) else if vG Y.1 (clp g) 1 = w then (-5, Y) else (vG Y.1 (clp g) 1, yAct Y (upd Y.1 (16 + 8 * clp g) w))
def sp_invite (Y : hY) (g is : Int32) : Ans := if ¬ gOk Y.1 g then (-1, Y) else if Y.1 7 = 1 then (-4, Y) else if vG Y.1 (clp g) 2 = is then (-5, Y) else (nI (pop (vInv (chgV (upd Y.1 (17 + 8 * clp g) is) (clp g)))), yAct Y (chgV (upd Y.1 (17 + 8 * clp g) is) (clp g)))
def setLo (k : Nat) : Int32 := if k = 2 then 1 else 0
def setHi (k : Nat) : Int32 := if k = 0 then 99999 else if k = 1 then 9999 else if k = 2 then 12 else if k = 3 then 999 else 9999
def sp_set (Y : hY) (w x : Int32) : Ans := if ¬ (0 ≤ w ∧ w ≤ 4) then (-2, Y) else if ¬ (setLo (clp w) ≤ x ∧ x ≤ setHi (clp w)) then (-2, Y) else if Y.1 7 = 1 then (-4, Y) else if Y.1 (2 + clp w) = x then (-5, Y) else (Y.1 (2 + clp w), yAct Y (upd Y.1 (2 + clp w) x))
def sp_pass (Y : hY) (d : Int32) : Ans := if ¬ (1 ≤ d ∧ d ≤ 60) then (-2, Y) else if 999 < Y.1 1 + d then (-4, Y) else (Y.1 1 + d, yAct Y (upd Y.1 1 (Y.1 1 + d)))
def sp_fix (Y : hY) : Ans := if Y.1 7 = 1 then (-4, Y) else if vCh Y.1 = 0 then (-5, Y) else (sumI (fxvP Y.1 (vCh Y.1)) 12, yAct Y (fxV Y.1 (vCh Y.1)))
def sp_cancel (Y : hY) (g : Int32) : Ans := if ¬ gOk Y.1 g then (-1, Y) else if ¬ Y.1 7 = 1 ∨ (clp (Y.1 8)).testBit (clp g) = false then (-4, Y) else (nI (pop (clp (Y.1 8))) - nI (pop (lvR (lv0 Y.1 (clp (Y.1 8)) (clp g)) 12).2), yAct Y (lvR (lv0 Y.1 (clp (Y.1 8)) (clp g)) 12).1)
def sp_dissolve (Y : hY) : Ans := if ¬ Y.1 7 = 1 then (-4, Y) else (nI (pop (clp (Y.1 8))), yAct Y (dsV Y.1))
def sp_type (Y : hY) (c : Nat) : Ans := if Y.2.2.2.2.2.1 = 60 then (-3, Y) else (nI (Y.2.2.2.2.2.1 + 1), (Y.1, Y.2.1, Y.2.2.1, Y.2.2.2.1, Y.2.2.2.2.1, Y.2.2.2.2.2.1 + 1, up Y.2.2.2.2.2.2 Y.2.2.2.2.2.1 c))
def sp_clearText (Y : hY) : Ans := (nI Y.2.2.2.2.2.1, (Y.1, Y.2.1, Y.2.2.1, Y.2.2.2.1, Y.2.2.2.2.1, 0, Y.2.2.2.2.2.2))
def sp_undo (Y : hY) : Ans := if Y.2.1 = 0 then (-5, Y) else (nI (Y.2.1 - 1), (Y.2.2.1 (Y.2.1 - 1), Y.2.1 - 1, Y.2.2))
def sp_keep (Y : hY) : Ans := (Y.1 0, (Y.1, Y.2.1, Y.2.2.1, 1, Y.1, Y.2.2.2.2.2))
def sp_restore (Y : hY) : Ans := if Y.2.2.2.1 = 0 then (-5, Y) else (Y.2.2.2.2.1 0, yAct Y Y.2.2.2.2.1)
def sp_guest (Y : hY) (g w : Int32) : Int32 := if ¬ gOk Y.1 g then -1 else if 0 ≤ w ∧ w ≤ 7 then vG Y.1 (clp g) (clp w) else -2
def sp_met (Y : hY) (g x : Int32) : Int32 := if ¬ gOk Y.1 g then -1 else if ¬ sOk Y.1 x then -2 else b2i (vMet Y.1 (clp g) (clp x))
def sp_stable (Y : hY) (x : Int32) : Int32 := if ¬ sOk Y.1 x then -2 else b2i (vStb Y.1 (clp x))
def sp_fee (Y : hY) (m : Int32) : Int32 := if 1 ≤ m ∧ m ≤ 12 then vFee Y.1 m else -2
def sp_company (Y : hY) (w : Int32) : Int32 := if w = 0 then nI (vGr Y.1) else if w = 1 then nI (vCh Y.1) else if w = 2 then oI (smO (vStb Y.1) (2 ^ vN Y.1 - 1)) else if w = 3 then (if Y.1 7 = 1 then Y.1 8 else -5) else -2
def sp_companies (Y : hY) : Int32 := nI (cnt (vStb Y.1) (2 ^ vN Y.1))
def sp_why (Y : hY) (g w : Int32) : Int32 := if ¬ gOk Y.1 g then -1 else if ¬ (0 ≤ w ∧ w ≤ 4) then -2 else
  if w = 0 then err (vE Y.1 (vInv Y.1) (-1)) (clp g) else if err (vE Y.1 (vInv Y.1) (-1)) (clp g) = 0 then -5 else if w = 1 then nI (ett (vE Y.1 (vInv Y.1) (-1)) (clp g)) else if w = 2 then ebb (vE Y.1 (vInv Y.1) (-1)) (clp g) else if w = 3 then nI (ewl (vE Y.1 (vInv Y.1) (-1)) (ett (vE Y.1 (vInv Y.1) (-1)) (clp g)) (clp g)).1 else nI (ewl (vE Y.1 (vInv Y.1) (-1)) (ett (vE Y.1 (vInv Y.1) (-1)) (clp g)) (clp g)).2
def sp_rounds (Y : hY) : Int32 := nI (eL (vE Y.1 (vInv Y.1) (-1)) + 1)
def sp_needs (Y : hY) (g : Int32) : Int32 := if ¬ gOk Y.1 g then -1 else oI (ndO (vMet Y.1 (clp g)) (2 ^ vN Y.1))
def sp_weightOf (Y : hY) (g : Int32) : Int32 := if ¬ gOk Y.1 g then -1 else if vG Y.1 (clp g) 2 = 0 then -5 else nI (pop (vGr Y.1)) - nI (pop (egr (vE Y.1 (dif (vInv Y.1) (2 ^ clp g)) (-1))))
def sp_leastLimit (Y : hY) (g : Int32) : Int32 := if ¬ gOk Y.1 g then -1 else if (egr (vE Y.1 (vInv Y.1) g)).testBit (clp g) = true then vFee Y.1 (nI (pop (egr (vE Y.1 (vInv Y.1) g)))) else -5
def sp_seat (Y : hY) (s : Int32) : Int32 := if ¬ (0 ≤ s ∧ s ≤ 11) then -1 else lowest (fun k => decide (k < vN Y.1) && decide (vG Y.1 k 7 = s)) 12 0
def sp_count (Y : hY) (w : Int32) : Int32 := if w = 0 then Y.1 1 else if w = 1 then Y.1 0 else if w = 2 then nI (pop (vInv Y.1)) else if w = 3 then Y.1 2 else if w = 4 then Y.1 3 else if w = 5 then Y.1 4 else if w = 6 then Y.1 5 else if w = 7 then Y.1 6 else if w = 8 then Y.1 7 else if w = 9 then Y.1 10 else if w = 10 then Y.1 11 else if w = 11 then Y.1 12 else if w = 12 then Y.1 13 else if w = 13 then Y.1 14 else if w = 14 then sumI (fun k => if k < vN Y.1 then vG Y.1 k 3 else 0) 12 else if w = 15 then nI Y.2.1 else if w = 16 then nI Y.2.2.2.2.2.1 else -2
