/-! A MACHINE OF OUR OWN over the kit's rows: a heap as a map from addresses to cells, one judgement hJ for a place in a method, one meaning x_.. for an instruction, the walk hGo, contracts hCT. -/
abbrev hAH : Type := Nat × (Nat → Option va_E)
abbrev hLs : Type := List (Option Value)
abbrev hStk : Type := List Value
abbrev hCu : Type := Nat × Nat
/-- launch, classes, array classes, where the new cells begin, where the static arrays lie, the arrays that nobody writes -/
abbrev hK : Type := Launch × va_G × (Nat → ClassId) × Nat × (Nat → Nat) × (Nat → Option (Nat × (Nat → Int32)))
/-- name, bytes, locals, return type, frames beneath, words of locals beneath -/
abbrev hM : Type := MethodName × ByteArray × Nat × Option FieldType × Nat × Nat
abbrev hPost : Type := Option Value → hAH → Prop
abbrev hSem : Type := (Nat → hCu → hLs → hStk → hAH → Prop) → hCu → hLs → hStk → hAH → Prop
def hGetL : hLs → Nat → Option Value
  | [], _ => none
  | x :: _, 0 => x
  | _ :: t, n + 1 => hGetL t n
def hSetL : hLs → Nat → Value → hLs
  | [], _, _ => []
  | _ :: t, 0, v => some v :: t
  | x :: t, n + 1, v => x :: hSetL t n v
def hGetV : List Value → Nat → Option Value
  | [], _ => none
  | x :: _, 0 => some x
  | _ :: t, n + 1 => hGetV t n
def hSetV : List Value → Nat → Value → List Value
  | [], _, _ => []
  | _ :: t, 0, v => v :: t
  | x :: t, n + 1, v => x :: hSetV t n v
def hNones : Nat → hLs
  | 0 => []
  | n + 1 => none :: hNones n
def hEnt : List Value → Nat → hLs
  | [], n => hNones n
  | v :: t, n + 1 => some v :: hEnt t n
  | _ :: _, 0 => []
def hMem : Nat → List Nat → Bool
  | _, [] => false
  | n, a :: l => match Nat.beq n a with
    | true => true
    | false => hMem n l
def hPop : Nat → hStk → List Value → Option (List Value × hStk)
  | 0, st, acc => some (acc, st)
  | _ + 1, [], _ => none
  | n + 1, v :: st, acc => hPop n st (v :: acc)
def hApp : Option Value → hStk → hStk
  | none, st => st
  | some v, st => v :: st
def hLe4 : hStk → Bool
  | [] => true
  | [_] => true
  | [_, _] => true
  | [_, _, _] => true
  | [_, _, _, _] => true
  | [.int _, .int _, .int _, .int _, .ref _] => true
  | _ => false
def hAtS : List hSem → Nat → hSem
  | [], _ => fun _ _ _ _ _ => False
  | x :: _, 0 => x
  | _ :: t, n + 1 => hAtS t n
def hUpd (H : hAH) (a : Nat) (c : va_E) (H' : hAH) : Prop := H'.1 = H.1 ∧ H'.2 a = some c ∧ ∀ q, q ≠ a → H'.2 q = H.2 q
def hNew (H : hAH) (c : va_E) (H' : hAH) : Prop := H'.1 = H.1 + 1 ∧ H'.2 H.1 = some c ∧ ∀ q, q ≠ H.1 → H'.2 q = H.2 q
abbrev hInts (K : hK) (t n : Nat) (f : Nat → Int32) : va_E := .inl (K.2.2.1 t, n, .inl f)
abbrev hRefs (K : hK) (t n : Nat) (f : Nat → Option Nat) : va_E := .inl (K.2.2.1 t, n, .inr (.inr (.inr (.inr f))))
abbrev hObj (ci : Nat) (fs : List Value) : va_E := .inr (ci, fs)
def hA (K : hK) : Nat → Prop := fun q => K.2.2.2.1 ≤ q
def hTyOf : Nat → FieldType
  | 0 => .int
  | 1 => .char
  | 2 => .int
  | 3 => .object RX0
  | _ => .object RX4
def hTys (K : hK) : List (ClassId × FieldType) := [(K.2.2.1 0, .int), (K.2.2.1 1, .char), (K.2.2.1 2, .int), (K.2.2.1 3, .object RX0), (K.2.2.1 4, .object RX4)]
def hIsNest : Cond → Bool
  | .fieldLinkNest .. => true
  | .methodLinkNest .. => true
  | _ => false
def hStn : Nat → String
  | 0 => "FIRST_SETTINGS"
  | 1 => "LEAST_SETTINGS"
  | _ => "MOST_SETTINGS"
def hTb : List Cond := lw_tbl.filter goodWord
theorem hTb_in {w : Cond} (h : w ∈ lw_tbl) (hg : goodWord w = true) : w ∈ hTb := List.mem_filter.mpr ⟨h, hg⟩
theorem hTb_t {w : Cond} (h : w ∈ tables_1) (hg : goodWord w = true) : w ∈ hTb := hTb_in (List.mem_append_right _ h) hg
theorem hTb_s {w : Cond} (h : w ∈ k2_sels lw_privs) (hg : goodWord w = true) : w ∈ hTb := hTb_in (List.mem_append_left _ h) hg
theorem hTb_sub : ∀ w ∈ hTb, w ∈ lw_tbl := fun _ h => (List.mem_filter.mp h).1
theorem hTb_good {ws : List Cond} (h : ∀ w ∈ ws, w ∈ hTb) : GoodIn hTb ws := fun w hw => ⟨h w hw, good_of_word (List.mem_filter.mp (h w hw)).2⟩
def hWs (M : hM) : List Cond := .code M.1 M.2.1 M.2.2.1 M.2.2.2.1 :: hTb
/-- what the tables say, and go on saying -/
def hStat (K : hK) (U : State) : Prop := va_K K.2.1 vwCl (hTys K) U ∧ (∀ w ∈ tables_1, hIsNest w = true → va_Nw w U) ∧ va_AO RX0 U ∧ va_AO RX4 U
def hRo (K : hK) (U : State) (Hr : Heap) : Prop := (∀ t n f, K.2.2.2.2.2 t = some (n, f) → va_T .int t n (fun j => .int (f j)) (hA K) U Hr) ∧ ∀ i, i < 3 → va_Z RX5 (hStn i) "[I" (.ref (K.2.2.2.2.1 i)) (hA K) U Hr
def hHp (K : hK) (H : hAH) (Hr : Heap) : Prop := Hr.size = H.1 ∧ K.2.2.2.1 ≤ H.1 ∧ ∀ a c, H.2 a = some c → hA K a ∧ va_at K.2.1 vwCl (a, c) Hr
def hPre (K : hK) (H : hAH) (U : State) : Prop := hHp K H U.heap ∧ hStat K U ∧ hRo K U U.heap
def hLv (n : Nat) (f : hLs) (arr : Array Slot) : Prop := arr.size = n ∧ lv_wf arr ∧ ∀ i v, hGetL f i = some v → arr[i]? = some (.val v) ∧ v.category = 1
/-- a return instruction with what stands on the stack -/
def hRetI (M : hM) (r : Option Value) (ins : Instr) (st : hStk) : Prop :=
  (r = none ∧ ins = .return_ ∧ st = [] ∧ M.2.2.2.1 = none) ∨ (∃ v ty, r = some (.int v) ∧ ins = .ireturn ∧ st = [.int v] ∧ M.2.2.2.1 = some ty ∧ narrow ty (.int v) = .int v) ∨
  (∃ v cn, r = some v ∧ ins = .areturn ∧ st = [v] ∧ M.2.2.2.1 = some (.object cn) ∧ (v = .null ∨ ∃ a, v = .ref a))
def hCtx (K : hK) (M : hM) (B : Nat × Nat) (Q : hPost) (p : Program) (e : Env) (R : Room) (s : State) (m : MethodId) (args : Array Value) (below : List Frame) (meth : Method) (c : Code) (QF : State → Prop) : Prop :=
  p.tables.exec = Jvm.exec ∧ c.code = M.2.1 ∧ c.maxLocals = M.2.2.1 ∧ s.vm.findClass M.1.cls = some m.cls ∧ (∀ w ∈ hTb, w.before args s = true) ∧ (M.1.name = "<init>" → meth.name = "<init>") ∧ hStat K s ∧ hRo K s s.heap ∧ K.2.2.2.1 ≤ s.heap.size ∧ (M.2.2.2.2.1 ≤ R.frames ∧ M.2.2.2.2.2 ≤ R.locals ∧ B.1 ≤ R.cells ∧ B.2 ≤ R.slots) ∧
  ∀ (r : Option Value) (H : hAH) (cu : hCu) (Hr : Heap) (locs : List Loc) (lsr : Array Slot) (pc : Nat) (ins : Instr) (st : hStk), hRetI M r ins st → decode c.code pc = .ok (ins, 1) → hHp K H Hr → va_S (hA K) s.heap Hr locs → Q r H → cu.1 ≤ B.1 → cu.2 ≤ B.2 → W p K.1 e R s m args below meth c Hr locs cu.1 cu.2 QF (F0 m pc lsr st)
/-- at this place, with these locals, this stack, this heap: the method comes to its end with Q -/
def hJ (K : hK) (M : hM) (B : Nat × Nat) (Q : hPost) (pc : Nat) (cu : hCu) (ls : hLs) (st : hStk) (H : hAH) : Prop :=
  (∀ (p : Program) (e : Env) (R : Room) (s : State) (m : MethodId) (args : Array Value) (below : List Frame) (meth : Method) (c : Code) (QF : State → Prop), hCtx K M B Q p e R s m args below meth c QF → ∀ (Hr : Heap) (locs : List Loc) (lsr : Array Slot), hHp K H Hr → va_S (hA K) s.heap Hr locs → hLv M.2.2.1 ls lsr → cu.1 ≤ B.1 → cu.2 ≤ B.2 → W p K.1 e R s m args below meth c Hr locs cu.1 cu.2 QF (F0 m pc lsr st)) ∨ False
theorem hJ.use {K : hK} {M : hM} {B : Nat × Nat} {Q : hPost} {pc : Nat} {cu : hCu} {ls : hLs} {st : hStk} {H : hAH} (h : hJ K M B Q pc cu ls st H) {p : Program} {e : Env} {R : Room} {s : State} {m : MethodId} {args : Array Value} {below : List Frame} {meth : Method} {c : Code} {QF : State → Prop} (C : hCtx K M B Q p e R s m args below meth c QF) {Hr : Heap} {locs : List Loc} {lsr : Array Slot} (h1 : hHp K H Hr) (h2 : va_S (hA K) s.heap Hr locs) (h3 : hLv M.2.2.1 ls lsr) (h4 : cu.1 ≤ B.1) (h5 : cu.2 ≤ B.2) : W p K.1 e R s m args below meth c Hr locs cu.1 cu.2 QF (F0 m pc lsr st) :=
  h.elim (fun h => h p e R s m args below meth c QF C Hr locs lsr h1 h2 h3 h4 h5) False.elim
def hOk (J : Nat → hCu → hLs → hStk → hAH → Prop) (pc : Nat) (x : hSem) : Prop := ∀ k : Nat → hCu → hLs → hStk → hAH → Prop, (∀ pc' cu ls st H, k pc' cu ls st H → J pc' cu ls st H) → ∀ cu ls st H, x k cu ls st H → J pc cu ls st H
def hAllOk (J : Nat → hCu → hLs → hStk → hAH → Prop) : Nat → List hSem → Prop
  | _, [] => True
  | pc, x :: t => hOk J pc x ∧ hAllOk J (pc + 1) t
def hGo (code : List hSem) (stops : List Nat) (Jn : Nat → hCu → hLs → hStk → hAH → Prop) : Nat → Nat → hCu → hLs → hStk → hAH → Prop
  | 0 => Jn
  | n + 1 => fun pc cu ls st H => hAtS code pc (fun pc' cu' ls' st' H' => match hMem pc' stops with
    | true => Jn pc' cu' ls' st' H'
    | false => hGo code stops Jn n pc' cu' ls' st' H') cu ls st H
def x_no : hSem := fun _ _ _ _ _ => False
theorem ok_no {J : Nat → hCu → hLs → hStk → hAH → Prop} {pc : Nat} : hOk J pc x_no := fun _ _ _ _ _ _ h => False.elim h
theorem hAllOk_at {J : Nat → hCu → hLs → hStk → hAH → Prop} : ∀ (code : List hSem) (b : Nat), hAllOk J b code → ∀ i, hOk J (b + i) (hAtS code i)
  | [], _, _, _ => fun _ _ _ _ _ _ h => False.elim h
  | x :: t, b, h, 0 => h.1
  | x :: t, b, h, i + 1 => by
    have := hAllOk_at t (b + 1) h.2 i
    rw [show b + (i + 1) = b + 1 + i by omega]
    exact this
theorem hGo_sound {J : Nat → hCu → hLs → hStk → hAH → Prop} {code : List hSem} (h : hAllOk J 0 code) (stops : List Nat) : ∀ (n pc : Nat) (cu : hCu) (ls : hLs) (st : hStk) (H : hAH), hGo code stops J n pc cu ls st H → J pc cu ls st H
  | 0, _, _, _, _, _, hg => hg
  | n + 1, pc, cu, ls, st, H, hg => by
    have h1 := hAllOk_at code 0 h pc
    rw [Nat.zero_add] at h1
    refine h1 _ (fun pc' cu' ls' st' H' hk => ?_) cu ls st H hg
    cases hm : hMem pc' stops with
    | true => rw [hm] at hk; exact hk
    | false => rw [hm] at hk; exact hGo_sound h stops n pc' cu' ls' st' H' hk
/-! locals -/
theorem hSetL_get : ∀ (f : hLs) (i : Nat) (v : Value) (j : Nat) (w : Value), hGetL (hSetL f i v) j = some w → (j = i ∧ w = v) ∨ (j ≠ i ∧ hGetL f j = some w)
  | [], _, _, _, _, h => by simp [hSetL, hGetL] at h
  | x :: t, 0, v, 0, w, h => by simp [hSetL, hGetL] at h; exact Or.inl ⟨rfl, h.symm⟩
  | x :: t, 0, v, j + 1, w, h => by simp [hSetL, hGetL] at h; exact Or.inr ⟨by omega, h⟩
  | x :: t, i + 1, v, 0, w, h => by simp [hSetL, hGetL] at h; exact Or.inr ⟨by omega, h⟩
  | x :: t, i + 1, v, j + 1, w, h => by
    simp only [hSetL, hGetL] at h
    rcases hSetL_get t i v j w h with ⟨a, b⟩ | ⟨a, b⟩
    · exact Or.inl ⟨by omega, b⟩
    · exact Or.inr ⟨by omega, b⟩
/-- the kit's list of locals, out of ours -/
def hPairs : hLs → Nat → List (Nat × Value)
  | [], _ => []
  | none :: t, b => hPairs t (b + 1)
  | some v :: t, b => (b, v) :: hPairs t (b + 1)
theorem hPairs_mem : ∀ (f : hLs) (b : Nat) (q : Nat × Value), q ∈ hPairs f b ↔ b ≤ q.1 ∧ hGetL f (q.1 - b) = some q.2
  | [], b, q => by simp [hPairs, hGetL]
  | none :: t, b, q => by
    rw [hPairs, hPairs_mem t (b + 1) q]
    constructor
    · rintro ⟨h1, h2⟩
      refine ⟨by omega, ?_⟩
      rw [show q.1 - b = (q.1 - (b + 1)) + 1 by omega]
      exact h2
    · rintro ⟨h1, h2⟩
      by_cases e : q.1 = b
      · rw [e, Nat.sub_self] at h2
        simp [hGetL] at h2
      · refine ⟨by omega, ?_⟩
        rw [show q.1 - b = (q.1 - (b + 1)) + 1 by omega] at h2
        exact h2
  | some v :: t, b, q => by
    rw [hPairs, List.mem_cons, hPairs_mem t (b + 1) q]
    constructor
    · rintro (rfl | ⟨h1, h2⟩)
      · exact ⟨Nat.le_refl _, by rw [Nat.sub_self]; rfl⟩
      · refine ⟨by omega, ?_⟩
        rw [show q.1 - b = (q.1 - (b + 1)) + 1 by omega]
        exact h2
    · rintro ⟨h1, h2⟩
      by_cases e : q.1 = b
      · rw [e, Nat.sub_self] at h2
        simp [hGetL] at h2
        exact Or.inl (Prod.ext e h2.symm)
      · refine Or.inr ⟨by omega, ?_⟩
        rw [show q.1 - b = (q.1 - (b + 1)) + 1 by omega] at h2
        exact h2
theorem hLv.has {n : Nat} {f : hLs} {arr : Array Slot} (h : hLv n f arr) : lv_has arr n (hPairs f 0) := ⟨h.1, h.2.1, fun q hq => (h.2.2 q.1 q.2 (by simpa using ((hPairs_mem f 0 q).mp hq).2)).1⟩
theorem hLv.set {n : Nat} {f : hLs} {arr arr' : Array Slot} {i : Nat} {v : Value} (h : hLv n f arr) (hc : v.category = 1) (h' : lv_has arr' n ((i, v) :: (hPairs f 0).filter (fun q => !(q.1 == i) && !(q.1 + 1 == i && q.2.category == 2)))) : hLv n (hSetL f i v) arr' := by
  refine ⟨h'.1, h'.2.1, fun j w hj => ?_⟩
  rcases hSetL_get f i v j w hj with ⟨rfl, rfl⟩ | ⟨hne, hg⟩
  · exact ⟨h'.2.2 _ List.mem_cons_self, hc⟩
  · have h1 := h.2.2 j w hg
    refine ⟨h'.2.2 (j, w) (List.mem_cons_of_mem _ (List.mem_filter.mpr ⟨(hPairs_mem f 0 (j, w)).mpr ⟨Nat.zero_le _, by simpa using hg⟩, ?_⟩)), h1.2⟩
    simp [hne, h1.2]
theorem hGetV_get : ∀ (fs : List Value) (k : Nat), fs[k]? = hGetV fs k
  | [], _ => by simp [hGetV]
  | x :: t, 0 => by simp [hGetV]
  | x :: t, k + 1 => by simp [hGetV, hGetV_get t k]
theorem hSetV_set : ∀ (fs : List Value) (k : Nat) (v : Value), fs.set k v = hSetV fs k v
  | [], _, _ => by simp [hSetV]
  | x :: t, 0, v => by simp [hSetV]
  | x :: t, k + 1, v => by simp [hSetV, hSetV_set t k v]
theorem hNones_get : ∀ (n i : Nat) (v : Value), hGetL (hNones n) i ≠ some v
  | 0, _, _ => by simp [hNones, hGetL]
  | n + 1, 0, _ => by simp [hNones, hGetL]
  | n + 1, i + 1, v => by simpa [hNones, hGetL] using hNones_get n i v
theorem hEnt_get : ∀ (av : List Value) (n b i : Nat) (v : Value), (∀ w ∈ av, w.category = 1) → hGetL (hEnt av n) i = some v → (b + i, v) ∈ lv_args b av ∧ v.category = 1
  | [], n, b, i, v, _, h => absurd h (hNones_get n i v)
  | x :: t, 0, b, i, v, _, h => by simp [hEnt, hGetL] at h
  | x :: t, n + 1, b, 0, v, hc, h => by
    simp [hEnt, hGetL] at h
    subst h
    have h1 := hc x List.mem_cons_self
    exact ⟨by simp [lv_args], h1⟩
  | x :: t, n + 1, b, i + 1, v, hc, h => by
    simp only [hEnt, hGetL] at h
    have h1 := hc x List.mem_cons_self
    obtain ⟨h2, h3⟩ := hEnt_get t n (b + 1) i v (fun w hw => hc w (List.mem_cons_of_mem _ hw)) h
    refine ⟨?_, h3⟩
    simp only [lv_args, h1]
    rw [show b + (i + 1) = b + 1 + i by omega]
    simpa using Or.inr h2
