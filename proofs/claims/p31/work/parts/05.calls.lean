/-! allocation, contracts, calls -/
theorem va_S.new {A : Nat → Prop} {H0 H H1 : Heap} {locs : List Loc} (h : va_S A H0 H locs) (z : H1.size = H.size + 1) (o : ∀ q : Nat, q < H.size → H1[q]? = H[q]?) : va_S A H0 H1 locs :=
  ⟨Nat.le_trans h.1 (by omega), fun x h1 h2 => (o x (Nat.lt_of_lt_of_le h1 h.1)).trans (h.2.1 x h1 h2), h.2.2⟩
def hArrT : Nat → ArrayType
  | 0 => .int
  | 1 => .char
  | _ => .int
def x_newarray (K : hK) (B : Nat × Nat) (nx t : Nat) : hSem := fun k cu ls st H => match st with
  | .int i :: r => ∃ n, i = nI n ∧ n ≤ 1000000 ∧ cu.1 + 1 ≤ B.1 ∧ cu.2 + n ≤ B.2 ∧ ∀ H', hNew H (hInts K t n (fun _ => 0)) H' → k nx (cu.1 + 1, cu.2 + n) ls (.ref H.1 :: r) H'
  | _ => False
theorem ok_newarray {K : hK} {M : hM} {B : Nat × Nat} {Q : hPost} {pc nx t : Nat} (ht : t = 0 ∨ t = 1 ∨ t = 2) (hw : Cond.arrayClass (hTyOf t) ∈ hTb) (hd : decode M.2.1 pc = .ok (.newarray (hArrT t), 2)) (hn : pc + 2 = nx) : hOk (hJ K M B Q) pc (x_newarray K B nx t) := by
  intro k hk cu ls st H h
  subst hn
  unfold x_newarray at h
  split at h
  · rename_i i0 r0
    obtain ⟨n, rfl, hn, c1, c2, h⟩ := h
    refine Or.inl fun p e R s m args below meth c QF C Hr locs lsr h1 h2 h3 h4 h5 => ?_
    have b1 := C.2.2.2.2.2.2.2.2.2.1
    have hcl : (nI n).toNatClampNeg = n := nI_clamp (by omega)
    have key : ∀ (at_ : ArrayType), newarray.typeOf at_ = hTyOf t → defaultValue (hTyOf t) = .int 0 → (hTys K)[t]? = some (K.2.2.1 t, hTyOf t) → va_RA s (K.2.2.1 t) (hTyOf t) = (s.vm.findClass ("[" ++ (hTyOf t).toString) = some (K.2.2.1 t)) → componentBytes (hTyOf t) ≤ 8 → decode M.2.1 pc = .ok (.newarray at_, 2) → W p K.1 e R s m args below meth c Hr locs cu.1 cu.2 QF (F0 m pc lsr (.int (nI n) :: r0)) := by
      intro at_ e1 e2 e3 e4 e5 e6
      refine va_newaK C.1 C.2.1 (by rw [e1]; exact C.2.2.2.2.1 _ hw) rfl e6 rfl (nI_pos (by omega)) hcl ?_ (Nat.le_trans c1 b1.2.2.1) (Nat.le_trans c2 b1.2.2.2) h1.1 fun H1 cA g1 z o _ hfc => ?_
      · rw [e1]
        calc n * componentBytes (hTyOf t) ≤ n * 8 := Nat.mul_le_mul_left _ e5
          _ ≤ 536870912 := by omega
      · rw [e1] at hfc g1
        have hra := (C.2.2.2.2.2.2.1.1.2 t _ e3).2
        rw [e4] at hra
        have hcA : cA = K.2.2.1 t := Option.some.inj (hfc.symm.trans hra)
        subst hcA
        have u := hNew.mk H (hInts K t n (fun _ => 0))
        have oq : ∀ q : Nat, q < Hr.size → H1[q]? = Hr[q]? := fun q hq => o q (by rw [← h1.1]; exact hq)
        refine (hk _ _ _ _ _ (h _ u)).use C (h1.new u ?_ (by rw [z, h1.1]) oq) (h2.new (by rw [z, h1.1]) oq) h3 c1 c2
        rw [e2] at g1
        exact g1
    rcases ht with rfl | rfl | rfl
    · exact key .int rfl rfl rfl rfl (by decide) hd
    · exact key .char rfl rfl rfl rfl (by decide) hd
    · exact key .int rfl rfl rfl rfl (by decide) hd
  · exact h.elim
def x_anewarray (K : hK) (B : Nat × Nat) (nx t : Nat) : hSem := fun k cu ls st H => match st with
  | .int i :: r => ∃ n, i = nI n ∧ n ≤ 1000000 ∧ cu.1 + 1 ≤ B.1 ∧ cu.2 + n ≤ B.2 ∧ ∀ H', hNew H (hRefs K t n (fun _ => none)) H' → k nx (cu.1 + 1, cu.2 + n) ls (.ref H.1 :: r) H'
  | _ => False
theorem ok_anewarray {K : hK} {M : hM} {B : Nat × Nat} {Q : hPost} {pc nx t idx : Nat} (ht : t = 3 ∨ t = 4) (hw : Cond.classLink M.1.cls idx (hTn t) ∈ hTb) (hd : decode M.2.1 pc = .ok (.anewarray idx, 3)) (hn : pc + 3 = nx) : hOk (hJ K M B Q) pc (x_anewarray K B nx t) := by
  intro k hk cu ls st H h
  subst hn
  unfold x_anewarray at h
  split at h
  · obtain ⟨n, rfl, hn, c1, c2, h⟩ := h
    refine Or.inl fun p e R s m args below meth c QF C Hr locs lsr h1 h2 h3 h4 h5 => ?_
    have b1 := C.2.2.2.2.2.2.2.2.2.1
    have hcl : (nI n).toNatClampNeg = n := nI_clamp (by omega)
    have key : va_AO (hTn t) s ∧ (hTys K)[t]? = some (K.2.2.1 t, .object (hTn t)) := by
      rcases ht with rfl | rfl
      · exact ⟨C.2.2.2.2.2.2.1.2.2.1, rfl⟩
      · exact ⟨C.2.2.2.2.2.2.1.2.2.2, rfl⟩
    refine W.anew C.1 C.2.1 C.2.2.2.1 (C.2.2.2.2.1 _ hw) (va_AO.use key.1) rfl hd rfl (nI_pos (by omega)) (by rw [hcl]; omega) (Nat.le_trans c1 b1.2.2.1) (by rw [hcl]; exact Nat.le_trans c2 b1.2.2.2) fun cA kA comp f1 f2 f3 f4 => ?_
    rw [hcl]
    obtain ⟨kA', comp', k1, k2, k3, k4⟩ := (C.2.2.2.2.2.2.1.1.2 t _ key.2).2
    have hcA : cA = K.2.2.1 t := Option.some.inj (f1.symm.trans k4)
    subst hcA
    generalize hH1 : Hr.push ({ cls := K.2.2.1 t, slots := Array.replicate n .null, vm := .none } : Cell) = H1
    have z1 : H1.size = Hr.size + 1 := by rw [← hH1, Array.size_push]
    have e1 : H1[Hr.size]? = some (arrV (K.2.2.1 t) n (fun _ => .null)) := by rw [← hH1, Array.getElem?_push_size, ← arrV_new]
    have o1 : ∀ q : Nat, q < Hr.size → H1[q]? = Hr[q]? := fun q hq => by rw [← hH1, Array.getElem?_push, if_neg (Nat.ne_of_lt hq)]
    have u := hNew.mk H (hRefs K t n (fun _ => none))
    have hfin := (hk _ _ _ _ _ (h _ u)).use C (h1.new u (by rw [h1.1] at e1; exact e1) z1 o1) (h2.new z1 o1) h3 c1 c2
    rw [h1.1]
    exact hfin
  · exact h.elim
def x_new (B : Nat × Nat) (nx ci N : Nat) (fs : List Value) : hSem := fun k cu ls st H => cu.1 + 1 ≤ B.1 ∧ cu.2 + N ≤ B.2 ∧ ∀ H', hNew H (.inr (ci, fs)) H' → k nx (cu.1 + 1, cu.2 + N) ls (.ref H.1 :: st) H'
theorem ok_new {K : hK} {M : hM} {B : Nat × Nat} {Q : hPost} {pc nx ci idx N : Nat} {C0 : String} {T : u_T} {ty0 : Nat → FieldType} {fs : List Value} (hty : ∀ k, k < N → parseFieldDescriptor (T k).2.2.1 = some (ty0 k)) (hc : vwCl[ci]? = some (C0, T, N)) (hin : ∀ w ∈ u_ws C0 T N, w ∈ hTb) (hfs : ∀ j, j < N → defaultValue (ty0 j) = vp_V fs j)
    (hw : Cond.classLink M.1.cls idx C0 ∈ hTb) (hw2 : Cond.instantiable C0 N ∈ hTb) (hw3 : Cond.initialized C0 ∈ hTb) (hd : decode M.2.1 pc = .ok (.new idx, 3)) (hn : pc + 3 = nx) : hOk (hJ K M B Q) pc (x_new B nx ci N fs) := by
  intro k hk cu ls st H h
  subst hn
  obtain ⟨c1, c2, h⟩ := h
  refine Or.inl fun p e R s m args below meth c QF C Hr locs lsr h1 h2 h3 h4 h5 => ?_
  have b1 := C.2.2.2.2.2.2.2.2.2.1
  have hKn := C.2.2.2.2.2.2.1.1.1 ci _ hc
  refine W.newcK C.1 C.2.1 C.2.2.2.1 (C.2.2.2.2.1 _ hw) (C.2.2.2.2.1 _ hw2) (C.2.2.2.2.1 _ hw3) rfl hd (Nat.le_trans c1 b1.2.2.1) (Nat.le_trans c2 b1.2.2.2) hKn.2.1 h1.1 fun H1 kC hkC e1 z1 o1 => ?_
  have u := hNew.mk H (.inr (ci, fs))
  have oq : ∀ q : Nat, q < Hr.size → H1[q]? = Hr[q]? := fun q hq => o1 q (by rw [← h1.1]; exact hq)
  refine (hk _ _ _ _ _ (h _ u)).use C (h1.new u ?_ (by rw [z1, h1.1]) oq) (h2.new (by rw [z1, h1.1]) oq) h3 c1 c2
  exact ⟨_, hc, (u_born ty0 C.2.2.2.2.1 hin hKn hkC e1 hty).to hfs⟩
theorem hLe4_spec {r : hStk} (h : hLe4 r = true) : (r.map fun v => v.category).sum ≤ 8 := by
  have hc : ∀ v : Value, v.category ≤ 2 := fun v => by rcases lv_cat v with h | h <;> omega
  unfold hLe4 at h
  split at h
  · simp
  · rename_i a; have := hc a; simp; omega
  · rename_i a b; have := hc a; have := hc b; simp; omega
  · rename_i a b d; have := hc a; have := hc b; have := hc d; simp; omega
  · rename_i a b d f; have := hc a; have := hc b; have := hc d; have := hc f; simp; omega
  · exact Nat.le_of_ble_eq_true rfl
  · cases h
/-- Object.<init> -/
def x_objinit (nx : Nat) : hSem := fun k cu ls st H => match st with
  | .ref _ :: r => match hLe4 r with
    | true => k nx cu ls r H
    | false => False
  | _ => False
theorem ok_objinit {K : hK} {M : hM} {B : Nat × Nat} {Q : hPost} {pc nx idx : Nat} (hw : Cond.methodLink M.1.cls idx Lib.objectInit ∈ hTb) (hw2 : Cond.instanceMethod Lib.objectInit ∈ hTb) (hw3 : Cond.code Lib.objectInit ⟨#[0xb1]⟩ 1 none ∈ hTb) (hf : 1 ≤ M.2.2.2.2.1) (hlo : 20 ≤ M.2.2.2.2.2) (hd : decode M.2.1 pc = .ok (.invokespecial idx, 3)) (hn : pc + 3 = nx) : hOk (hJ K M B Q) pc (x_objinit nx) := by
  intro k hk cu ls st H h
  subst hn
  unfold x_objinit at h
  split at h
  · rename_i a0 r
    split at h
    · rename_i hr
      refine Or.inl fun p e R s m args below meth c QF C Hr locs lsr h1 h2 h3 h4 h5 => ?_
      have b1 := C.2.2.2.2.2.2.2.2.2.1
      refine W.objInit C.1 C.2.1 C.2.2.2.1 (C.2.2.2.2.1 _ hw) (C.2.2.2.2.1 _ hw2) (C.2.2.2.2.1 _ hw3) rfl (by rw [C.2.2.1]; exact h3.1) rfl hd (Nat.le_trans hf b1.1) ?_ ((hk _ _ _ _ _ h).use C h1 h2 h3 h4 h5)
      have h6 := lv_room (m := m) (pc := pc) (ls := lsr) (rest := r) (hLe4_spec hr)
      exact Nat.le_trans (Nat.add_le_add_right h6 12) (Nat.le_trans hlo b1.2.1)
    · exact h.elim
  · exact h.elim
/-- a method's contract: from this heap, with these arguments, it comes back with an answer and a heap of which Q says what is said; at most mc cells of ms slots are new -/
def hCT (K : hK) (M : hM) (av : List Value) (H : hAH) (mc ms : Nat) (Q : hPost) : Prop :=
  Met K.1 M.1 (hWs M) { frames := M.2.2.2.2.1, cells := mc, slots := ms, locals := M.2.2.2.2.2 } (va_Pc av (fun U => hPre K H U)) (fun _ st oc t => (∃ r H', oc = .returned r ∧ Q r H' ∧ hHp K H' t.heap) ∧ va_F (hA K) st t) mc ms (hA K)
theorem hStat.warm {K : hK} {s U : State} (hW : s.WarmedH U.vm) (h : hStat K s) : hStat K U := by
  refine ⟨h.1.moved hW.alike, fun w hw hn => ?_, h.2.2.1.moved hW.alike, h.2.2.2.moved hW.alike⟩
  have h1 := h.2.1 w hw hn
  cases w with
  | fieldLinkNest => exact va_Nw.warmF hW h1
  | methodLinkNest => exact va_Nw.warmM hW h1
  | _ => cases hn
theorem hRo.warm {K : hK} {s U : State} {Hr : Heap} {locs : List Loc} (hW : s.WarmedH U.vm) (hU : U.heap = Hr) (hS : va_S (hA K) s.heap Hr locs) (h : hRo K s s.heap) : hRo K U U.heap :=
  ⟨fun t n f e => ((h.1 t n f e).moved hW.alike).kept (fun a h1 h2 => by rw [hU]; exact hS.2.1 a h1 h2), fun i hi => ((h.2 i hi).moved hW.alike).kept (fun a h1 h2 => by rw [hU]; exact hS.2.1 a h1 h2)⟩
theorem hPre.calling {K : hK} {H : hAH} {U : State} {g : JFrame} {mk : MethodId} {a : Array Value} (h : hPre K H U) : hPre K H (U.calling g mk a) := by
  refine ⟨h.1, ⟨va_K.moved (u := U) (U := U.calling g mk a) (Vm.Alike.refl U.vm) h.2.1.1, fun w hw hn => ?_, va_AO.moved (u := U) (U := U.calling g mk a) (Vm.Alike.refl U.vm) h.2.1.2.2.1, va_AO.moved (u := U) (U := U.calling g mk a) (Vm.Alike.refl U.vm) h.2.1.2.2.2⟩, fun t n f e => va_T.moved (u := U) (U := U.calling g mk a) (Vm.Alike.refl U.vm) (h.2.2.1 t n f e), fun i hi => va_Z.moved (u := U) (U := U.calling g mk a) (Vm.Alike.refl U.vm) (h.2.2.2 i hi)⟩
  have h1 := h.2.1.2.1 w hw hn
  cases w with
  | fieldLinkNest => exact va_Nw.same rfl rfl h1
  | methodLinkNest => exact va_Nw.same rfl rfl h1
  | _ => cases hn
theorem hCT.blind {K : hK} {H : hAH} {av : List Value} : FrameBlind (va_Pc av (fun U => hPre K H U)) := fun _ _ _ _ q => ⟨q.1, q.2.calling⟩
/-- behind a call -/
theorem hRun {K : hK} {M : hM} {B : Nat × Nat} {Q Qp : hPost} {p : Program} {e : Env} {R : Room} {s : State} {m : MethodId} {args : Array Value} {below : List Frame} {meth : Method} {c : Code} {QF : State → Prop} (C : hCtx K M B Q p e R s m args below meth c QF) {k : Nat → hCu → hLs → hStk → hAH → Prop} (hk : ∀ pc' cu ls st H, k pc' cu ls st H → hJ K M B Q pc' cu ls st H)
    {pc : Nat} {cu : hCu} {ls : hLs} {st0 r : hStk} {lsr : Array Slot} {Hr : Heap} {locs : List Loc} {mc ms : Nat} (h2 : va_S (hA K) s.heap Hr locs) (h3 : hLv M.2.2.1 ls lsr) (c1 : cu.1 + mc ≤ B.1) (c2 : cu.2 + ms ≤ B.2)
    (hr : va_Run p K.1 e R s m args below meth c Hr locs cu.1 cu.2 mc ms (F0 m pc lsr st0) r (fun st oc t => (∃ v H', oc = .returned v ∧ Qp v H' ∧ hHp K H' t.heap) ∧ va_F (hA K) st t) (hA K))
    (kk : ∀ v H', Qp v H' → k (pc + 3) (cu.1 + mc, cu.2 + ms) ls (hApp v r) H') : W p K.1 e R s m args below meth c Hr locs cu.1 cu.2 QF (F0 m pc lsr st0) := by
  intro T hT X
  obtain ⟨v, st₀, t, T', L, h0, X', hL, e1, e2, ⟨⟨v', H', hv, hp, hb⟩, hz, hkp⟩, stp⟩ := hr T hT X
  cases hv
  rw [h0] at hz hkp
  have hS' : va_S (hA K) s.heap T'.heap (locs ++ L) := ⟨Nat.le_trans h2.1 (by rw [e1]; exact hz), fun q g1 g2 => by rw [e1, hkp q (Nat.lt_of_lt_of_le g1 h2.1) g2]; exact h2.2.1 q g1 g2, fun q hq => by
      rcases List.mem_append.mp hq with h | h
      · exact h2.2.2 q h
      · exact hL q h⟩
  have hW := (hk _ _ _ _ _ (kk v H' hp)).use C (Hr := T'.heap) (by rw [e1]; exact hb) hS' h3 c1 c2
  have hst : v.toList ++ r = hApp v r := by cases v <;> rfl
  rw [hst] at stp
  obtain ⟨t2, a1, b1⟩ := hW T' rfl X'
  exact ⟨t2, stp t2 a1, b1⟩
theorem hPop_spec : ∀ (n : Nat) (st acc av r : List Value), hPop n st acc = some (av, r) → ∃ l : List Value, av = l ++ acc ∧ l.length = n ∧ st = l.reverse ++ r
  | 0, st, acc, av, r, h => by
    simp [hPop] at h
    exact ⟨[], by simp [h.1], rfl, by simp [h.2]⟩
  | n + 1, [], acc, av, r, h => by simp [hPop] at h
  | n + 1, v :: st, acc, av, r, h => by
    simp only [hPop] at h
    obtain ⟨l, h1, h2, h3⟩ := hPop_spec n st (v :: acc) av r h
    exact ⟨l ++ [v], by simp [h1], by simp [h2], by simp [h3]⟩
/-- words of the callee among ours -/
theorem hWs_good {M : hM} {ws : List Cond} (hc : Cond.code M.1 M.2.1 M.2.2.1 M.2.2.2.1 ∈ hTb) (h : ∀ w ∈ ws, w ∈ hTb) : GoodIn hTb (ws ++ hWs M) := hTb_good fun w hw => by
  rcases List.mem_append.mp hw with h1 | h1
  · exact h w h1
  · rcases List.mem_cons.mp h1 with rfl | h2
    · exact hc
    · exact h2
/-- what is decided once of a callee -/
def hCal (M My : hM) (n : Nat) : Prop := Cond.code My.1 My.2.1 My.2.2.1 My.2.2.2.1 ∈ hTb ∧ Cond.initialized My.1.cls ∈ hTb ∧ (My.1.cls ≠ "java/lang/invoke/MethodHandle" ∧ My.1.cls ≠ "java/lang/invoke/VarHandle" ∧ (parseMethodDescriptor My.1.desc).map (fun d => d.parameters.length) = some n) ∧ (My.2.2.2.2.1 + 1 ≤ M.2.2.2.2.1 ∧ 8 + (My.2.2.1 + 11) + My.2.2.2.2.2 ≤ M.2.2.2.2.2)
theorem hCal.room {M My : hM} {n : Nat} {R : Room} (h : hCal M My n) (h1 : M.2.2.2.2.1 ≤ R.frames) (h2 : M.2.2.2.2.2 ≤ R.locals) : My.2.2.2.2.1 + 1 ≤ R.frames ∧ 8 + (My.2.2.1 + 11) + My.2.2.2.2.2 ≤ R.locals := ⟨Nat.le_trans h.2.2.2.1 h1, Nat.le_trans h.2.2.2.2 h2⟩
def x_callS (K : hK) (nx : Nat) (My : hM) (n : Nat) : hSem := fun k cu ls st H => match hPop n st [] with
  | some (av, r) => match hLe4 r with
    | true => ∃ Qc, hCT K My av H 0 0 Qc ∧ ∀ v H', Qc v H' → k nx cu ls (hApp v r) H'
    | false => False
  | none => False
theorem hPreOk {K : hK} {M : hM} {B : Nat × Nat} {Q : hPost} {p : Program} {e : Env} {R : Room} {s : State} {m : MethodId} {args : Array Value} {below : List Frame} {meth : Method} {c : Code} {QF : State → Prop} (C : hCtx K M B Q p e R s m args below meth c QF) {H : hAH} {Hr : Heap} {locs : List Loc} (h1 : hHp K H Hr) (h2 : va_S (hA K) s.heap Hr locs) {av : List Value} : ∀ U : State, U.heap = Hr → s.WarmedH U.vm → va_Pc av (fun U => hPre K H U) av.toArray U :=
  fun _ hU hW => ⟨rfl, by rw [hU]; exact h1, hStat.warm hW C.2.2.2.2.2.2.1, hRo.warm hW hU h2 C.2.2.2.2.2.2.2.1⟩
theorem ok_callS {K : hK} {M : hM} {B : Nat × Nat} {Q : hPost} {pc nx idx n : Nat} {My : hM} (hcal : hCal M My n) (hw : Cond.methodLink M.1.cls idx My.1 ∈ hTb) (hw2 : Cond.static My.1 ∈ hTb) (hd : decode M.2.1 pc = .ok (.invokestatic idx, 3)) (hn : pc + 3 = nx) : hOk (hJ K M B Q) pc (x_callS K nx My n) := by
  intro k hk cu ls st H h
  subst hn
  unfold x_callS at h
  split at h
  · rename_i av r hp
    split at h
    · rename_i hr
      obtain ⟨Qc, hct, h⟩ := h
      obtain ⟨l, hl1, hl2, hl3⟩ := hPop_spec _ _ _ _ _ hp
      rw [List.append_nil] at hl1
      subst hl1
      refine Or.inl fun p e R s m args below meth c QF C Hr locs lsr h1 h2 h3 h4 h5 => ?_
      have b1 := C.2.2.2.2.2.2.2.2.2.1
      refine hRun C hk h2 h3 (mc := 0) (ms := 0) h4 h5 (va_runS (As := av) (rest := r) ⟨C.1, C.2.1, C.2.2.1, C.2.2.2.1, C.2.2.2.2.1⟩ hct (va_cwS n C.2.2.2.2.1 (hWs_good hcal.1 ?_) rfl rfl rfl hcal.2.2.1 (hcal.room b1.1 b1.2.1)) ⟨hCT.blind, hPreOk C h1 h2⟩ rfl hl2 h3.1 hl3 (lv_room (m := m) (pc := pc) (ls := lsr) (rest := r) (hLe4_spec hr)) hd ⟨Nat.le_trans h4 b1.2.2.1, Nat.le_trans h5 b1.2.2.2⟩) h
      intro w hw'
      simp only [List.mem_cons, List.not_mem_nil, or_false] at hw'
      rcases hw' with rfl | rfl | rfl
      · exact hw
      · exact hw2
      · exact hcal.2.1
    · exact h.elim
  · exact h.elim
theorem hNest_good {M : hM} (hc : Cond.code M.1 M.2.1 M.2.2.1 M.2.2.2.1 ∈ hTb) : GoodIn hTb (hWs M) := by
  have := hWs_good (M := M) (ws := []) hc (fun _ h => by cases h)
  simpa using this
theorem ok_callSN {K : hK} {M : hM} {B : Nat × Nat} {Q : hPost} {pc nx idx n : Nat} {My : hM} {host : String} (hcal : hCal M My n) (hw : Cond.methodLinkNest M.1.cls idx My.1 host ∈ tables_1) (hw2 : Cond.static My.1 ∈ hTb) (hd : decode M.2.1 pc = .ok (.invokestatic idx, 3)) (hn : pc + 3 = nx) : hOk (hJ K M B Q) pc (x_callS K nx My n) := by
  intro k hk cu ls st H h
  subst hn
  unfold x_callS at h
  split at h
  · rename_i av r hp
    split at h
    · rename_i hr
      obtain ⟨Qc, hct, h⟩ := h
      obtain ⟨l, hl1, hl2, hl3⟩ := hPop_spec _ _ _ _ _ hp
      rw [List.append_nil] at hl1
      subst hl1
      refine Or.inl fun p e R s m args below meth c QF C Hr locs lsr h1 h2 h3 h4 h5 => ?_
      have b1 := C.2.2.2.2.2.2.2.2.2.1
      exact hRun C hk h2 h3 (mc := 0) (ms := 0) h4 h5 (va_runSN (As := av) (rest := r) ⟨C.1, C.2.1, C.2.2.1, C.2.2.2.1, C.2.2.2.2.1⟩ hct ⟨va_cnB n C.2.2.2.2.1 (hNest_good hcal.1) rfl rfl rfl (C.2.2.2.2.2.2.1.2.1 _ hw rfl) (C.2.2.2.2.1 _ hcal.2.1) hcal.2.2.1 (hcal.room b1.1 b1.2.1), C.2.2.2.2.1 _ hw2, trivial⟩ ⟨hCT.blind, hPreOk C h1 h2⟩ rfl hl2 h3.1 hl3 (lv_room (m := m) (pc := pc) (ls := lsr) (rest := r) (hLe4_spec hr)) hd ⟨Nat.le_trans h4 b1.2.2.1, Nat.le_trans h5 b1.2.2.2⟩) h
    · exact h.elim
  · exact h.elim
def x_callV (K : hK) (nx : Nat) (My : hM) (ci n : Nat) : hSem := fun k cu ls st H => match hPop (n + 1) st [] with
  | some (.ref a :: av, r) => match hLe4 r with
    | true => ∃ fs, H.2 a = some (.inr (ci, fs)) ∧ ∃ Qc, hCT K My (.ref a :: av) H 0 0 Qc ∧ ∀ v H', Qc v H' → k nx cu ls (hApp v r) H'
    | false => False
  | _ => False
theorem hPopV {n a : Nat} {st av r : hStk} (h : hPop (n + 1) st [] = some (.ref a :: av, r)) : av.length = n ∧ st = av.reverse ++ .ref a :: r := by
  obtain ⟨l, h1, h2, h3⟩ := hPop_spec _ _ _ _ _ h
  rw [List.append_nil] at h1
  subst h1
  exact ⟨by simpa using h2, by simpa using h3⟩
theorem ok_callV {K : hK} {M : hM} {B : Nat × Nat} {Q : hPost} {pc nx idx n ci : Nat} {My : hM} {q : vw_C} (hcal : hCal M My n) (hc : vwCl[ci]? = some q) (hC : My.1.cls = q.1) (hw : Cond.methodLink M.1.cls idx My.1 ∈ hTb) (hw2 : Cond.instanceMethod My.1 ∈ hTb) (hw3 : Cond.selects My.1.cls My.1 My.1 ∈ hTb) (hd : decode M.2.1 pc = .ok (.invokevirtual idx, 3)) (hn : pc + 3 = nx) : hOk (hJ K M B Q) pc (x_callV K nx My ci n) := by
  intro k hk cu ls st H h
  subst hn
  unfold x_callV at h
  split at h
  · rename_i a av r hp
    split at h
    · rename_i hr
      obtain ⟨fs, e, Qc, hct, h⟩ := h
      obtain ⟨hl2, hl3⟩ := hPopV hp
      refine Or.inl fun p e' R s m args below meth c QF C Hr locs lsr h1 h2 h3 h4 h5 => ?_
      have b1 := C.2.2.2.2.2.2.2.2.2.1
      refine hRun C hk h2 h3 (mc := 0) (ms := 0) h4 h5 (va_runV (C := My.1.cls) (As := av) (rest := r) (b := a) ⟨C.1, C.2.1, C.2.2.1, C.2.2.2.1, C.2.2.2.2.1⟩ hct (cwV n C.2.2.2.2.1 (hWs_good hcal.1 ?_) rfl rfl rfl ⟨rfl, hcal.2.2.1⟩ (hcal.room b1.1 b1.2.1)) ⟨hCT.blind, by rw [hC]; exact va_recv C.2.2.2.2.2.2.1.1 (h1.one e) hc (q0 := 0) rfl, hPreOk C h1 h2⟩ rfl hl2 h3.1 hl3 (lv_room (m := m) (pc := pc) (ls := lsr) (rest := r) (hLe4_spec hr)) hd ⟨Nat.le_trans h4 b1.2.2.1, Nat.le_trans h5 b1.2.2.2⟩) h
      intro w hw'
      simp only [List.mem_cons, List.not_mem_nil, or_false] at hw'
      rcases hw' with rfl | rfl | rfl | rfl
      · exact hw
      · exact hw2
      · exact hw3
      · exact hcal.2.1
    · exact h.elim
  · exact h.elim
theorem ok_callVN {K : hK} {M : hM} {B : Nat × Nat} {Q : hPost} {pc nx idx n ci : Nat} {My : hM} {q : vw_C} {host : String} (hcal : hCal M My n) (hc : vwCl[ci]? = some q) (hC : My.1.cls = q.1) (hw : Cond.methodLinkNest M.1.cls idx My.1 host ∈ tables_1) (hw2 : Cond.instanceMethod My.1 ∈ hTb) (hw3 : Cond.selects My.1.cls My.1 My.1 ∈ hTb) (hd : decode M.2.1 pc = .ok (.invokevirtual idx, 3)) (hn : pc + 3 = nx) : hOk (hJ K M B Q) pc (x_callV K nx My ci n) := by
  intro k hk cu ls st H h
  subst hn
  unfold x_callV at h
  split at h
  · rename_i a av r hp
    split at h
    · rename_i hr
      obtain ⟨fs, e, Qc, hct, h⟩ := h
      obtain ⟨hl2, hl3⟩ := hPopV hp
      refine Or.inl fun p e' R s m args below meth c QF C Hr locs lsr h1 h2 h3 h4 h5 => ?_
      have b1 := C.2.2.2.2.2.2.2.2.2.1
      exact hRun C hk h2 h3 (mc := 0) (ms := 0) h4 h5 (va_runVN (C := My.1.cls) (As := av) (rest := r) (b := a) ⟨C.1, C.2.1, C.2.2.1, C.2.2.2.1, C.2.2.2.2.1⟩ hct ⟨va_cnB n C.2.2.2.2.1 (hNest_good hcal.1) rfl rfl rfl (C.2.2.2.2.2.2.1.2.1 _ hw rfl) (C.2.2.2.2.1 _ hcal.2.1) hcal.2.2.1 (hcal.room b1.1 b1.2.1), C.2.2.2.2.1 _ hw2, C.2.2.2.2.1 _ hw3⟩ ⟨hCT.blind, by rw [hC]; exact va_recv C.2.2.2.2.2.2.1.1 (h1.one e) hc (q0 := 0) rfl, hPreOk C h1 h2⟩ rfl hl2 h3.1 hl3 (lv_room (m := m) (pc := pc) (ls := lsr) (rest := r) (hLe4_spec hr)) hd ⟨Nat.le_trans h4 b1.2.2.1, Nat.le_trans h5 b1.2.2.2⟩) h
    · exact h.elim
  · exact h.elim
/-- a constructor of ours: it makes cells -/
def x_callI (K : hK) (B : Nat × Nat) (nx : Nat) (My : hM) (n : Nat) : hSem := fun k cu ls st H => match hPop (n + 1) st [] with
  | some (.ref a :: av, r) => match hLe4 r with
    | true => ∃ mc ms Qc, hCT K My (.ref a :: av) H mc ms Qc ∧ cu.1 + mc ≤ B.1 ∧ cu.2 + ms ≤ B.2 ∧ ∀ v H', Qc v H' → k nx (cu.1 + mc, cu.2 + ms) ls (hApp v r) H'
    | false => False
  | _ => False
theorem ok_callI {K : hK} {M : hM} {B : Nat × Nat} {Q : hPost} {pc nx idx n : Nat} {My : hM} (hcal : hCal M My n) (hr0 : My.2.2.2.1 = none) (hnm : My.1.name = "<init>") (hw : Cond.methodLink M.1.cls idx My.1 ∈ hTb) (hw2 : Cond.instanceMethod My.1 ∈ hTb) (hd : decode M.2.1 pc = .ok (.invokespecial idx, 3)) (hn : pc + 3 = nx) : hOk (hJ K M B Q) pc (x_callI K B nx My n) := by
  intro k hk cu ls st H h
  subst hn
  unfold x_callI at h
  split at h
  · rename_i a av r hp
    split at h
    · rename_i hr
      obtain ⟨mc, ms, Qc, hct, c1, c2, h⟩ := h
      obtain ⟨hl2, hl3⟩ := hPopV hp
      refine Or.inl fun p e' R s m args below meth c QF C Hr locs lsr h1 h2 h3 h4 h5 => ?_
      have b1 := C.2.2.2.2.2.2.2.2.2.1
      exact hRun C hk h2 h3 c1 c2 (va_runI (As := av) (rest := r) (b := a) ⟨C.1, C.2.1, C.2.2.1, C.2.2.2.1, C.2.2.2.2.1⟩ hct (cwI n C.2.2.2.2.1 (hNest_good hcal.1) (by unfold hWs; rw [hr0]) rfl rfl (C.2.2.2.2.1 _ hcal.2.1) (C.2.2.2.2.1 _ hw) (C.2.2.2.2.1 _ hw2) hnm hcal.2.2.1 (hcal.room b1.1 b1.2.1)) ⟨hCT.blind, hPreOk C h1 h2⟩ rfl hl2 h3.1 hl3 (lv_room (m := m) (pc := pc) (ls := lsr) (rest := r) (hLe4_spec hr)) hd ⟨Nat.le_trans c1 b1.2.2.1, Nat.le_trans c2 b1.2.2.2⟩) h
    · exact h.elim
  · exact h.elim
theorem ok_callIN {K : hK} {M : hM} {B : Nat × Nat} {Q : hPost} {pc nx idx n : Nat} {My : hM} {host : String} (hcal : hCal M My n) (hr0 : My.2.2.2.1 = none) (hnm : My.1.name = "<init>") (hw : Cond.methodLinkNest M.1.cls idx My.1 host ∈ tables_1) (hw2 : Cond.instanceMethod My.1 ∈ hTb) (hd : decode M.2.1 pc = .ok (.invokespecial idx, 3)) (hn : pc + 3 = nx) : hOk (hJ K M B Q) pc (x_callI K B nx My n) := by
  intro k hk cu ls st H h
  subst hn
  unfold x_callI at h
  split at h
  · rename_i a av r hp
    split at h
    · rename_i hr
      obtain ⟨mc, ms, Qc, hct, c1, c2, h⟩ := h
      obtain ⟨hl2, hl3⟩ := hPopV hp
      refine Or.inl fun p e' R s m args below meth c QF C Hr locs lsr h1 h2 h3 h4 h5 => ?_
      have b1 := C.2.2.2.2.2.2.2.2.2.1
      exact hRun C hk h2 h3 c1 c2 (va_runIN (As := av) (rest := r) (b := a) ⟨C.1, C.2.1, C.2.2.1, C.2.2.2.1, C.2.2.2.2.1⟩ hct ⟨va_cnB n C.2.2.2.2.1 (hNest_good hcal.1) (by unfold hWs; rw [hr0]) rfl rfl (C.2.2.2.2.2.2.1.2.1 _ hw rfl) (C.2.2.2.2.1 _ hcal.2.1) hcal.2.2.1 (hcal.room b1.1 b1.2.1), hnm, C.2.2.2.2.1 _ hw2⟩ ⟨hCT.blind, hPreOk C h1 h2⟩ rfl hl2 h3.1 hl3 (lv_room (m := m) (pc := pc) (ls := lsr) (rest := r) (hLe4_spec hr)) hd ⟨Nat.le_trans c1 b1.2.2.1, Nat.le_trans c2 b1.2.2.2⟩) h
    · exact h.elim
  · exact h.elim
/-- a contract out of a walk -/
theorem hCT.mk {K : hK} {M : hM} {av : List Value} {H : hAH} {mc ms : Nat} {Q : hPost} (hy : plainName M.1.cls = true) (hav : ∀ w ∈ av, w.category = 1) (hlen : (lg_sl av).length ≤ M.2.2.1) (h : hJ K M (mc, ms) Q 0 (0, 0) (hEnt av M.2.2.1) [] H) : hCT K M av H mc ms Q := by
  refine Met.ofW (cc := M.2.1) (maxL := M.2.2.1) (ret := M.2.2.2.1) hy rfl ?_
  intro p e s m args below meth c s₁ B hml hv
  obtain ⟨rfl, h1, h2, h3⟩ := hv
  have hts := atoms_spec (ws := hWs M) B.pre
  have hown : s.vm.findClass M.1.cls = some m.cls := findClass_of_methodNamed B.named
  have hin : meth.name = M.1.name := (name_of_methodNamed B.named B.method).1
  rw [lg_entry_eq]
  have hl := lv_entry av (n := M.2.2.1) hlen
  refine h.use (p := p) (e := e) (s := s) (m := m) (meth := meth) (c := c) ⟨B.exec, B.bytes, hml, hown, fun w hw => hts w (List.mem_cons_of_mem _ hw), fun z => by rw [hin]; exact z, h2, h3, by rw [h1.1]; exact h1.2.1, ⟨Nat.le_refl _, Nat.le_refl _, Nat.le_refl _, Nat.le_refl _⟩, ?_⟩ h1 va_S.rf ⟨hl.1, hl.2.1, fun i v hi => ?_⟩ (Nat.zero_le _) (Nat.zero_le _)
  · intro r H' cu Hr locs lsr pc ins st hI hd g1 g2 hq u1 u2
    rw [B.bytes] at hd
    have hq' : ∀ t : State, t.heap = Hr → s.WarmedH t.vm → ((∃ r' H', Outcome.returned r = .returned r' ∧ Q r' H' ∧ hHp K H' t.heap) ∧ va_F (hA K) s t) := fun t ht _ => ⟨⟨r, H', rfl, hq, by rw [ht]; exact g1⟩, g2.F ht⟩
    refine W.widen (k := mc) (n := ms) u1 u2 ?_
    rcases hI with ⟨rfl, rfl, rfl, hr⟩ | ⟨v, ty, rfl, rfl, rfl, hr, hn⟩ | ⟨v, cn, rfl, rfl, rfl, hr, hv⟩
    · exact W.vret (Qc := fun _ st oc t => (∃ r H', oc = .returned r ∧ Q r H' ∧ hHp K H' t.heap) ∧ va_F (hA K) st t) B.exec B.bytes (B.returns.trans hr) hq' g2.2.2 hd B.notSynchronized
    · exact W.zret (Qc := fun _ st oc t => (∃ r H', oc = .returned r ∧ Q r H' ∧ hHp K H' t.heap) ∧ va_F (hA K) st t) B.exec B.bytes (B.returns.trans hr) hn hq' g2.2.2 hd B.notSynchronized
    · exact W.aret (Qc := fun _ st oc t => (∃ r H', oc = .returned r ∧ Q r H' ∧ hHp K H' t.heap) ∧ va_F (hA K) st t) B.exec B.bytes (B.returns.trans hr) (Or.inl ⟨cn, rfl⟩) hv hq' g2.2.2 hd B.notSynchronized
  · obtain ⟨k1, k2⟩ := hEnt_get av M.2.2.1 0 i v hav hi
    rw [Nat.zero_add] at k1
    exact ⟨hl.2.2 _ k1, k2⟩
theorem hCT.mono {K : hK} {M : hM} {av : List Value} {H : hAH} {mc ms : Nat} {Q Q' : hPost} (h : hCT K M av H mc ms Q) (hq : ∀ r H', Q r H' → Q' r H') : hCT K M av H mc ms Q' := by
  unfold hCT Met at *
  exact MetFree.mono h (fun _ _ hp => hp) (fun _ _ _ _ _ hk => hk) (fun _ _ _ _ _ ⟨⟨⟨r, H', e, q, hb⟩, hf⟩, hL⟩ => ⟨⟨⟨r, H', e, hq r H' q, hb⟩, hf⟩, hL⟩)
theorem hTb_p {ws : List Cond} (ps : List Nat) (hp : ws = ps.filterMap (fun i => tables_1[i]?)) (h : ws.all goodWord = true) : ∀ w ∈ ws, w ∈ hTb := by
  intro w hw
  have h1 := List.all_eq_true.mp h w hw
  rw [hp] at hw
  obtain ⟨i, -, hi⟩ := List.mem_filterMap.mp hw
  exact hTb_t (List.mem_of_getElem? hi) h1
theorem hAllOk.c {J : Nat → hCu → hLs → hStk → hAH → Prop} (pc : Nat) {x : hSem} {t : List hSem} (h : hOk J pc x) (h2 : hAllOk J (pc + 1) t) : hAllOk J pc (x :: t) := ⟨h, h2⟩
