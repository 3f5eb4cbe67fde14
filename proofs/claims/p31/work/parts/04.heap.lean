/-! heap instructions: fields, arrays, statics -/
theorem hHp.one {K : hK} {H : hAH} {Hr : Heap} {a : Nat} {c : va_E} (h : hHp K H Hr) (e : H.2 a = some c) : va_P K.2.1 vwCl [(a, c)] Hr := fun j q hj => by
  cases j with
  | zero => simp at hj; subst hj; exact (h.2.2 _ _ e).2
  | succ j => simp at hj
theorem hHp.put {K : hK} {H H' : hAH} {Hr H1 : Heap} {a : Nat} {c0 c : va_E} (h : hHp K H Hr) (e : H.2 a = some c0) (u : hUpd H a c H') (he : va_at K.2.1 vwCl (a, c) H1) (z : H1.size = Hr.size) (oq : ∀ q : Nat, q ≠ a → H1[q]? = Hr[q]?) : hHp K H' H1 := by
  refine ⟨by rw [z, h.1, u.1], by rw [u.1]; exact h.2.1, fun q d hq => ?_⟩
  by_cases eq : q = a
  · subst eq
    rw [u.2.1] at hq
    cases hq
    exact ⟨(h.2.2 _ _ e).1, he⟩
  · rw [u.2.2 q eq] at hq
    exact ⟨(h.2.2 _ _ hq).1, (h.2.2 _ _ hq).2.kept (oq q eq)⟩
theorem hHp.new {K : hK} {H H' : hAH} {Hr H1 : Heap} {c : va_E} (h : hHp K H Hr) (u : hNew H c H') (he : va_at K.2.1 vwCl (H.1, c) H1) (z : H1.size = Hr.size + 1) (oq : ∀ q : Nat, q < Hr.size → H1[q]? = Hr[q]?) : hHp K H' H1 := by
  refine ⟨by rw [z, h.1, u.1], by rw [u.1]; exact Nat.le_succ_of_le h.2.1, fun q d hq => ?_⟩
  by_cases eq : q = H.1
  · subst eq
    rw [u.2.1] at hq
    cases hq
    exact ⟨h.2.1, he⟩
  · rw [u.2.2 q eq] at hq
    have h1 := h.2.2 _ _ hq
    exact ⟨h1.1, h1.2.kept (oq q h1.2.lt)⟩
theorem hUpd.mk (H : hAH) (a : Nat) (c : va_E) : hUpd H a c (H.1, fun q => if q = a then some c else H.2 q) := ⟨rfl, if_pos rfl, fun _ h => if_neg h⟩
theorem hNew.mk (H : hAH) (c : va_E) : hNew H c (H.1 + 1, fun q => if q = H.1 then some c else H.2 q) := ⟨rfl, if_pos rfl, fun _ h => if_neg h⟩
theorem hCtx.nest {K : hK} {M : hM} {B : Nat × Nat} {Q : hPost} {p : Program} {e : Env} {R : Room} {s : State} {m : MethodId} {args : Array Value} {below : List Frame} {meth : Method} {c : Code} {QF : State → Prop} (C : hCtx K M B Q p e R s m args below meth c QF) {w : Cond} (h : w ∈ tables_1) (hn : hIsNest w = true) : w.before args s = true := by
  have h1 := C.2.2.2.2.2.2.1.2.1 w h hn
  cases w with
  | fieldLinkNest => exact va_Nw.use rfl h1
  | methodLinkNest => exact va_Nw.use rfl h1
  | _ => cases hn
def x_getfield (nx ci f : Nat) : hSem := fun k cu ls st H => match st with
  | .ref a :: r => ∃ fs, H.2 a = some (.inr (ci, fs)) ∧ match hGetV fs f with
    | some v => k nx cu ls (v :: r) H
    | none => False
  | _ => False
theorem ok_getfield {K : hK} {M : hM} {B : Nat × Nat} {Q : hPost} {pc nx ci f idx N : Nat} {C0 : String} {T : u_T} (hc : vwCl[ci]? = some (C0, T, N)) (hin : ∀ w ∈ u_ws C0 T N, w ∈ hTb) (hf : f < N) (hT : (T f).1 = C0)
    (hw : Cond.fieldLink M.1.cls idx C0 (T f).2.1 (T f).2.2.1 ∈ hTb) (hd : decode M.2.1 pc = .ok (.getfield idx, 3)) (hn : pc + 3 = nx) : hOk (hJ K M B Q) pc (x_getfield nx ci f) := by
  intro k hk cu ls st H h
  subst hn
  unfold x_getfield at h
  split at h
  · obtain ⟨fs, e, h⟩ := h
    split at h
    · rename_i v hv
      refine Or.inl fun p e' R s m args below meth c QF C Hr locs lsr h1 h2 h3 h4 h5 => ?_
      exact va_get C.1 C.2.1 C.2.2.2.2.1 hin C.2.2.2.1 C.2.2.2.2.2.2.1.1 (h1.one e) 0 rfl hc f hf (C.2.2.2.2.1 _ hw) (fun _ z => by rwa [hT] at z) (by rw [hGetV_get]; exact hv) hd ((hk _ _ _ _ _ h).use C h1 h2 h3 h4 h5)
    · exact h.elim
  · exact h.elim
theorem ok_getfieldN {K : hK} {M : hM} {B : Nat × Nat} {Q : hPost} {pc nx ci f idx N : Nat} {C0 host : String} {T : u_T} (hc : vwCl[ci]? = some (C0, T, N)) (hin : ∀ w ∈ u_ws C0 T N, w ∈ hTb) (hf : f < N) (hT : (T f).1 = C0)
    (hw : Cond.fieldLinkNest M.1.cls idx C0 (T f).2.1 (T f).2.2.1 host ∈ tables_1) (hd : decode M.2.1 pc = .ok (.getfield idx, 3)) (hn : pc + 3 = nx) : hOk (hJ K M B Q) pc (x_getfield nx ci f) := by
  intro k hk cu ls st H h
  subst hn
  unfold x_getfield at h
  split at h
  · obtain ⟨fs, e, h⟩ := h
    split at h
    · rename_i v hv
      refine Or.inl fun p e' R s m args below meth c QF C Hr locs lsr h1 h2 h3 h4 h5 => ?_
      exact va_getN C.1 C.2.1 C.2.2.2.2.1 hin C.2.2.2.1 C.2.2.2.2.2.2.1.1 (h1.one e) 0 rfl hc f hf (C.nest hw rfl) (fun _ z => by rwa [hT] at z) (by rw [hGetV_get]; exact hv) hd ((hk _ _ _ _ _ h).use C h1 h2 h3 h4 h5)
    · exact h.elim
  · exact h.elim
def hFit : FieldType → Value → Prop
  | .int, .int _ => True
  | .boolean, .int x => x = 0 ∨ x = 1
  | .object _, .ref _ => True
  | .object _, .null => True
  | .array _, .ref _ => True
  | .array _, .null => True
  | _, _ => False
theorem hFit_ok {ty : FieldType} {v : Value} (h : hFit ty v) : narrow ty v = v ∧ fits ty v = true := by
  unfold hFit at h
  split at h
  · exact ⟨rfl, rfl⟩
  · rcases h with rfl | rfl <;> exact ⟨rfl, rfl⟩
  · exact ⟨rfl, rfl⟩
  · exact ⟨rfl, rfl⟩
  · exact ⟨rfl, rfl⟩
  · exact ⟨rfl, rfl⟩
  · exact h.elim
def x_putfield (nx ci f : Nat) (ty : FieldType) : hSem := fun k cu ls st H => match st with
  | v :: .ref a :: r => ∃ fs, H.2 a = some (.inr (ci, fs)) ∧ hFit ty v ∧ match hGetV fs f with
    | some _ => ∀ H', hUpd H a (.inr (ci, hSetV fs f v)) H' → k nx cu ls r H'
    | none => False
  | _ => False
/-- what the three kinds of putfield have in common -/
theorem hPut_core {K : hK} {s : State} {args : Array Value} {H : hAH} {Hr : Heap} {a ci f N : Nat} {fs : List Value} {v v0 : Value} {C0 own : String} {T : u_T} {ty0 : Nat → FieldType} (h1 : hHp K H Hr) (hts : ∀ w ∈ hTb, w.before args s = true) (hS : hStat K s) (e : H.2 a = some (.inr (ci, fs))) (hc : vwCl[ci]? = some (C0, T, N)) (hin : ∀ w ∈ u_ws C0 T N, w ∈ hTb) (hty : ∀ k, k < N → parseFieldDescriptor (T k).2.2.1 = some (ty0 k)) (hnm : ∀ a, a < N → ∀ b, b < N → a ≠ b → (T a).2.1 ≠ (T b).2.1) (hf : f < N) (hv : hGetV fs f = some v0) (hfit : hFit (ty0 f) v) :
    ∃ (cell : Cell) (cf fi : Nat) (kf : Class) (fd : Field) (cC : ClassId) (kC : Class), Hr[a]? = some cell ∧ cell.vm = .none ∧ s.fieldFound? (T f).1 (T f).2.1 (T f).2.2.1 = some (cf, kf, fi, fd) ∧ fd.isStatic = false ∧ fd.slot < cell.slots.size ∧ cell.cls = cC ∧ s.vm.findClass C0 = some cC ∧ s.vm.classes[cC]? = some kC ∧ kC.kind = .ordinary ∧ ∀ H1 : Heap, H1[a]? = some (cell.setSlot fd.slot v) → va_at K.2.1 vwCl (a, .inr (ci, hSetV fs f v)) H1 := by
  have hap := va_apart (own := own) hts hin ty0 hty hnm hS.1 hc
  obtain ⟨r, g1, cell, q1, q2, q3, q4⟩ := (h1.2.2 _ _ e).2
  have hr : r = (C0, T, N) := Option.some.inj (g1.symm.trans hc)
  subst hr
  obtain ⟨hSl, hfc, kC, hkC, hkind⟩ := hS.1.1 ci _ hc
  obtain ⟨cf, kf, fi, fd, hi, hsl⟩ := hSl f hf
  have hl : f < fs.length := by
    rw [← hGetV_get] at hv
    exact (List.getElem?_eq_some_iff.mp hv).1
  refine ⟨cell, cf, fi, kf, fd, _, kC, q1, q3, hi, (u_facts hfc hkC (u_lays hts hin hf) hi).1, by rw [hsl]; exact k2_hasslot (q4 f hf), q2, hfc, hkC, hkind, fun H1 e1 => ?_⟩
  rw [hsl] at e1
  rw [← hSetV_set]
  exact ⟨_, hc, t_OB.to (V := updV (vp_V fs) f v) ⟨_, e1, q2, q3, t_set q4 hap hf v⟩ (fun j _ => vp_updV_set hl v j)⟩
theorem ok_putfield {K : hK} {M : hM} {B : Nat × Nat} {Q : hPost} {pc nx ci f idx N : Nat} {C0 : String} {T : u_T} {ty : FieldType} {ty0 : Nat → FieldType} (hty : ∀ k, k < N → parseFieldDescriptor (T k).2.2.1 = some (ty0 k)) (hnm : ∀ a, a < N → ∀ b, b < N → a ≠ b → (T a).2.1 ≠ (T b).2.1) (ht : ty0 f = ty) (hc : vwCl[ci]? = some (C0, T, N)) (hin : ∀ w ∈ u_ws C0 T N, w ∈ hTb) (hf : f < N) (hT : (T f).1 = C0) (hfin : (T f).2.2.2 = false)
    (hw : Cond.fieldLink M.1.cls idx C0 (T f).2.1 (T f).2.2.1 ∈ hTb) (hd : decode M.2.1 pc = .ok (.putfield idx, 3)) (hn : pc + 3 = nx) : hOk (hJ K M B Q) pc (x_putfield nx ci f ty) := by
  intro k hk cu ls st H h
  subst hn; subst ht
  unfold x_putfield at h
  split at h
  · rename_i v a r
    obtain ⟨fs, e, hfit, h⟩ := h
    split at h
    · rename_i v0 hv
      refine Or.inl fun p e' R s m args below meth c QF C Hr locs lsr h1 h2 h3 h4 h5 => ?_
      obtain ⟨cell, cf, fi, kf, fd, cC, kC, a1, a2, a3, a4, a5, a6, a7, a8, a9, a10⟩ := hPut_core (own := M.1.cls) h1 C.2.2.2.2.1 C.2.2.2.2.2.2.1 e hc hin hty hnm hf hv hfit
      have hlay := C.2.2.2.2.1 _ (hin _ (u_in_lay hf))
      unfold u_lay at hlay
      rw [if_neg (by rw [hfin]; decide)] at hlay
      have h6 := u_store a7 a8 a9 hlay a3 (hty f hf) (hFit_ok hfit).1 (hFit_ok hfit).2
      refine W.putK C.1 C.2.1 (f := fd) ⟨C.2.2.2.1, C.2.2.2.2.1 _ hw, ⟨_, _, _, by rw [hT] at a3; exact a3⟩, a4⟩ (by rw [a6]; exact h6) a1 a2 a5 rfl rfl hd fun H1 e1 e2 e3 => ?_
      have u := hUpd.mk H a (.inr (ci, hSetV fs f v))
      exact (hk _ _ _ _ _ (h _ u)).use C (h1.put e u (a10 H1 e1) e2 e3) (h2.put e2 e3 (h1.2.2 _ _ e).1) h3 h4 h5
    · exact h.elim
  · exact h.elim
theorem ok_putfieldN {K : hK} {M : hM} {B : Nat × Nat} {Q : hPost} {pc nx ci f idx N : Nat} {C0 host : String} {T : u_T} {ty : FieldType} {ty0 : Nat → FieldType} (hty : ∀ k, k < N → parseFieldDescriptor (T k).2.2.1 = some (ty0 k)) (hnm : ∀ a, a < N → ∀ b, b < N → a ≠ b → (T a).2.1 ≠ (T b).2.1) (ht : ty0 f = ty) (hc : vwCl[ci]? = some (C0, T, N)) (hin : ∀ w ∈ u_ws C0 T N, w ∈ hTb) (hf : f < N) (hT : (T f).1 = C0) (hfin : (T f).2.2.2 = false)
    (hw : Cond.fieldLinkNest M.1.cls idx C0 (T f).2.1 (T f).2.2.1 host ∈ tables_1) (hd : decode M.2.1 pc = .ok (.putfield idx, 3)) (hn : pc + 3 = nx) : hOk (hJ K M B Q) pc (x_putfield nx ci f ty) := by
  intro k hk cu ls st H h
  subst hn; subst ht
  unfold x_putfield at h
  split at h
  · rename_i v a r
    obtain ⟨fs, e, hfit, h⟩ := h
    split at h
    · rename_i v0 hv
      refine Or.inl fun p e' R s m args below meth c QF C Hr locs lsr h1 h2 h3 h4 h5 => ?_
      obtain ⟨cell, cf, fi, kf, fd, cC, kC, a1, a2, a3, a4, a5, a6, a7, a8, a9, a10⟩ := hPut_core (own := M.1.cls) h1 C.2.2.2.2.1 C.2.2.2.2.2.2.1 e hc hin hty hnm hf hv hfit
      have hlay := C.2.2.2.2.1 _ (hin _ (u_in_lay hf))
      unfold u_lay at hlay
      rw [if_neg (by rw [hfin]; decide)] at hlay
      have h6 := u_store a7 a8 a9 hlay a3 (hty f hf) (hFit_ok hfit).1 (hFit_ok hfit).2
      refine va_WputK C.1 C.2.1 (f := fd) C.2.2.2.1 (C.nest hw rfl) (by rw [hT] at a3; exact a3) a4 (by rw [a6]; exact h6) a1 a2 a5 rfl rfl hd fun H1 e1 e2 e3 => ?_
      have u := hUpd.mk H a (.inr (ci, hSetV fs f v))
      exact (hk _ _ _ _ _ (h _ u)).use C (h1.put e u (a10 H1 e1) e2 e3) (h2.put e2 e3 (h1.2.2 _ _ e).1) h3 h4 h5
    · exact h.elim
  · exact h.elim
theorem ok_putfieldF {K : hK} {M : hM} {B : Nat × Nat} {Q : hPost} {pc nx ci f idx N : Nat} {C0 : String} {T : u_T} {ty : FieldType} {ty0 : Nat → FieldType} (hty : ∀ k, k < N → parseFieldDescriptor (T k).2.2.1 = some (ty0 k)) (hnm : ∀ a, a < N → ∀ b, b < N → a ≠ b → (T a).2.1 ≠ (T b).2.1) (ht : ty0 f = ty) (hc : vwCl[ci]? = some (C0, T, N)) (hin : ∀ w ∈ u_ws C0 T N, w ∈ hTb) (hf : f < N) (hT : (T f).1 = C0) (hfin : (T f).2.2.2 = true) (hown : M.1.cls = C0) (hini : M.1.name = "<init>")
    (hw : Cond.fieldLink M.1.cls idx C0 (T f).2.1 (T f).2.2.1 ∈ hTb) (hd : decode M.2.1 pc = .ok (.putfield idx, 3)) (hn : pc + 3 = nx) : hOk (hJ K M B Q) pc (x_putfield nx ci f ty) := by
  intro k hk cu ls st H h
  subst hn; subst ht
  unfold x_putfield at h
  split at h
  · rename_i v a r
    obtain ⟨fs, e, hfit, h⟩ := h
    split at h
    · rename_i v0 hv
      refine Or.inl fun p e' R s m args below meth c QF C Hr locs lsr h1 h2 h3 h4 h5 => ?_
      obtain ⟨cell, cf, fi, kf, fd, cC, kC, a1, a2, a3, a4, a5, a6, a7, a8, a9, a10⟩ := hPut_core (own := M.1.cls) h1 C.2.2.2.2.1 C.2.2.2.2.2.2.1 e hc hin hty hnm hf hv hfit
      have hlay := C.2.2.2.2.1 _ (hin _ (u_in_lay hf))
      unfold u_lay at hlay
      rw [if_pos hfin] at hlay
      have hcf : m.cls = cf := by
        obtain ⟨_, _, c', _, _, _, -, -, hf', -, -, -, hown2, -⟩ := Cond.laysFinal_spec hlay
        have e1 : c' = cf := by have := a3.symm.trans hf'; simp at this; exact this.1.symm
        rw [hT, ← hown] at hown2
        rw [← e1]; exact Option.some.inj (C.2.2.2.1.symm.trans hown2)
      have h6 := u_fits a7 a8 a9 (Or.inr hlay) a3 (hty f hf) (hFit_ok hfit).1 (hFit_ok hfit).2
      refine W.putFinK C.1 C.2.1 C.2.2.2.1 (C.2.2.2.2.1 _ hw) (by rw [hT] at a3; exact a3) a4 hcf (C.2.2.2.2.2.1 hini) (by rw [a6]; exact h6) a1 a2 a5 rfl rfl hd fun H1 e1 e2 e3 => ?_
      have u := hUpd.mk H a (.inr (ci, hSetV fs f v))
      exact (hk _ _ _ _ _ (h _ u)).use C (h1.put e u (a10 H1 e1) e2 e3) (h2.put e2 e3 (h1.2.2 _ _ e).1) h3 h4 h5
    · exact h.elim
  · exact h.elim
/-! arrays -/
def hIArr (K : hK) (H : hAH) (a n : Nat) (f : Nat → Int32) : Prop := H.2 a = some (hInts K 0 n f) ∨ K.2.2.2.2.2 a = some (n, f)
def x_iaload (K : hK) (nx : Nat) : hSem := fun k cu ls st H => match st with
  | .int i :: .ref a :: r => ∃ n f j, hIArr K H a n f ∧ i = nI j ∧ j < n ∧ n < 2147483648 ∧ k nx cu ls (.int (f j) :: r) H
  | _ => False
theorem ok_iaload {K : hK} {M : hM} {B : Nat × Nat} {Q : hPost} {pc nx : Nat} (hd : decode M.2.1 pc = .ok (.iaload, 1)) (hn : pc + 1 = nx) : hOk (hJ K M B Q) pc (x_iaload K nx) := by
  intro k hk cu ls st H h
  subst hn
  unfold x_iaload at h
  split at h
  · obtain ⟨n, f, j, ha, rfl, hj, hn, h⟩ := h
    refine Or.inl fun p e R s m args below meth c QF C Hr locs lsr h1 h2 h3 h4 h5 => ?_
    have hcl : (nI j).toNatClampNeg = j := nI_clamp (by omega)
    have kk := (hk _ _ _ _ _ h).use C h1 h2 h3 h4 h5
    rcases ha with ha | ha
    · refine va_iald C.1 C.2.1 C.2.2.2.2.2.2.1.1 (h1.one ha) 0 0 rfl rfl (vp_in_nI hj hn) hd ?_
      rw [hcl]
      exact kk
    · exact va_ti C.1 C.2.1 (C.2.2.2.2.2.2.2.1.1 _ _ _ ha) h2 (vp_in_nI hj hn) (by rw [hcl]) hd kk
  · exact h.elim
def x_caload (K : hK) (nx : Nat) : hSem := fun k cu ls st H => match st with
  | .int i :: .ref a :: r => ∃ n f j, H.2 a = some (hInts K 1 n f) ∧ i = nI j ∧ j < n ∧ n < 2147483648 ∧ k nx cu ls (.int (f j) :: r) H
  | _ => False
theorem ok_caload {K : hK} {M : hM} {B : Nat × Nat} {Q : hPost} {pc nx : Nat} (hd : decode M.2.1 pc = .ok (.caload, 1)) (hn : pc + 1 = nx) : hOk (hJ K M B Q) pc (x_caload K nx) := by
  intro k hk cu ls st H h
  subst hn
  unfold x_caload at h
  split at h
  · obtain ⟨n, f, j, ha, rfl, hj, hn, h⟩ := h
    refine Or.inl fun p e R s m args below meth c QF C Hr locs lsr h1 h2 h3 h4 h5 => ?_
    refine va_cald C.1 C.2.1 C.2.2.2.2.2.2.1.1 (h1.one ha) 0 1 rfl rfl (vp_in_nI hj hn) hd ?_
    rw [nI_clamp (show j < 2 ^ 31 by omega)]
    exact (hk _ _ _ _ _ h).use C h1 h2 h3 h4 h5
  · exact h.elim
def hTc : Nat → Nat
  | 3 => 0
  | _ => 4
def hTn : Nat → String
  | 3 => RX0
  | _ => RX4
def x_aaload (K : hK) (nx t : Nat) : hSem := fun k cu ls st H => match st with
  | .int i :: .ref a :: r => ∃ n f j x, H.2 a = some (hRefs K t n f) ∧ i = nI j ∧ j < n ∧ n < 2147483648 ∧ f j = x ∧ k nx cu ls (va_rf x :: r) H
  | _ => False
theorem ok_aaload {K : hK} {M : hM} {B : Nat × Nat} {Q : hPost} {pc nx t : Nat} (ht : t = 3 ∨ t = 4) (hd : decode M.2.1 pc = .ok (.aaload, 1)) (hn : pc + 1 = nx) : hOk (hJ K M B Q) pc (x_aaload K nx t) := by
  intro k hk cu ls st H h
  subst hn
  unfold x_aaload at h
  split at h
  · obtain ⟨n, f, j, x, ha, rfl, hj, hn, rfl, h⟩ := h
    refine Or.inl fun p e R s m args below meth c QF C Hr locs lsr h1 h2 h3 h4 h5 => ?_
    have kk := (hk _ _ _ _ _ h).use C h1 h2 h3 h4 h5
    rw [← nI_clamp (show j < 2 ^ 31 by omega)] at kk
    rcases ht with rfl | rfl
    · exact va_aldq C.1 C.2.1 C.2.2.2.2.2.2.1.1 (h1.one ha) 0 3 rfl rfl (vp_in_nI hj hn) hd kk
    · exact va_aldq C.1 C.2.1 C.2.2.2.2.2.2.1.1 (h1.one ha) 0 4 rfl rfl (vp_in_nI hj hn) hd kk
  · exact h.elim
theorem hArr_in {j n : Nat} {cA : ClassId} {f : Nat → Value} (hj : j < n) (hn : n < 2147483648) : ¬ (nI j < 0 ∨ (arrV cA n f).slots.size ≤ (nI j).toNatClampNeg) := by
  rw [arrV_size]
  exact vp_in_nI hj hn
theorem hCell_i (K : hK) (t n : Nat) (f : Nat → Int32) (j : Nat) (x y : Int32) (hy : y = x) : (arrV (K.2.2.1 t) n (fun q => .int (f q))).setSlot j (.int x) = arrV (K.2.2.1 t) n (fun q => .int (upd f j y q)) := by
  subst hy
  rw [arrV_store]
  congr 1
  funext q
  by_cases hq : q = j
  · subst hq; simp [updV, upd]
  · simp [updV, upd, hq]
def x_iastore (K : hK) (nx : Nat) : hSem := fun k cu ls st H => match st with
  | .int x :: .int i :: .ref a :: r => ∃ n f j, H.2 a = some (hInts K 0 n f) ∧ i = nI j ∧ j < n ∧ n < 2147483648 ∧ ∀ H', hUpd H a (hInts K 0 n (upd f j x)) H' → k nx cu ls r H'
  | _ => False
theorem ok_iastore {K : hK} {M : hM} {B : Nat × Nat} {Q : hPost} {pc nx : Nat} (hd : decode M.2.1 pc = .ok (.iastore, 1)) (hn : pc + 1 = nx) : hOk (hJ K M B Q) pc (x_iastore K nx) := by
  intro k hk cu ls st H h
  subst hn
  unfold x_iastore at h
  split at h
  · rename_i x _ a r
    obtain ⟨n, f, j, ha, rfl, hj, hn, h⟩ := h
    refine Or.inl fun p e R s m args below meth c QF C Hr locs lsr h1 h2 h3 h4 h5 => ?_
    refine W.iast C.1 C.2.1 (h1.2.2 _ _ ha).2 ((C.2.2.2.2.2.2.1.1.2 0 _ rfl).1 n (fun q => .int (f q))) (fun q => by cases q) (hArr_in hj hn) rfl rfl hd fun H1 e1 z oq => ?_
    rw [nI_clamp (show j < 2 ^ 31 by omega)] at e1 ⊢
    have u := hUpd.mk H a (hInts K 0 n (upd f j x))
    refine (hk _ _ _ _ _ (h _ u)).use C (h1.put ha u ?_ z oq) (h2.put z oq (h1.2.2 _ _ ha).1) h3 h4 h5
    exact e1.trans (congrArg some (hCell_i K 0 n f j x x rfl))
  · exact h.elim
def x_castore (K : hK) (nx : Nat) : hSem := fun k cu ls st H => match st with
  | .int x :: .int i :: .ref a :: r => ∃ n f j, H.2 a = some (hInts K 1 n f) ∧ i = nI j ∧ j < n ∧ n < 2147483648 ∧ ∀ H', hUpd H a (hInts K 1 n (upd f j (vp_nar .char x))) H' → k nx cu ls r H'
  | _ => False
theorem ok_castore {K : hK} {M : hM} {B : Nat × Nat} {Q : hPost} {pc nx : Nat} (hd : decode M.2.1 pc = .ok (.castore, 1)) (hn : pc + 1 = nx) : hOk (hJ K M B Q) pc (x_castore K nx) := by
  intro k hk cu ls st H h
  subst hn
  unfold x_castore at h
  split at h
  · rename_i x _ a r
    obtain ⟨n, f, j, ha, rfl, hj, hn, h⟩ := h
    refine Or.inl fun p e R s m args below meth c QF C Hr locs lsr h1 h2 h3 h4 h5 => ?_
    refine W.cast C.1 C.2.1 (h1.2.2 _ _ ha).2 ((C.2.2.2.2.2.2.1.1.2 1 _ rfl).1 n (fun q => .int (f q))) (fun q => by cases q) (hArr_in hj hn) rfl rfl hd fun H1 e1 z oq => ?_
    rw [nI_clamp (show j < 2 ^ 31 by omega)] at e1 ⊢
    have u := hUpd.mk H a (hInts K 1 n (upd f j (vp_nar .char x)))
    refine (hk _ _ _ _ _ (h _ u)).use C (h1.put ha u ?_ z oq) (h2.put z oq (h1.2.2 _ _ ha).1) h3 h4 h5
    exact e1.trans (congrArg some (hCell_i K 1 n f j _ _ rfl))
  · exact h.elim
def x_aastore (K : hK) (nx t : Nat) : hSem := fun k cu ls st H => match st with
  | .ref v :: .int i :: .ref a :: r => ∃ n f j vs, H.2 a = some (hRefs K t n f) ∧ H.2 v = some (.inr (hTc t, vs)) ∧ i = nI j ∧ j < n ∧ n < 2147483648 ∧ ∀ H', hUpd H a (hRefs K t n (va_up f j (some v))) H' → k nx cu ls r H'
  | _ => False
theorem ok_aastore {K : hK} {M : hM} {B : Nat × Nat} {Q : hPost} {pc nx t : Nat} (ht : t = 3 ∨ t = 4) (hd : decode M.2.1 pc = .ok (.aastore, 1)) (hn : pc + 1 = nx) : hOk (hJ K M B Q) pc (x_aastore K nx t) := by
  intro k hk cu ls st H h
  subst hn
  unfold x_aastore at h
  split at h
  · rename_i v _ a r
    obtain ⟨n, f, j, vs, ha, hv, rfl, hj, hn, h⟩ := h
    refine Or.inl fun p e R s m args below meth c QF C Hr locs lsr h1 h2 h3 h4 h5 => ?_
    have key : ∃ (ci : Nat) (r0 : vw_C), hTc t = ci ∧ vwCl[ci]? = some r0 ∧ (hTys K)[t]? = some (K.2.2.1 t, .object r0.1) := by
      rcases ht with rfl | rfl
      · exact ⟨0, _, rfl, rfl, rfl⟩
      · exact ⟨4, _, rfl, rfl, rfl⟩
    obtain ⟨ci, r0, hci, hc, hty⟩ := key
    rw [hci] at hv
    obtain ⟨r', hr', cellV, g1, g2, g3, -⟩ := (h1.2.2 _ _ hv).2
    have hK := C.2.2.2.2.2.2.1.1
    have hcls := (hK.1 ci r0 hc).2
    obtain ⟨kA, comp, k1, k2, k3, -⟩ := (hK.2 t _ hty).2
    have hcomp : comp = K.2.1.1 ci := Option.some.inj (k3.symm.trans hcls.1)
    subst hcomp
    obtain ⟨kC, hkC, -⟩ := hcls.2
    have hcl : (nI j).toNatClampNeg = j := nI_clamp (show j < 2 ^ 31 by omega)
    have hin := hArr_in (cA := K.2.2.1 t) (f := fun q => va_rf (f q)) hj hn
    refine W.aast C.1 C.2.1 (h1.2.2 _ _ ha).2 (fun q h => by cases h) (fun h => by cases h) k1 k2 rfl hkC ⟨fun q => hin (Or.inl q), Nat.not_le.mp fun q => hin (Or.inr q)⟩ g1 (fun q h => by rw [g3] at h; cases h) (by rw [g2]; exact hkC) (by rw [g2]; exact va_assign hcls) rfl rfl hd fun H1 e1 z oq => ?_
    rw [hcl] at e1 ⊢
    have u := hUpd.mk H a (hRefs K t n (va_up f j (some v)))
    refine (hk _ _ _ _ _ (h _ u)).use C (h1.put ha u ?_ z oq) (h2.put z oq (h1.2.2 _ _ ha).1) h3 h4 h5
    refine e1.trans (congrArg some ?_)
    show (vp_cell (K.2.2.1 t) (n, .inr (.inr (.inr (.inr f))))).setSlot j (.ref v) = vp_cell (K.2.2.1 t) (n, .inr (.inr (.inr (.inr (va_up f j (some v))))))
    rw [vp_cell_q, vp_cell_q, arrV_store]
    congr 1
    funext q
    by_cases hq : q = j
    · subst hq
      simp [updV, va_up, va_rf]
    · simp [updV, va_up, hq]
  · exact h.elim
def x_alen (K : hK) (nx : Nat) : hSem := fun k cu ls st H => match st with
  | .ref a :: r => ∃ n, ((∃ t c, t < 5 ∧ H.2 a = some (.inl (K.2.2.1 t, n, c))) ∨ ∃ f, K.2.2.2.2.2 a = some (n, f)) ∧ k nx cu ls (.int (nI n) :: r) H
  | _ => False
theorem ok_alen {K : hK} {M : hM} {B : Nat × Nat} {Q : hPost} {pc nx : Nat} (hd : decode M.2.1 pc = .ok (.arraylength, 1)) (hn : pc + 1 = nx) : hOk (hJ K M B Q) pc (x_alen K nx) := by
  intro k hk cu ls st H h
  subst hn
  unfold x_alen at h
  split at h
  · obtain ⟨n, ha, h⟩ := h
    refine Or.inl fun p e R s m args below meth c QF C Hr locs lsr h1 h2 h3 h4 h5 => ?_
    have kk := (hk _ _ _ _ _ h).use C h1 h2 h3 h4 h5
    rcases ha with ⟨t, c0, ht, ha⟩ | ⟨f, ha⟩
    · have hty : ∃ ty, (hTys K)[t]? = some (K.2.2.1 t, ty) := by
        match t, ht with
        | 0, _ => exact ⟨_, rfl⟩
        | 1, _ => exact ⟨_, rfl⟩
        | 2, _ => exact ⟨_, rfl⟩
        | 3, _ => exact ⟨_, rfl⟩
        | 4, _ => exact ⟨_, rfl⟩
      obtain ⟨ty, hty⟩ := hty
      exact va_alen C.1 C.2.1 C.2.2.2.2.2.2.1.1 (h1.one ha) 0 t rfl hty rfl hd kk
    · exact va_tlen C.1 C.2.1 (C.2.2.2.2.2.2.2.1.1 _ _ _ ha) h2 rfl hd kk
  · exact h.elim
def x_getstatic (K : hK) (nx i : Nat) : hSem := fun k cu ls st H => k nx cu ls (.ref (K.2.2.2.2.1 i) :: st) H
theorem ok_getstatic {K : hK} {M : hM} {B : Nat × Nat} {Q : hPost} {pc nx i idx : Nat} (hi : i < 3) (hw : Cond.fieldLink M.1.cls idx RX5 (hStn i) "[I" ∈ hTb) (hd : decode M.2.1 pc = .ok (.getstatic idx, 3)) (hn : pc + 3 = nx) : hOk (hJ K M B Q) pc (x_getstatic K nx i) := by
  intro k hk cu ls st H h
  subst hn
  refine Or.inl fun p e R s m args below meth c QF C Hr locs lsr h1 h2 h3 h4 h5 => ?_
  exact va_gets C.1 C.2.1 (C.2.2.2.2.2.2.2.1.2 i hi) h2 C.2.2.2.1 (C.2.2.2.2.1 _ hw) (fun _ z => z) hd ((hk _ _ _ _ _ h).use C h1 h2 h3 h4 h5)
theorem ok_getstaticN {K : hK} {M : hM} {B : Nat × Nat} {Q : hPost} {pc nx i idx : Nat} {host : String} (hi : i < 3) (hw : Cond.fieldLinkNest M.1.cls idx RX5 (hStn i) "[I" host ∈ tables_1) (hd : decode M.2.1 pc = .ok (.getstatic idx, 3)) (hn : pc + 3 = nx) : hOk (hJ K M B Q) pc (x_getstatic K nx i) := by
  intro k hk cu ls st H h
  subst hn
  refine Or.inl fun p e R s m args below meth c QF C Hr locs lsr h1 h2 h3 h4 h5 => ?_
  exact va_getsN C.1 C.2.1 (C.2.2.2.2.2.2.2.1.2 i hi) h2 C.2.2.2.1 (C.nest hw rfl) (fun _ z => z) hd ((hk _ _ _ _ _ h).use C h1 h2 h3 h4 h5)
