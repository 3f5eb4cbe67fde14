/-! THE CLAIM OUT OF ONE WALK OF THE LAW'S BODY. Your part is whole_start (and what it stands on); all else here is the same for every law, but numbers. -/
def R_law : String := "StablePartyLaw"
def lw_P (b : Addr) (xs : List Int32) (args : Array Value) (s : State) : Prop := args = #[.ref b] ∧ s.IntsAt b xs ∧ xs.length ≤ 260 ∧ (Jvm.Cond.and given_1 narrow_1).before args s = true
def lw_Q (_ : Array Value) (s : State) (o : Outcome) (t : State) : Prop := o = .returned (some (.int 1)) ∧ Framed s o t [] 600000 7302249
def lw_Z (below : List Frame) (a : Array Value) (s : State) : State → Prop := fun t => ∃ o, t.status = .running ∧ Ended t below o ∧ lw_Q a s o t
/-- the law's own end, with 1 on the stack, nothing written that was there before, its room as the claim has it -/
theorem lw_ret {p : Program} {l : Launch} {e : Env} {s : State} {m : MethodId} {below : List Frame} {meth : Method} {c : Code} {b : Nat} (hx : p.tables.exec = Jvm.exec) (hb : c.code = code) (hr : meth.sig.returnType = ret) (hlocks : meth.locks = false) {pc : Nat} {H : Heap} {ls : Array Slot} (hdg : decode code pc = .ok (.ireturn, 1)) : W p l e room_1 s m #[Value.ref b] below meth c H [] 600000 7302249 (lw_Z below #[Value.ref b] s) (F0 m pc ls [.int 1]) := by
  intro T hT X
  obtain ⟨fs, hret, hrun, hended, hW, hframe⟩ := X.leave (v := some (.int 1)) (hlocks := hlocks) (fun h => by rw [hr] at h; cases h)
  have hmeth' : T.vm.method? m = some meth := X.method'
  refine ⟨T.setFrames fs, ?_, .returned (some (.int 1)), hrun, hended, rfl, ⟨_, rfl⟩, hW, hframe⟩
  jvm_step X.here [X.here.top, hx, hb, hdg, hmeth', hr, ret, narrow_b1]
  (try refine ⟨rfl, ?_⟩); (try refine ⟨rfl, ?_⟩)
  first | (intro acts; rw [hret _ acts rfl rfl rfl]) | rw [hret _ _ rfl rfl rfl]
  exact Steps.refl _
/-- what holds at the law's entry: the machine, the code, the tables' words (any of lw_tbl by 'hts w (by decide +kernel)'), the script of L ints xs at the cell b, what the Statement gives of the start (any of its parts by flat_of_before) -/
def lw_At (p : Program) (s : State) (m : MethodId) (meth : Method) (c : Code) (b L : Nat) (xs : Nat → Int32) : Prop :=
  p.tables.exec = Jvm.exec ∧ c.code = code ∧ meth.sig.returnType = ret ∧ c.maxLocals = 6 ∧ s.vm.findClass R_law = some m.cls ∧ (∀ w ∈ lw_tbl, w.before #[Value.ref b] s = true) ∧ va_X b L xs s s.heap ∧ b < s.heap.size ∧ meth.locks = false ∧ (Jvm.Cond.and given_1 narrow_1).before #[Value.ref b] s = true
theorem t_same {t n n' : Nat} {f g : Nat → Int32} {A : Nat → Prop} {U : State} {H : Heap} (h1 : va_T .int t n (fun j => .int (f j)) A U H) (h2 : va_T .int t n' (fun j => .int (g j)) A U H) (hn : 0 < n) (hn' : 0 < n') : f 0 = g 0 := by
  obtain ⟨c1, a1, -, -, -, -, b1, -⟩ := h1
  obtain ⟨c2, a2, -, -, -, -, b2, -⟩ := h2
  cases a1.symm.trans a2
  have := (b1 0 hn).symm.trans (b2 0 hn')
  exact Value.int.inj (Option.some.inj this)
theorem arr_prim {s : State} {args : Array Value} {ty : FieldType} (h : (Cond.arrayClass ty).before args s = true) : ∃ cA : ClassId, ArrOfT s cA ty ∧ s.vm.findClass ("[" ++ ty.toString) = some cA := by
  obtain ⟨cA, k, comp, h1, h2, h3⟩ := Cond.arrayClass_spec h
  exact ⟨cA, fun n z => ⟨(fun k h => by cases h), k, h2, comp, h3⟩, h1⟩
theorem arr_obj {s : State} {args : Array Value} {C : String} (h : (Cond.arrayOver (.object C)).before args s = true) : ∃ cA : ClassId, ArrOfT s cA (.object C) ∧ va_RA s cA (.object C) := by
  obtain ⟨comp, cA, k, h1, h2, h3, h4, h5⟩ := Cond.arrayOver_spec h
  exact ⟨cA, fun n z => ⟨(fun k h => by cases h), k, h3, comp, h4⟩, k, comp, h3, h4, h1, h5⟩
/-- a static row of five numbers -/
theorem t_five {s : State} {b : Nat} {n : String} {f : Nat → Int32} {A : Nat → Prop} (hA : ∀ a : Nat, a < s.heap.size → ¬ A a) (harr : (Cond.arrayOf (.static RX5 n "[I") .int).before #[Value.ref b] s = true) (hlen : (Cond.eq (.length (.static RX5 n "[I")) (.int 5)).before #[Value.ref b] s = true)
    (h0 : (Cond.eq (.elem (.static RX5 n "[I") (.int 0)) (.int (f 0))).before #[Value.ref b] s = true) (h1 : (Cond.eq (.elem (.static RX5 n "[I") (.int 1)) (.int (f 1))).before #[Value.ref b] s = true) (h2 : (Cond.eq (.elem (.static RX5 n "[I") (.int 2)) (.int (f 2))).before #[Value.ref b] s = true) (h3 : (Cond.eq (.elem (.static RX5 n "[I") (.int 3)) (.int (f 3))).before #[Value.ref b] s = true) (h4 : (Cond.eq (.elem (.static RX5 n "[I") (.int 4)) (.int (f 4))).before #[Value.ref b] s = true)
    (hl : (Cond.laysStatic RX5 n "[I").before #[Value.ref b] s = true) (hi : (Cond.initialized RX5).before #[Value.ref b] s = true) : ∃ t : Nat, va_Z RX5 n "[I" (.ref t) A s s.heap ∧ va_T .int t 5 (fun j => .int (f j)) A s s.heap := by
  obtain ⟨t, ht, hT⟩ := va_Tof (tm := .static RX5 n "[I") (N := 5) (f := fun j => .int (f j)) (A := A) (by decide) harr (va_eqt hlen) (fun j hj => by
    match j, hj with
    | 0, _ => exact va_eqt h0
    | 1, _ => exact va_eqt h1
    | 2, _ => exact va_eqt h2
    | 3, _ => exact va_eqt h3
    | 4, _ => exact va_eqt h4) hA
  exact ⟨t, va_Zref hl hi ht hA, hT⟩
def roM (t0 t1 t2 b L : Nat) (xs : Nat → Int32) : Nat → Option (Nat × (Nat → Int32)) := fun t => if t = t0 then some (5, setFi) else if t = t1 then some (5, setLo) else if t = t2 then some (5, setHi) else if t = b then some (L, xs) else none
theorem whole_start {p : Program} {e : Env} {s : State} {m : MethodId} {below : List Frame} {meth : Method} {c : Code} (l : Launch) (hflags : l.flags = flags0) {b L : Nat} {xs : Nat → Int32} (hL : L ≤ 260) (C0 : lw_At p s m meth c b L xs) : W p l e room_1 s m #[Value.ref b] below meth c s.heap [] 0 0 (lw_Z below #[Value.ref b] s) (entryFrame m ([Value.ref b] : List Value).toArray 6) := by
  obtain ⟨hx, hb, hr, hml, hown, hts, hX, hbl, hlocks, hgv⟩ := id C0
  have htb : ∀ w ∈ hTb, w.before #[Value.ref b] s = true := fun w hw => hts w (hTb_sub w hw)
  have hs := flat_of_before _ hgv
  have hq : ∀ {w : Cond} (i : Nat), tables_1[i]? = some w → w.before #[Value.ref b] s = true := fun i hi => hts _ (List.mem_append_right _ (List.mem_of_getElem? hi))
  have hA : ∀ a : Nat, a < s.heap.size → ¬ (fun q : Nat => s.heap.size ≤ q) a := fun a ha => Nat.not_le.mpr ha
  obtain ⟨c0, i0, k0⟩ := u_known (C := RX0) (T := TX0) (N := 10) (n := 10) htb inTb0 (hq 24 (by decide +kernel))
  obtain ⟨c1, i1, k1⟩ := u_known (C := RX1) (T := TX1) (N := 2) (n := 2) htb inTb1 (hq 116 (by decide +kernel))
  obtain ⟨c2, i2, k2⟩ := u_known (C := RX2) (T := TX2) (N := 7) (n := 7) htb inTb2 (hq 133 (by decide +kernel))
  obtain ⟨c3, i3, k3⟩ := u_known (C := RX3) (T := TX3) (N := 7) (n := 7) htb inTb3 (hq 166 (by decide +kernel))
  obtain ⟨c4, i4, k4⟩ := u_known (C := RX4) (T := TX4) (N := 10) (n := 10) htb inTb4 (hq 17 (by decide +kernel))
  obtain ⟨c5, i5, k5⟩ := u_known (C := RX5) (T := TX5) (N := 8) (n := 8) htb inTb5 (hq 9 (by decide +kernel))
  obtain ⟨dC, dI, hKc⟩ : ∃ (dC : Nat → ClassId) (dI : Nat → Nat → Nat), ∀ (k : Nat) (q : vw_C), vwCl[k]? = some q → u_Kn s q.1 q.2.1 q.2.2 (dC k) (dI k) := by
    refine ⟨fun k => match k with
      | 0 => c0
      | 1 => c1
      | 2 => c2
      | 3 => c3
      | 4 => c4
      | _ => c5, fun k => match k with
      | 0 => i0
      | 1 => i1
      | 2 => i2
      | 3 => i3
      | 4 => i4
      | _ => i5, ?_⟩
    intro k q hk
    match k, hk with
    | 0, hk => cases hk; exact k0
    | 1, hk => cases hk; exact k1
    | 2, hk => cases hk; exact k2
    | 3, hk => cases hk; exact k3
    | 4, hk => cases hk; exact k4
    | 5, hk => cases hk; exact k5
    | k + 6, hk => simp [vwCl] at hk
  obtain ⟨a0, r0, n0⟩ := arr_prim (ty := .int) (hq 73 (by decide +kernel))
  obtain ⟨a1, r1, n1⟩ := arr_prim (ty := .char) (hq 164 (by decide +kernel))
  obtain ⟨a3, r3, n3⟩ := arr_obj (C := RX0) (hq 23 (by decide +kernel))
  obtain ⟨a4, r4, n4⟩ := arr_obj (C := RX4) (hq 122 (by decide +kernel))
  obtain ⟨t0, z0, T0⟩ := t_five (n := "FIRST_SETTINGS") (f := setFi) hA (hs _ (by decide +kernel)) (hs _ (by decide +kernel)) (hs _ (by decide +kernel)) (hs _ (by decide +kernel)) (hs _ (by decide +kernel)) (hs _ (by decide +kernel)) (hs _ (by decide +kernel)) (hq 75 (by decide +kernel)) (hq 1 (by decide +kernel))
  obtain ⟨t1, z1, T1⟩ := t_five (n := "LEAST_SETTINGS") (f := setLo) hA (hs _ (by decide +kernel)) (hs _ (by decide +kernel)) (hs _ (by decide +kernel)) (hs _ (by decide +kernel)) (hs _ (by decide +kernel)) (hs _ (by decide +kernel)) (hs _ (by decide +kernel)) (hq 271 (by decide +kernel)) (hq 1 (by decide +kernel))
  obtain ⟨t2, z2, T2⟩ := t_five (n := "MOST_SETTINGS") (f := setHi) hA (hs _ (by decide +kernel)) (hs _ (by decide +kernel)) (hs _ (by decide +kernel)) (hs _ (by decide +kernel)) (hs _ (by decide +kernel)) (hs _ (by decide +kernel)) (hs _ (by decide +kernel)) (hq 273 (by decide +kernel)) (hq 1 (by decide +kernel))
  have TX : va_T .int b L (fun j => .int (xs j)) (fun q : Nat => s.heap.size ≤ q) s s.heap := by
    obtain ⟨scr, h1, h2, h3, h4, h5⟩ := hX
    exact ⟨scr, h1, h2, h3, Nat.le_of_eq h4.symm, by rw [h4], h5, hA b hbl⟩
  have ne10 : t1 ≠ t0 := fun q => by
    subst q
    have := t_same T1 T0 (by decide) (by decide)
    exact absurd this (by decide)
  have ne20 : t2 ≠ t0 := fun q => by
    subst q
    have := t_same T2 T0 (by decide) (by decide)
    exact absurd this (by decide)
  have ne21 : t2 ≠ t1 := fun q => by
    subst q
    have := t_same T2 T1 (by decide) (by decide)
    exact absurd this (by decide)
  let K : hK := (l, (dC, dI), (fun t => match t with
    | 0 => a0
    | 1 => a1
    | 2 => a0
    | 3 => a3
    | _ => a4), s.heap.size, (fun i => match i with
    | 0 => t0
    | 1 => t1
    | _ => t2), roM t0 t1 t2 b L xs)
  have eF : hSetF K := if_pos rfl
  have e1 : hSetK K := by
    refine ⟨?_, ?_⟩
    · show roM t0 t1 t2 b L xs t1 = _
      unfold roM
      rw [if_neg ne10, if_pos rfl]
    · show roM t0 t1 t2 b L xs t2 = _
      unfold roM
      rw [if_neg ne20, if_neg ne21, if_pos rfl]
  obtain ⟨L', xs', eX, hL'⟩ : ∃ L' xs', K.2.2.2.2.2 b = some (L', xs') ∧ L' ≤ 260 := by
    show ∃ L' xs', roM t0 t1 t2 b L xs b = some (L', xs') ∧ L' ≤ 260
    unfold roM
    by_cases q0 : b = t0
    · rw [if_pos q0]; exact ⟨_, _, rfl, by decide⟩
    · rw [if_neg q0]
      by_cases q1 : b = t1
      · rw [if_pos q1]; exact ⟨_, _, rfl, by decide⟩
      · rw [if_neg q1]
        by_cases q2 : b = t2
        · rw [if_pos q2]; exact ⟨_, _, rfl, by decide⟩
        · rw [if_neg q2, if_pos rfl]; exact ⟨_, _, rfl, hL⟩
  have hSt : hStat K s := by
    refine ⟨⟨hKc, fun k q hk => ?_⟩, fun w hw hn => ?_, va_AO.of (hq 23 (by decide +kernel)), va_AO.of (hq 122 (by decide +kernel))⟩
    · match k, hk with
      | 0, hk => cases hk; exact ⟨r0, n0⟩
      | 1, hk => cases hk; exact ⟨r1, n1⟩
      | 2, hk => cases hk; exact ⟨r0, n0⟩
      | 3, hk => cases hk; exact ⟨r3, n3⟩
      | 4, hk => cases hk; exact ⟨r4, n4⟩
      | k + 5, hk => simp [hTys] at hk
    · have hw' := hts w (List.mem_append_right _ hw)
      cases w with
      | fieldLinkNest => exact va_Nw.of rfl hw'
      | methodLinkNest => exact va_Nw.of rfl hw'
      | _ => cases hn
  have hR : hRo K s s.heap := by
    refine ⟨fun t n f ht => ?_, fun i hi => ?_⟩
    · have ht : roM t0 t1 t2 b L xs t = some (n, f) := ht
      unfold roM at ht
      by_cases q0 : t = t0
      · rw [if_pos q0] at ht
        cases ht
        subst q0
        exact T0
      · rw [if_neg q0] at ht
        by_cases q1 : t = t1
        · rw [if_pos q1] at ht
          cases ht
          subst q1
          exact T1
        · rw [if_neg q1] at ht
          by_cases q2 : t = t2
          · rw [if_pos q2] at ht
            cases ht
            subst q2
            exact T2
          · rw [if_neg q2] at ht
            by_cases q3 : t = b
            · rw [if_pos q3] at ht
              cases ht
              subst q3
              exact TX
            · rw [if_neg q3] at ht
              cases ht
    · match i, hi with
      | 0, _ => exact z0
      | 1, _ => exact z1
      | 2, _ => exact z2
  have hJ0 := l_body (K := K) (H := (s.heap.size, fun _ => none)) eX eF e1 hL'
  have hl := lv_entry ([.ref b]) (n := 6) (Nat.le_of_ble_eq_true rfl)
  rw [lg_entry_eq]
  refine hJ0.use (p := p) (e := e) (R := room_1) (s := s) (m := m) (args := #[Value.ref b]) (below := below) (meth := meth) (c := c) (QF := lw_Z below #[Value.ref b] s) ⟨hx, hb, hml, hown, htb, fun q => absurd q (by decide), hSt, hR, Nat.le_refl _, ⟨Nat.le_refl _, Nat.le_refl _, Nat.le_refl _, Nat.le_refl _⟩, ?_⟩ ⟨rfl, Nat.le_refl _, fun a c hc => by cases hc⟩ va_S.rf ⟨hl.1, hl.2.1, fun i v hi => ?_⟩ (Nat.zero_le _) (Nat.zero_le _)
  · intro r H' cu Hr locs lsr pc ins st hI hd g1 g2 hq' u1 u2
    rw [hb] at hd
    rcases hI with ⟨rfl, -, -, -⟩ | ⟨v, ty, rfl, rfl, rfl, -, -⟩ | ⟨v, cn, -, -, -, hz, -⟩
    · cases hq'
    · have hv : v = 1 := Value.int.inj (Option.some.inj hq')
      subst hv
      refine W.widen (k := 600000) (n := 7302249) u1 u2 (va_forget (fun q hq => g2.2.2 q hq) (lw_ret hx hb hr hlocks hd))
    · cases hz
  · obtain ⟨k1, k2⟩ := hEnt_get [.ref b] 6 0 i v (fun w hw => by simp at hw; subst hw; rfl) hi
    rw [Nat.zero_add] at k1
    exact ⟨hl.2.2 _ k1, k2⟩
set_option maxHeartbeats 4000000 in
theorem lw_walk (l : Launch) (hflags : l.flags = flags0) (b : Addr) (xs : List Int32) : MetFree l x (headSpec (Jvm.Cond.code x code maxLocals ret :: tables_1) room_1) (lw_P b xs) (fun _ _ _ _ _ => True) lw_Q := by
  refine MetFree.of_bodyS (code := code) (maxLocals := maxLocals) (ret := ret) (by decide) ?_ ?_
  · intro args s m h hn
    obtain ⟨meth, c, h1, h2, h3, h4, h5, h6, -, -⟩ := Cond.code_spec hn (atoms_spec (ws := Jvm.Cond.code x code maxLocals ret :: tables_1) h _ List.mem_cons_self)
    exact ⟨meth, c, h1, h2, h3, h4, h5, h6⟩
  · intro p e s m args below meth c s₁ B hml0 hP _
    obtain ⟨rfl, hx, hbd, hgv⟩ := hP
    obtain ⟨scr, harrAt, hlist, hof, hsmall⟩ := hx
    obtain ⟨hcb, hkn, -, -⟩ := State.arrayAt?_spec harrAt
    have hown : s.vm.findClass R_law = some m.cls := findClass_of_methodNamed B.named
    have hts0 : ∀ c ∈ (Jvm.Cond.code x code maxLocals ret :: tables_1), c.before #[Value.ref b] s = true := atoms_spec (ws := Jvm.Cond.code x code maxLocals ret :: tables_1) B.pre
    have hts : ∀ w ∈ lw_tbl, w.before #[Value.ref b] s = true := k2_hts_sels lw_privs (fun w hw => hts0 w (List.mem_cons_of_mem _ hw)) lw_privs_ok
    have hml : c.maxLocals = 6 := B.maxLocals_eq (hts0 _ List.mem_cons_self)
    have X₀ : Stand p l e room_1 s m #[Value.ref b] below meth c s₁ [] 0 0 := Stand.of_body B
    have hh0 : s₁.heap = s.heap := by rw [B.state]; rfl
    have hsz : scr.slots.size = xs.length := by rw [← Array.length_toList, hlist, List.length_map]
    have hval : ∀ j : Nat, j < xs.length → scr.slots[j]? = some (.int (xs.getD j 0)) := fun j hj => by
      rw [← Array.getElem?_toList, hlist]
      simp [hj]
    have hbl : b < s.heap.size := (Array.getElem?_eq_some_iff.mp hcb).1
    have hX : va_X b xs.length (fun j => xs.getD j 0) s s.heap := ⟨scr, hcb, hof, hkn, hsz, hval⟩
    have K : W p l e room_1 s m #[Value.ref b] below meth c s₁.heap [] 0 0 (lw_Z below #[Value.ref b] s) (entryFrame m ([Value.ref b] : List Value).toArray 6) := by
      rw [hh0]
      exact whole_start l hflags hbd ⟨B.exec, B.bytes, B.returns, hml, hown, hts, hX, hbl, B.notSynchronized, hgv⟩
    obtain ⟨t, a1, o, b1, b2, b3⟩ := K s₁ rfl X₀
    exact ⟨t, o, a1, b1, b2, b3⟩
theorem lw_pre_spec {args : Array Value} {s : State} (h : (Jvm.Cond.and given_1 narrow_1).before args s = true) (hr : rest_1_c.before args s = true) : ∃ (b : Addr) (xs : List Int32), lw_P b xs args s := by
  have hs := flat_of_before _ h
  have hq := flat_of_before _ hr
  have hc : (Cond.count 1).before args s = true := hs _ (by decide +kernel)
  have harr : (Cond.arrayOf (.arg 0) .int).before args s = true := hs _ (by decide +kernel)
  have hle : (Cond.le (.length (.arg 0)) (.int 260)).before args s = true := hs _ (by decide +kernel)
  have hlen : (Cond.isInt (.length (.arg 0))).before args s = true := hq _ (by decide +kernel)
  have hall : (Cond.all (.arg 0) (.isInt (.elem (.arg 0) (.index 0)))).before args s = true := hq _ (by decide +kernel)
  obtain ⟨b, xs, hb, hx⟩ := State.ints_of_pre rfl harr hlen hall
  have hsm : xs.length < 2 ^ 31 := hx.choose_spec.2.2.2
  have hev : (Term.length (.arg 0)).eval args s none [] s = some (.int xs.length.toInt32) := hx.length_eval hb
  have hv := Cond.le_ints hev (show (Term.int 260).eval args s none [] s = some (.int 260) from rfl)
  have hd : xs.length.toInt32 ≤ 260 := by
    simpa [Cond.before, Cond.holds, hv] using hle
  have hN : xs.length ≤ 260 := (Int32.ofNat_le_ofNat hsm (by decide)).mp (show Int32.ofNat xs.length ≤ Int32.ofNat 260 from hd)
  exact ⟨b, xs, Cond.one_arg hc (show args[0]? = some (.ref b) from hb), hx, hN, h⟩
theorem lw_comes (l : Launch) (hflags : l.flags = flags0) : Comes l x (Jvm.Cond.code x code maxLocals ret :: tables_1) room_1 (fun tb e args s => Calls_1 tb e args s ∧ rest_1 tb e args s ∧ Pre_1 tb e args s)
    (fun _ _ args s o t => lw_Q args s o t) := by
  intro p e ha hc hk s m args below hf hfit hheap happ hpre
  obtain ⟨b, xs, hP⟩ := lw_pre_spec hpre.2.2 hpre.2.1
  obtain ⟨k, o, h1, h2, h3, hQ⟩ := lw_walk l hflags b xs p e ha hc hk s m args below hf ((Spec.applies_iff_loose hf).mp happ).1 hP trivial
  exact ⟨k, o, h1, h2, h3, hQ⟩
theorem lw_frame {s t : State} {o : Outcome} {args : Array Value} (h : Framed s o t [] 600000 7302249) :
    Framed s o t (fieldLocs frame_1_writes args s ++ arrayLocs frame_1_arrays args s ++ staticLocs frame_1_statics s) 600000 7302249 := h
theorem lw_limb (L : Cond) (hL : ∀ (args : Array Value) (s t : State), L.after args s (.returned (some (.int 1))) t = true) :
    ArmFor flags0 classFile x code maxLocals ret World_1 tables_1 room_1 Calls_1 rest_1 Pre_1
      (fun tb e a s o t => postC L tb e a s o t ∧ Framed s o t (fieldLocs frame_1_writes a s ++ arrayLocs frame_1_arrays a s ++ staticLocs frame_1_statics s) 600000 7302249) := by
  intro l hflags _ _ p e ha hc hk s m args below hf hfit hheap happ hpre
  obtain ⟨k, o, h1, h2, h3, rfl, hF⟩ := lw_comes l hflags p e ha hc hk s m args below hf hfit hheap happ hpre
  exact ⟨k, _, h1, h2, h3, hL args s _, lw_frame hF⟩
