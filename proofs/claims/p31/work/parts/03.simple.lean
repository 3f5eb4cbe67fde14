def x_const (nx : Nat) (v : Int32) : hSem := fun k cu ls st H => k nx cu ls (.int v :: st) H
theorem ok_iconst {K : hK} {M : hM} {B : Nat × Nat} {Q : hPost} {pc nx : Nat} {n : Int} {v : Int32} (hv : Int32.ofInt n = v) (hd : decode M.2.1 pc = .ok (.iconst n, 1)) (hn : pc + 1 = nx) : hOk (hJ K M B Q) pc (x_const nx v) := by
  intro k hk cu ls st H h
  subst hn
  refine Or.inl fun p e R s m args below meth c QF C Hr locs lsr h1 h2 h3 h4 h5 => ?_
  exact lv_iconst C.1 C.2.1 hd hv ((hk _ _ _ _ _ h).use C h1 h2 h3 h4 h5)
theorem ok_bipush {K : hK} {M : hM} {B : Nat × Nat} {Q : hPost} {pc nx : Nat} {n : Int} {v : Int32} (hv : (Int8.ofInt n).toInt32 = v) (hd : decode M.2.1 pc = .ok (.bipush n, 2)) (hn : pc + 2 = nx) : hOk (hJ K M B Q) pc (x_const nx v) := by
  intro k hk cu ls st H h
  subst hn
  refine Or.inl fun p e R s m args below meth c QF C Hr locs lsr h1 h2 h3 h4 h5 => ?_
  exact lv_bipush C.1 C.2.1 hd hv ((hk _ _ _ _ _ h).use C h1 h2 h3 h4 h5)
theorem ok_sipush {K : hK} {M : hM} {B : Nat × Nat} {Q : hPost} {pc nx : Nat} {n : Int} {v : Int32} (hv : (Int16.ofInt n).toInt32 = v) (hd : decode M.2.1 pc = .ok (.sipush n, 3)) (hn : pc + 3 = nx) : hOk (hJ K M B Q) pc (x_const nx v) := by
  intro k hk cu ls st H h
  subst hn
  refine Or.inl fun p e R s m args below meth c QF C Hr locs lsr h1 h2 h3 h4 h5 => ?_
  exact lv_sipush C.1 C.2.1 hd hv ((hk _ _ _ _ _ h).use C h1 h2 h3 h4 h5)
theorem ok_ldc {K : hK} {M : hM} {B : Nat × Nat} {Q : hPost} {pc nx : Nat} {i : Nat} {v : Int32} (hw : Cond.constant M.1.cls i v ∈ hTb) (hd : decode M.2.1 pc = .ok (.ldc i, 2)) (hn : pc + 2 = nx) : hOk (hJ K M B Q) pc (x_const nx v) := by
  intro k hk cu ls st H h
  subst hn
  refine Or.inl fun p e R s m args below meth c QF C Hr locs lsr h1 h2 h3 h4 h5 => ?_
  exact lv_ldc C.1 C.2.1 C.2.2.2.1 (C.2.2.2.2.1 _ hw) hd ((hk _ _ _ _ _ h).use C h1 h2 h3 h4 h5)
theorem ok_ldcw {K : hK} {M : hM} {B : Nat × Nat} {Q : hPost} {pc nx : Nat} {i : Nat} {v : Int32} (hw : Cond.constant M.1.cls i v ∈ hTb) (hd : decode M.2.1 pc = .ok (.ldc_w i, 3)) (hn : pc + 3 = nx) : hOk (hJ K M B Q) pc (x_const nx v) := by
  intro k hk cu ls st H h
  subst hn
  refine Or.inl fun p e R s m args below meth c QF C Hr locs lsr h1 h2 h3 h4 h5 => ?_
  exact lv_ldcw C.1 C.2.1 C.2.2.2.1 (C.2.2.2.2.1 _ hw) hd ((hk _ _ _ _ _ h).use C h1 h2 h3 h4 h5)
def x_null (nx : Nat) : hSem := fun k cu ls st H => k nx cu ls (.null :: st) H
theorem ok_null {K : hK} {M : hM} {B : Nat × Nat} {Q : hPost} {pc nx : Nat} (hd : decode M.2.1 pc = .ok (.aconst_null, 1)) (hn : pc + 1 = nx) : hOk (hJ K M B Q) pc (x_null nx) := by
  intro k hk cu ls st H h
  subst hn
  refine Or.inl fun p e R s m args below meth c QF C Hr locs lsr h1 h2 h3 h4 h5 => ?_
  exact lv_null C.1 C.2.1 hd ((hk _ _ _ _ _ h).use C h1 h2 h3 h4 h5)
def x_iload (nx i : Nat) : hSem := fun k cu ls st H => match hGetL ls i with
  | some (.int x) => k nx cu ls (.int x :: st) H
  | _ => False
theorem ok_iload {K : hK} {M : hM} {B : Nat × Nat} {Q : hPost} {pc nx : Nat} {i : Nat} (hd : decode M.2.1 pc = .ok (.iload i, 2)) (hn : pc + 2 = nx) : hOk (hJ K M B Q) pc (x_iload nx i) := by
  intro k hk cu ls st H h
  subst hn
  unfold x_iload at h
  split at h
  · rename_i x hg
    refine Or.inl fun p e R s m args below meth c QF C Hr locs lsr h1 h2 h3 h4 h5 => ?_
    exact lv_iload C.1 C.2.1 hd (h3.2.2 _ _ hg).1 ((hk _ _ _ _ _ h).use C h1 h2 h3 h4 h5)
  · exact h.elim
theorem ok_iload_n {K : hK} {M : hM} {B : Nat × Nat} {Q : hPost} {pc nx : Nat} {i : Nat} {f : Fin 4} (hi : (f : Nat) = i) (hd : decode M.2.1 pc = .ok (.iload_n f, 1)) (hn : pc + 1 = nx) : hOk (hJ K M B Q) pc (x_iload nx i) := by
  intro k hk cu ls st H h
  subst hn
  unfold x_iload at h
  split at h
  · rename_i x hg
    refine Or.inl fun p e R s m args below meth c QF C Hr locs lsr h1 h2 h3 h4 h5 => ?_
    exact lv_iload_n C.1 C.2.1 hd hi (h3.2.2 _ _ hg).1 ((hk _ _ _ _ _ h).use C h1 h2 h3 h4 h5)
  · exact h.elim
def x_aload (nx i : Nat) : hSem := fun k cu ls st H => match hGetL ls i with
  | some (.ref x) => k nx cu ls (.ref x :: st) H
  | some .null => k nx cu ls (.null :: st) H
  | _ => False
theorem ok_aload {K : hK} {M : hM} {B : Nat × Nat} {Q : hPost} {pc nx : Nat} {i : Nat} (hd : decode M.2.1 pc = .ok (.aload i, 2)) (hn : pc + 2 = nx) : hOk (hJ K M B Q) pc (x_aload nx i) := by
  intro k hk cu ls st H h
  subst hn
  unfold x_aload at h
  split at h
  · rename_i x hg
    refine Or.inl fun p e R s m args below meth c QF C Hr locs lsr h1 h2 h3 h4 h5 => ?_
    exact lv_aload C.1 C.2.1 hd (h3.2.2 _ _ hg).1 ((hk _ _ _ _ _ h).use C h1 h2 h3 h4 h5)
  · rename_i hg
    refine Or.inl fun p e R s m args below meth c QF C Hr locs lsr h1 h2 h3 h4 h5 => ?_
    exact lv_aloadN C.1 C.2.1 hd (h3.2.2 _ _ hg).1 ((hk _ _ _ _ _ h).use C h1 h2 h3 h4 h5)
  · exact h.elim
theorem ok_aload_n {K : hK} {M : hM} {B : Nat × Nat} {Q : hPost} {pc nx : Nat} {i : Nat} {f : Fin 4} (hi : (f : Nat) = i) (hd : decode M.2.1 pc = .ok (.aload_n f, 1)) (hn : pc + 1 = nx) : hOk (hJ K M B Q) pc (x_aload nx i) := by
  intro k hk cu ls st H h
  subst hn
  unfold x_aload at h
  split at h
  · rename_i x hg
    refine Or.inl fun p e R s m args below meth c QF C Hr locs lsr h1 h2 h3 h4 h5 => ?_
    exact lv_aload_n C.1 C.2.1 hd hi (h3.2.2 _ _ hg).1 ((hk _ _ _ _ _ h).use C h1 h2 h3 h4 h5)
  · rename_i hg
    refine Or.inl fun p e R s m args below meth c QF C Hr locs lsr h1 h2 h3 h4 h5 => ?_
    exact lv_aload_nN C.1 C.2.1 hd hi (h3.2.2 _ _ hg).1 ((hk _ _ _ _ _ h).use C h1 h2 h3 h4 h5)
  · exact h.elim
def x_istore (nx i : Nat) : hSem := fun k cu ls st H => match st with
  | .int x :: r => k nx cu (hSetL ls i (.int x)) r H
  | _ => False
theorem ok_istore {K : hK} {M : hM} {B : Nat × Nat} {Q : hPost} {pc nx : Nat} {i : Nat} (hl : i < M.2.2.1) (hd : decode M.2.1 pc = .ok (.istore i, 2)) (hn : pc + 2 = nx) : hOk (hJ K M B Q) pc (x_istore nx i) := by
  intro k hk cu ls st H h
  subst hn
  unfold x_istore at h
  split at h
  · refine Or.inl fun p e R s m args below meth c QF C Hr locs lsr h1 h2 h3 h4 h5 => ?_
    exact lv_istore C.1 C.2.1 hd h3.has hl rfl (fun ls2 hl2 => (hk _ _ _ _ _ h).use C h1 h2 (h3.set rfl hl2) h4 h5)
  · exact h.elim
theorem ok_istore_n {K : hK} {M : hM} {B : Nat × Nat} {Q : hPost} {pc nx : Nat} {i : Nat} {f : Fin 4} (hi : (f : Nat) = i) (hl : i < M.2.2.1) (hd : decode M.2.1 pc = .ok (.istore_n f, 1)) (hn : pc + 1 = nx) : hOk (hJ K M B Q) pc (x_istore nx i) := by
  intro k hk cu ls st H h
  subst hn
  unfold x_istore at h
  split at h
  · refine Or.inl fun p e R s m args below meth c QF C Hr locs lsr h1 h2 h3 h4 h5 => ?_
    exact lv_istore_n C.1 C.2.1 hd hi h3.has hl rfl (fun ls2 hl2 => (hk _ _ _ _ _ h).use C h1 h2 (h3.set rfl hl2) h4 h5)
  · exact h.elim
def x_astore (nx i : Nat) : hSem := fun k cu ls st H => match st with
  | .ref x :: r => k nx cu (hSetL ls i (.ref x)) r H
  | .null :: r => k nx cu (hSetL ls i .null) r H
  | _ => False
theorem ok_astore {K : hK} {M : hM} {B : Nat × Nat} {Q : hPost} {pc nx : Nat} {i : Nat} (hl : i < M.2.2.1) (hd : decode M.2.1 pc = .ok (.astore i, 2)) (hn : pc + 2 = nx) : hOk (hJ K M B Q) pc (x_astore nx i) := by
  intro k hk cu ls st H h
  subst hn
  unfold x_astore at h
  split at h
  · refine Or.inl fun p e R s m args below meth c QF C Hr locs lsr h1 h2 h3 h4 h5 => ?_
    exact lv_astore C.1 C.2.1 hd h3.has hl rfl (fun ls2 hl2 => (hk _ _ _ _ _ h).use C h1 h2 (h3.set rfl hl2) h4 h5)
  · refine Or.inl fun p e R s m args below meth c QF C Hr locs lsr h1 h2 h3 h4 h5 => ?_
    exact lv_astoreN C.1 C.2.1 hd h3.has hl rfl (fun ls2 hl2 => (hk _ _ _ _ _ h).use C h1 h2 (h3.set rfl hl2) h4 h5)
  · exact h.elim
theorem ok_astore_n {K : hK} {M : hM} {B : Nat × Nat} {Q : hPost} {pc nx : Nat} {i : Nat} {f : Fin 4} (hi : (f : Nat) = i) (hl : i < M.2.2.1) (hd : decode M.2.1 pc = .ok (.astore_n f, 1)) (hn : pc + 1 = nx) : hOk (hJ K M B Q) pc (x_astore nx i) := by
  intro k hk cu ls st H h
  subst hn
  unfold x_astore at h
  split at h
  · refine Or.inl fun p e R s m args below meth c QF C Hr locs lsr h1 h2 h3 h4 h5 => ?_
    exact lv_astore_n C.1 C.2.1 hd hi h3.has hl rfl (fun ls2 hl2 => (hk _ _ _ _ _ h).use C h1 h2 (h3.set rfl hl2) h4 h5)
  · refine Or.inl fun p e R s m args below meth c QF C Hr locs lsr h1 h2 h3 h4 h5 => ?_
    exact lv_astore_nN C.1 C.2.1 hd hi h3.has hl rfl (fun ls2 hl2 => (hk _ _ _ _ _ h).use C h1 h2 (h3.set rfl hl2) h4 h5)
  · exact h.elim
def x_iinc (nx i : Nat) (v : Int32) : hSem := fun k cu ls st H => match hGetL ls i with
  | some (.int x) => k nx cu (hSetL ls i (.int (x + v))) st H
  | _ => False
theorem ok_iinc {K : hK} {M : hM} {B : Nat × Nat} {Q : hPost} {pc nx : Nat} {i : Nat} {n : Int} {v : Int32} (hv : Int32.ofInt n = v) (hl : i < M.2.2.1) (hd : decode M.2.1 pc = .ok (.iinc i n, 3)) (hn : pc + 3 = nx) : hOk (hJ K M B Q) pc (x_iinc nx i v) := by
  intro k hk cu ls st H h
  subst hn
  unfold x_iinc at h
  subst hv
  split at h
  · rename_i x hg
    refine Or.inl fun p e R s m args below meth c QF C Hr locs lsr h1 h2 h3 h4 h5 => ?_
    obtain ⟨j, hj⟩ := List.getElem?_of_mem ((hPairs_mem ls 0 (i, .int x)).mpr ⟨Nat.zero_le _, by simpa using hg⟩)
    exact lv_iinc C.1 C.2.1 hd h3.has hj rfl hl rfl (fun ls2 hl2 => (hk _ _ _ _ _ h).use C h1 h2 (h3.set rfl hl2) h4 h5)
  · exact h.elim
def x_iadd (nx : Nat) : hSem := fun k cu ls st H => match st with
  | .int b :: .int a :: r => k nx cu ls (.int (a + b) :: r) H
  | _ => False
theorem ok_iadd {K : hK} {M : hM} {B : Nat × Nat} {Q : hPost} {pc nx : Nat} (hd : decode M.2.1 pc = .ok (.iadd, 1)) (hn : pc + 1 = nx) : hOk (hJ K M B Q) pc (x_iadd nx) := by
  intro k hk cu ls st H h
  subst hn
  unfold x_iadd at h
  split at h
  · refine Or.inl fun p e R s m args below meth c QF C Hr locs lsr h1 h2 h3 h4 h5 => ?_
    exact lv_iadd C.1 C.2.1 hd ((hk _ _ _ _ _ h).use C h1 h2 h3 h4 h5)
  · exact h.elim
def x_isub (nx : Nat) : hSem := fun k cu ls st H => match st with
  | .int b :: .int a :: r => k nx cu ls (.int (a - b) :: r) H
  | _ => False
theorem ok_isub {K : hK} {M : hM} {B : Nat × Nat} {Q : hPost} {pc nx : Nat} (hd : decode M.2.1 pc = .ok (.isub, 1)) (hn : pc + 1 = nx) : hOk (hJ K M B Q) pc (x_isub nx) := by
  intro k hk cu ls st H h
  subst hn
  unfold x_isub at h
  split at h
  · refine Or.inl fun p e R s m args below meth c QF C Hr locs lsr h1 h2 h3 h4 h5 => ?_
    exact lv_isub C.1 C.2.1 hd ((hk _ _ _ _ _ h).use C h1 h2 h3 h4 h5)
  · exact h.elim
def x_imul (nx : Nat) : hSem := fun k cu ls st H => match st with
  | .int b :: .int a :: r => k nx cu ls (.int (a * b) :: r) H
  | _ => False
theorem ok_imul {K : hK} {M : hM} {B : Nat × Nat} {Q : hPost} {pc nx : Nat} (hd : decode M.2.1 pc = .ok (.imul, 1)) (hn : pc + 1 = nx) : hOk (hJ K M B Q) pc (x_imul nx) := by
  intro k hk cu ls st H h
  subst hn
  unfold x_imul at h
  split at h
  · refine Or.inl fun p e R s m args below meth c QF C Hr locs lsr h1 h2 h3 h4 h5 => ?_
    exact lv_imul C.1 C.2.1 hd ((hk _ _ _ _ _ h).use C h1 h2 h3 h4 h5)
  · exact h.elim
def x_iand (nx : Nat) : hSem := fun k cu ls st H => match st with
  | .int b :: .int a :: r => k nx cu ls (.int (a &&& b) :: r) H
  | _ => False
theorem ok_iand {K : hK} {M : hM} {B : Nat × Nat} {Q : hPost} {pc nx : Nat} (hd : decode M.2.1 pc = .ok (.iand, 1)) (hn : pc + 1 = nx) : hOk (hJ K M B Q) pc (x_iand nx) := by
  intro k hk cu ls st H h
  subst hn
  unfold x_iand at h
  split at h
  · refine Or.inl fun p e R s m args below meth c QF C Hr locs lsr h1 h2 h3 h4 h5 => ?_
    exact lv_iand C.1 C.2.1 hd ((hk _ _ _ _ _ h).use C h1 h2 h3 h4 h5)
  · exact h.elim
def x_ior (nx : Nat) : hSem := fun k cu ls st H => match st with
  | .int b :: .int a :: r => k nx cu ls (.int (a ||| b) :: r) H
  | _ => False
theorem ok_ior {K : hK} {M : hM} {B : Nat × Nat} {Q : hPost} {pc nx : Nat} (hd : decode M.2.1 pc = .ok (.ior, 1)) (hn : pc + 1 = nx) : hOk (hJ K M B Q) pc (x_ior nx) := by
  intro k hk cu ls st H h
  subst hn
  unfold x_ior at h
  split at h
  · refine Or.inl fun p e R s m args below meth c QF C Hr locs lsr h1 h2 h3 h4 h5 => ?_
    exact lv_ior C.1 C.2.1 hd ((hk _ _ _ _ _ h).use C h1 h2 h3 h4 h5)
  · exact h.elim
def x_ixor (nx : Nat) : hSem := fun k cu ls st H => match st with
  | .int b :: .int a :: r => k nx cu ls (.int (a ^^^ b) :: r) H
  | _ => False
theorem ok_ixor {K : hK} {M : hM} {B : Nat × Nat} {Q : hPost} {pc nx : Nat} (hd : decode M.2.1 pc = .ok (.ixor, 1)) (hn : pc + 1 = nx) : hOk (hJ K M B Q) pc (x_ixor nx) := by
  intro k hk cu ls st H h
  subst hn
  unfold x_ixor at h
  split at h
  · refine Or.inl fun p e R s m args below meth c QF C Hr locs lsr h1 h2 h3 h4 h5 => ?_
    exact lv_ixor C.1 C.2.1 hd ((hk _ _ _ _ _ h).use C h1 h2 h3 h4 h5)
  · exact h.elim
def x_ishl (nx : Nat) : hSem := fun k cu ls st H => match st with
  | .int b :: .int a :: r => k nx cu ls (.int (a <<< (b &&& 31)) :: r) H
  | _ => False
theorem ok_ishl {K : hK} {M : hM} {B : Nat × Nat} {Q : hPost} {pc nx : Nat} (hd : decode M.2.1 pc = .ok (.ishl, 1)) (hn : pc + 1 = nx) : hOk (hJ K M B Q) pc (x_ishl nx) := by
  intro k hk cu ls st H h
  subst hn
  unfold x_ishl at h
  split at h
  · refine Or.inl fun p e R s m args below meth c QF C Hr locs lsr h1 h2 h3 h4 h5 => ?_
    exact lv_ishl C.1 C.2.1 hd ((hk _ _ _ _ _ h).use C h1 h2 h3 h4 h5)
  · exact h.elim
def x_ishr (nx : Nat) : hSem := fun k cu ls st H => match st with
  | .int b :: .int a :: r => k nx cu ls (.int (a >>> (b &&& 31)) :: r) H
  | _ => False
theorem ok_ishr {K : hK} {M : hM} {B : Nat × Nat} {Q : hPost} {pc nx : Nat} (hd : decode M.2.1 pc = .ok (.ishr, 1)) (hn : pc + 1 = nx) : hOk (hJ K M B Q) pc (x_ishr nx) := by
  intro k hk cu ls st H h
  subst hn
  unfold x_ishr at h
  split at h
  · refine Or.inl fun p e R s m args below meth c QF C Hr locs lsr h1 h2 h3 h4 h5 => ?_
    exact lv_ishr C.1 C.2.1 hd ((hk _ _ _ _ _ h).use C h1 h2 h3 h4 h5)
  · exact h.elim
def x_iushr (nx : Nat) : hSem := fun k cu ls st H => match st with
  | .int b :: .int a :: r => k nx cu ls (.int ((a.toUInt32 >>> (b.toUInt32 &&& Int32.toUInt32 31)).toInt32) :: r) H
  | _ => False
theorem ok_iushr {K : hK} {M : hM} {B : Nat × Nat} {Q : hPost} {pc nx : Nat} (hd : decode M.2.1 pc = .ok (.iushr, 1)) (hn : pc + 1 = nx) : hOk (hJ K M B Q) pc (x_iushr nx) := by
  intro k hk cu ls st H h
  subst hn
  unfold x_iushr at h
  split at h
  · refine Or.inl fun p e R s m args below meth c QF C Hr locs lsr h1 h2 h3 h4 h5 => ?_
    exact lv_iushr C.1 C.2.1 hd rfl ((hk _ _ _ _ _ h).use C h1 h2 h3 h4 h5)
  · exact h.elim
def x_idiv (nx : Nat) : hSem := fun k cu ls st H => match st with
  | .int b :: .int a :: r => ¬ b = 0 ∧ k nx cu ls (.int (a / b) :: r) H
  | _ => False
theorem ok_idiv {K : hK} {M : hM} {B : Nat × Nat} {Q : hPost} {pc nx : Nat} (hd : decode M.2.1 pc = .ok (.idiv, 1)) (hn : pc + 1 = nx) : hOk (hJ K M B Q) pc (x_idiv nx) := by
  intro k hk cu ls st H h
  subst hn
  unfold x_idiv at h
  split at h
  · refine Or.inl fun p e R s m args below meth c QF C Hr locs lsr h1 h2 h3 h4 h5 => ?_
    exact lv_idiv C.1 C.2.1 hd h.1 ((hk _ _ _ _ _ h.2).use C h1 h2 h3 h4 h5)
  · exact h.elim
def x_irem (nx : Nat) : hSem := fun k cu ls st H => match st with
  | .int b :: .int a :: r => ¬ b = 0 ∧ k nx cu ls (.int (a - a / b * b) :: r) H
  | _ => False
theorem ok_irem {K : hK} {M : hM} {B : Nat × Nat} {Q : hPost} {pc nx : Nat} (hd : decode M.2.1 pc = .ok (.irem, 1)) (hn : pc + 1 = nx) : hOk (hJ K M B Q) pc (x_irem nx) := by
  intro k hk cu ls st H h
  subst hn
  unfold x_irem at h
  split at h
  · refine Or.inl fun p e R s m args below meth c QF C Hr locs lsr h1 h2 h3 h4 h5 => ?_
    exact lv_irem C.1 C.2.1 hd h.1 ((hk _ _ _ _ _ h.2).use C h1 h2 h3 h4 h5)
  · exact h.elim
def x_i2c (nx : Nat) : hSem := fun k cu ls st H => match st with
  | .int a :: r => k nx cu ls (.int ((a.toUInt32 % 65536).toInt32) :: r) H
  | _ => False
theorem ok_i2c {K : hK} {M : hM} {B : Nat × Nat} {Q : hPost} {pc nx : Nat} (hd : decode M.2.1 pc = .ok (.i2c, 1)) (hn : pc + 1 = nx) : hOk (hJ K M B Q) pc (x_i2c nx) := by
  intro k hk cu ls st H h
  subst hn
  unfold x_i2c at h
  split at h
  · refine Or.inl fun p e R s m args below meth c QF C Hr locs lsr h1 h2 h3 h4 h5 => ?_
    exact lv_i2c C.1 C.2.1 hd rfl ((hk _ _ _ _ _ h).use C h1 h2 h3 h4 h5)
  · exact h.elim
def x_dup (nx : Nat) : hSem := fun k cu ls st H => match st with
  | .int a :: r => k nx cu ls (.int a :: .int a :: r) H
  | .ref a :: r => k nx cu ls (.ref a :: .ref a :: r) H
  | _ => False
theorem ok_dup {K : hK} {M : hM} {B : Nat × Nat} {Q : hPost} {pc nx : Nat} (hd : decode M.2.1 pc = .ok (.dup, 1)) (hn : pc + 1 = nx) : hOk (hJ K M B Q) pc (x_dup nx) := by
  intro k hk cu ls st H h
  subst hn
  unfold x_dup at h
  split at h
  · refine Or.inl fun p e R s m args below meth c QF C Hr locs lsr h1 h2 h3 h4 h5 => ?_
    exact lv_dup C.1 C.2.1 hd rfl ((hk _ _ _ _ _ h).use C h1 h2 h3 h4 h5)
  · refine Or.inl fun p e R s m args below meth c QF C Hr locs lsr h1 h2 h3 h4 h5 => ?_
    exact lv_dup C.1 C.2.1 hd rfl ((hk _ _ _ _ _ h).use C h1 h2 h3 h4 h5)
  · exact h.elim
def x_dup2 (nx : Nat) : hSem := fun k cu ls st H => match st with
  | .int i :: .ref a :: r => k nx cu ls (.int i :: .ref a :: .int i :: .ref a :: r) H
  | _ => False
theorem ok_dup2 {K : hK} {M : hM} {B : Nat × Nat} {Q : hPost} {pc nx : Nat} (hd : decode M.2.1 pc = .ok (.dup2, 1)) (hn : pc + 1 = nx) : hOk (hJ K M B Q) pc (x_dup2 nx) := by
  intro k hk cu ls st H h
  subst hn
  unfold x_dup2 at h
  split at h
  · refine Or.inl fun p e R s m args below meth c QF C Hr locs lsr h1 h2 h3 h4 h5 => ?_
    exact lv_dup2_11 C.1 C.2.1 hd rfl rfl ((hk _ _ _ _ _ h).use C h1 h2 h3 h4 h5)
  · exact h.elim
def x_pop (nx : Nat) : hSem := fun k cu ls st H => match st with
  | .int _ :: r => k nx cu ls r H
  | .ref _ :: r => k nx cu ls r H
  | _ => False
theorem ok_pop {K : hK} {M : hM} {B : Nat × Nat} {Q : hPost} {pc nx : Nat} (hd : decode M.2.1 pc = .ok (.pop, 1)) (hn : pc + 1 = nx) : hOk (hJ K M B Q) pc (x_pop nx) := by
  intro k hk cu ls st H h
  subst hn
  unfold x_pop at h
  split at h
  · refine Or.inl fun p e R s m args below meth c QF C Hr locs lsr h1 h2 h3 h4 h5 => ?_
    exact lv_pop C.1 C.2.1 hd rfl ((hk _ _ _ _ _ h).use C h1 h2 h3 h4 h5)
  · refine Or.inl fun p e R s m args below meth c QF C Hr locs lsr h1 h2 h3 h4 h5 => ?_
    exact lv_pop C.1 C.2.1 hd rfl ((hk _ _ _ _ _ h).use C h1 h2 h3 h4 h5)
  · exact h.elim
def x_goto (t : Nat) : hSem := fun k cu ls st H => k t cu ls st H
theorem ok_goto {K : hK} {M : hM} {B : Nat × Nat} {Q : hPost} {pc nx : Nat} {off : Int} (ht : (pc : Int) + off = (nx : Int)) (hd : decode M.2.1 pc = .ok (.goto off, 3)) : hOk (hJ K M B Q) pc (x_goto nx) := by
  intro k hk cu ls st H h
  refine Or.inl fun p e R s m args below meth c QF C Hr locs lsr h1 h2 h3 h4 h5 => ?_
  exact lv_goto C.1 C.2.1 hd ht ((hk _ _ _ _ _ h).use C h1 h2 h3 h4 h5)
def x_ifeq (t nx : Nat) : hSem := fun k cu ls st H => match st with
  | .int a :: r => (a = 0 → k t cu ls r H) ∧ (¬ a = 0 → k nx cu ls r H)
  | _ => False
theorem ok_ifeq {K : hK} {M : hM} {B : Nat × Nat} {Q : hPost} {pc nx : Nat} {t : Nat} {off : Int} (ht : (pc : Int) + off = (t : Int)) (hd : decode M.2.1 pc = .ok (.ifCond .eq off, 3)) (hn : pc + 3 = nx) : hOk (hJ K M B Q) pc (x_ifeq t nx) := by
  intro k hk cu ls st H h
  subst hn
  unfold x_ifeq at h
  split at h
  · refine Or.inl fun p e R s m args below meth c QF C Hr locs lsr h1 h2 h3 h4 h5 => ?_
    exact lv_if_eq C.1 C.2.1 hd ht (fun z => ((hk _ _ _ _ _ (h.1 z)).use C h1 h2 h3 h4 h5)) (fun z => ((hk _ _ _ _ _ (h.2 z)).use C h1 h2 h3 h4 h5))
  · exact h.elim
def x_ifne (t nx : Nat) : hSem := fun k cu ls st H => match st with
  | .int a :: r => (¬ a = 0 → k t cu ls r H) ∧ (a = 0 → k nx cu ls r H)
  | _ => False
theorem ok_ifne {K : hK} {M : hM} {B : Nat × Nat} {Q : hPost} {pc nx : Nat} {t : Nat} {off : Int} (ht : (pc : Int) + off = (t : Int)) (hd : decode M.2.1 pc = .ok (.ifCond .ne off, 3)) (hn : pc + 3 = nx) : hOk (hJ K M B Q) pc (x_ifne t nx) := by
  intro k hk cu ls st H h
  subst hn
  unfold x_ifne at h
  split at h
  · refine Or.inl fun p e R s m args below meth c QF C Hr locs lsr h1 h2 h3 h4 h5 => ?_
    exact lv_if_ne C.1 C.2.1 hd ht (fun z => ((hk _ _ _ _ _ (h.1 z)).use C h1 h2 h3 h4 h5)) (fun z => ((hk _ _ _ _ _ (h.2 z)).use C h1 h2 h3 h4 h5))
  · exact h.elim
def x_iflt (t nx : Nat) : hSem := fun k cu ls st H => match st with
  | .int a :: r => (a < 0 → k t cu ls r H) ∧ (¬ a < 0 → k nx cu ls r H)
  | _ => False
theorem ok_iflt {K : hK} {M : hM} {B : Nat × Nat} {Q : hPost} {pc nx : Nat} {t : Nat} {off : Int} (ht : (pc : Int) + off = (t : Int)) (hd : decode M.2.1 pc = .ok (.ifCond .lt off, 3)) (hn : pc + 3 = nx) : hOk (hJ K M B Q) pc (x_iflt t nx) := by
  intro k hk cu ls st H h
  subst hn
  unfold x_iflt at h
  split at h
  · refine Or.inl fun p e R s m args below meth c QF C Hr locs lsr h1 h2 h3 h4 h5 => ?_
    exact lv_if_lt C.1 C.2.1 hd ht (fun z => ((hk _ _ _ _ _ (h.1 z)).use C h1 h2 h3 h4 h5)) (fun z => ((hk _ _ _ _ _ (h.2 z)).use C h1 h2 h3 h4 h5))
  · exact h.elim
def x_ifge (t nx : Nat) : hSem := fun k cu ls st H => match st with
  | .int a :: r => (0 ≤ a → k t cu ls r H) ∧ (¬ 0 ≤ a → k nx cu ls r H)
  | _ => False
theorem ok_ifge {K : hK} {M : hM} {B : Nat × Nat} {Q : hPost} {pc nx : Nat} {t : Nat} {off : Int} (ht : (pc : Int) + off = (t : Int)) (hd : decode M.2.1 pc = .ok (.ifCond .ge off, 3)) (hn : pc + 3 = nx) : hOk (hJ K M B Q) pc (x_ifge t nx) := by
  intro k hk cu ls st H h
  subst hn
  unfold x_ifge at h
  split at h
  · refine Or.inl fun p e R s m args below meth c QF C Hr locs lsr h1 h2 h3 h4 h5 => ?_
    exact lv_if_ge C.1 C.2.1 hd ht (fun z => ((hk _ _ _ _ _ (h.1 z)).use C h1 h2 h3 h4 h5)) (fun z => ((hk _ _ _ _ _ (h.2 z)).use C h1 h2 h3 h4 h5))
  · exact h.elim
def x_ifgt (t nx : Nat) : hSem := fun k cu ls st H => match st with
  | .int a :: r => (0 < a → k t cu ls r H) ∧ (¬ 0 < a → k nx cu ls r H)
  | _ => False
theorem ok_ifgt {K : hK} {M : hM} {B : Nat × Nat} {Q : hPost} {pc nx : Nat} {t : Nat} {off : Int} (ht : (pc : Int) + off = (t : Int)) (hd : decode M.2.1 pc = .ok (.ifCond .gt off, 3)) (hn : pc + 3 = nx) : hOk (hJ K M B Q) pc (x_ifgt t nx) := by
  intro k hk cu ls st H h
  subst hn
  unfold x_ifgt at h
  split at h
  · refine Or.inl fun p e R s m args below meth c QF C Hr locs lsr h1 h2 h3 h4 h5 => ?_
    exact lv_if_gt C.1 C.2.1 hd ht (fun z => ((hk _ _ _ _ _ (h.1 z)).use C h1 h2 h3 h4 h5)) (fun z => ((hk _ _ _ _ _ (h.2 z)).use C h1 h2 h3 h4 h5))
  · exact h.elim
def x_ifle (t nx : Nat) : hSem := fun k cu ls st H => match st with
  | .int a :: r => (a ≤ 0 → k t cu ls r H) ∧ (¬ a ≤ 0 → k nx cu ls r H)
  | _ => False
theorem ok_ifle {K : hK} {M : hM} {B : Nat × Nat} {Q : hPost} {pc nx : Nat} {t : Nat} {off : Int} (ht : (pc : Int) + off = (t : Int)) (hd : decode M.2.1 pc = .ok (.ifCond .le off, 3)) (hn : pc + 3 = nx) : hOk (hJ K M B Q) pc (x_ifle t nx) := by
  intro k hk cu ls st H h
  subst hn
  unfold x_ifle at h
  split at h
  · refine Or.inl fun p e R s m args below meth c QF C Hr locs lsr h1 h2 h3 h4 h5 => ?_
    exact lv_if_le C.1 C.2.1 hd ht (fun z => ((hk _ _ _ _ _ (h.1 z)).use C h1 h2 h3 h4 h5)) (fun z => ((hk _ _ _ _ _ (h.2 z)).use C h1 h2 h3 h4 h5))
  · exact h.elim
def x_iceq (t nx : Nat) : hSem := fun k cu ls st H => match st with
  | .int b :: .int a :: r => (a = b → k t cu ls r H) ∧ (¬ a = b → k nx cu ls r H)
  | _ => False
theorem ok_iceq {K : hK} {M : hM} {B : Nat × Nat} {Q : hPost} {pc nx : Nat} {t : Nat} {off : Int} (ht : (pc : Int) + off = (t : Int)) (hd : decode M.2.1 pc = .ok (.if_icmp .eq off, 3)) (hn : pc + 3 = nx) : hOk (hJ K M B Q) pc (x_iceq t nx) := by
  intro k hk cu ls st H h
  subst hn
  unfold x_iceq at h
  split at h
  · refine Or.inl fun p e R s m args below meth c QF C Hr locs lsr h1 h2 h3 h4 h5 => ?_
    exact lv_icmp_eq C.1 C.2.1 hd ht (fun z => ((hk _ _ _ _ _ (h.1 z)).use C h1 h2 h3 h4 h5)) (fun z => ((hk _ _ _ _ _ (h.2 z)).use C h1 h2 h3 h4 h5))
  · exact h.elim
def x_icne (t nx : Nat) : hSem := fun k cu ls st H => match st with
  | .int b :: .int a :: r => (¬ a = b → k t cu ls r H) ∧ (a = b → k nx cu ls r H)
  | _ => False
theorem ok_icne {K : hK} {M : hM} {B : Nat × Nat} {Q : hPost} {pc nx : Nat} {t : Nat} {off : Int} (ht : (pc : Int) + off = (t : Int)) (hd : decode M.2.1 pc = .ok (.if_icmp .ne off, 3)) (hn : pc + 3 = nx) : hOk (hJ K M B Q) pc (x_icne t nx) := by
  intro k hk cu ls st H h
  subst hn
  unfold x_icne at h
  split at h
  · refine Or.inl fun p e R s m args below meth c QF C Hr locs lsr h1 h2 h3 h4 h5 => ?_
    exact lv_icmp_ne C.1 C.2.1 hd ht (fun z => ((hk _ _ _ _ _ (h.1 z)).use C h1 h2 h3 h4 h5)) (fun z => ((hk _ _ _ _ _ (h.2 z)).use C h1 h2 h3 h4 h5))
  · exact h.elim
def x_iclt (t nx : Nat) : hSem := fun k cu ls st H => match st with
  | .int b :: .int a :: r => (a < b → k t cu ls r H) ∧ (¬ a < b → k nx cu ls r H)
  | _ => False
theorem ok_iclt {K : hK} {M : hM} {B : Nat × Nat} {Q : hPost} {pc nx : Nat} {t : Nat} {off : Int} (ht : (pc : Int) + off = (t : Int)) (hd : decode M.2.1 pc = .ok (.if_icmp .lt off, 3)) (hn : pc + 3 = nx) : hOk (hJ K M B Q) pc (x_iclt t nx) := by
  intro k hk cu ls st H h
  subst hn
  unfold x_iclt at h
  split at h
  · refine Or.inl fun p e R s m args below meth c QF C Hr locs lsr h1 h2 h3 h4 h5 => ?_
    exact lv_icmp_lt C.1 C.2.1 hd ht (fun z => ((hk _ _ _ _ _ (h.1 z)).use C h1 h2 h3 h4 h5)) (fun z => ((hk _ _ _ _ _ (h.2 z)).use C h1 h2 h3 h4 h5))
  · exact h.elim
def x_icge (t nx : Nat) : hSem := fun k cu ls st H => match st with
  | .int b :: .int a :: r => (b ≤ a → k t cu ls r H) ∧ (¬ b ≤ a → k nx cu ls r H)
  | _ => False
theorem ok_icge {K : hK} {M : hM} {B : Nat × Nat} {Q : hPost} {pc nx : Nat} {t : Nat} {off : Int} (ht : (pc : Int) + off = (t : Int)) (hd : decode M.2.1 pc = .ok (.if_icmp .ge off, 3)) (hn : pc + 3 = nx) : hOk (hJ K M B Q) pc (x_icge t nx) := by
  intro k hk cu ls st H h
  subst hn
  unfold x_icge at h
  split at h
  · refine Or.inl fun p e R s m args below meth c QF C Hr locs lsr h1 h2 h3 h4 h5 => ?_
    exact lv_icmp_ge C.1 C.2.1 hd ht (fun z => ((hk _ _ _ _ _ (h.1 z)).use C h1 h2 h3 h4 h5)) (fun z => ((hk _ _ _ _ _ (h.2 z)).use C h1 h2 h3 h4 h5))
  · exact h.elim
def x_icgt (t nx : Nat) : hSem := fun k cu ls st H => match st with
  | .int b :: .int a :: r => (b < a → k t cu ls r H) ∧ (¬ b < a → k nx cu ls r H)
  | _ => False
theorem ok_icgt {K : hK} {M : hM} {B : Nat × Nat} {Q : hPost} {pc nx : Nat} {t : Nat} {off : Int} (ht : (pc : Int) + off = (t : Int)) (hd : decode M.2.1 pc = .ok (.if_icmp .gt off, 3)) (hn : pc + 3 = nx) : hOk (hJ K M B Q) pc (x_icgt t nx) := by
  intro k hk cu ls st H h
  subst hn
  unfold x_icgt at h
  split at h
  · refine Or.inl fun p e R s m args below meth c QF C Hr locs lsr h1 h2 h3 h4 h5 => ?_
    exact lv_icmp_gt C.1 C.2.1 hd ht (fun z => ((hk _ _ _ _ _ (h.1 z)).use C h1 h2 h3 h4 h5)) (fun z => ((hk _ _ _ _ _ (h.2 z)).use C h1 h2 h3 h4 h5))
  · exact h.elim
def x_icle (t nx : Nat) : hSem := fun k cu ls st H => match st with
  | .int b :: .int a :: r => (a ≤ b → k t cu ls r H) ∧ (¬ a ≤ b → k nx cu ls r H)
  | _ => False
theorem ok_icle {K : hK} {M : hM} {B : Nat × Nat} {Q : hPost} {pc nx : Nat} {t : Nat} {off : Int} (ht : (pc : Int) + off = (t : Int)) (hd : decode M.2.1 pc = .ok (.if_icmp .le off, 3)) (hn : pc + 3 = nx) : hOk (hJ K M B Q) pc (x_icle t nx) := by
  intro k hk cu ls st H h
  subst hn
  unfold x_icle at h
  split at h
  · refine Or.inl fun p e R s m args below meth c QF C Hr locs lsr h1 h2 h3 h4 h5 => ?_
    exact lv_icmp_le C.1 C.2.1 hd ht (fun z => ((hk _ _ _ _ _ (h.1 z)).use C h1 h2 h3 h4 h5)) (fun z => ((hk _ _ _ _ _ (h.2 z)).use C h1 h2 h3 h4 h5))
  · exact h.elim
def x_ifnull (t nx : Nat) : hSem := fun k cu ls st H => match st with
  | .null :: r => k t cu ls r H
  | .ref _ :: r => k nx cu ls r H
  | _ => False
theorem ok_ifnull {K : hK} {M : hM} {B : Nat × Nat} {Q : hPost} {pc nx : Nat} {t : Nat} {off : Int} (ht : (pc : Int) + off = (t : Int)) (hd : decode M.2.1 pc = .ok (.ifnull off, 3)) (hn : pc + 3 = nx) : hOk (hJ K M B Q) pc (x_ifnull t nx) := by
  intro k hk cu ls st H h
  subst hn
  unfold x_ifnull at h
  split at h
  · refine Or.inl fun p e R s m args below meth c QF C Hr locs lsr h1 h2 h3 h4 h5 => ?_
    exact lv_ifnullN C.1 C.2.1 hd ht ((hk _ _ _ _ _ h).use C h1 h2 h3 h4 h5)
  · refine Or.inl fun p e R s m args below meth c QF C Hr locs lsr h1 h2 h3 h4 h5 => ?_
    exact lv_ifnull C.1 C.2.1 hd ((hk _ _ _ _ _ h).use C h1 h2 h3 h4 h5)
  · exact h.elim
def x_ifnonnull (t nx : Nat) : hSem := fun k cu ls st H => match st with
  | .null :: r => k nx cu ls r H
  | .ref _ :: r => k t cu ls r H
  | _ => False
theorem ok_ifnonnull {K : hK} {M : hM} {B : Nat × Nat} {Q : hPost} {pc nx : Nat} {t : Nat} {off : Int} (ht : (pc : Int) + off = (t : Int)) (hd : decode M.2.1 pc = .ok (.ifnonnull off, 3)) (hn : pc + 3 = nx) : hOk (hJ K M B Q) pc (x_ifnonnull t nx) := by
  intro k hk cu ls st H h
  subst hn
  unfold x_ifnonnull at h
  split at h
  · refine Or.inl fun p e R s m args below meth c QF C Hr locs lsr h1 h2 h3 h4 h5 => ?_
    exact lv_ifnonnullN C.1 C.2.1 hd ((hk _ _ _ _ _ h).use C h1 h2 h3 h4 h5)
  · refine Or.inl fun p e R s m args below meth c QF C Hr locs lsr h1 h2 h3 h4 h5 => ?_
    exact lv_ifnonnull C.1 C.2.1 hd ht ((hk _ _ _ _ _ h).use C h1 h2 h3 h4 h5)
  · exact h.elim
def hTab (k : Nat → Prop) (x : Int32) (d : Nat) : List (Int32 × Nat) → Prop
  | [] => k d
  | (v, t) :: l => (x = v → k t) ∧ (¬ x = v → hTab k x d l)
theorem hTab_spec {k : Nat → Prop} {x : Int32} {d : Nat} : ∀ (l : List (Int32 × Nat)), hTab k x d l → (∃ j t : Nat, l[j]? = some (x, t) ∧ k t) ∨ ((∀ (j : Nat) (q : Int32 × Nat), l[j]? = some q → ¬ x = q.1) ∧ k d)
  | [], h => Or.inr ⟨fun j q hj => by simp at hj, h⟩
  | (v, t) :: l, h => by
    by_cases e : x = v
    · exact Or.inl ⟨0, t, by simp [e], h.1 e⟩
    · rcases hTab_spec l (h.2 e) with ⟨j, t', h1, h2⟩ | ⟨h1, h2⟩
      · exact Or.inl ⟨j + 1, t', by simpa using h1, h2⟩
      · refine Or.inr ⟨fun j q hj => ?_, h2⟩
        cases j with
        | zero => simp at hj; subst hj; exact e
        | succ j => exact h1 j q (by simpa using hj)
def hTabOk (pc : Nat) (offs : Array Int) : Int → Nat → List (Int32 × Nat) → Bool
  | _, _, [] => true
  | lo, j, (v, t) :: l => decide (v.toInt = lo + j) && (match offs[j]? with
    | some off => decide ((pc : Int) + off = (t : Int))
    | none => false) && hTabOk pc offs lo (j + 1) l
theorem hTabOk_spec {pc : Nat} {offs : Array Int} {lo : Int} : ∀ (l : List (Int32 × Nat)) (b : Nat), hTabOk pc offs lo b l = true → ∀ (j : Nat) (q : Int32 × Nat), l[j]? = some q → q.1.toInt = lo + (b + j : Nat) ∧ ∃ off, offs[b + j]? = some off ∧ (pc : Int) + off = (q.2 : Int)
  | [], _, _, j, q, hj => by simp at hj
  | (v, t) :: l, b, h, j, q, hj => by
    simp only [hTabOk, Bool.and_eq_true, decide_eq_true_eq] at h
    cases j with
    | zero =>
      simp at hj
      subst hj
      refine ⟨by simpa using h.1.1, ?_⟩
      have h2 := h.1.2
      split at h2
      · rename_i off ho
        exact ⟨off, by simpa using ho, by simpa using h2⟩
      · cases h2
    | succ j =>
      have := hTabOk_spec l (b + 1) h.2 j q (by simpa using hj)
      rw [show b + (j + 1) = b + 1 + j by omega]
      exact this
def x_tab (d : Nat) (l : List (Int32 × Nat)) : hSem := fun k cu ls st H => match st with
  | .int x :: r => hTab (fun t => k t cu ls r H) x d l
  | _ => False
theorem ok_tab {K : hK} {M : hM} {B : Nat × Nat} {Q : hPost} {pc nx : Nat} {dflt lo hi : Int} {offs : Array Int} {len : Nat} {l : List (Int32 × Nat)} (hd : decode M.2.1 pc = .ok (.tableswitch dflt lo hi offs, len)) (ht : (pc : Int) + dflt = (nx : Int)) (hT : hTabOk pc offs lo 0 l = true) (hl : lo + (l.length : Int) = hi + 1) : hOk (hJ K M B Q) pc (x_tab nx l) := by
  intro k hk cu ls st H h
  unfold x_tab at h
  split at h
  · rename_i x r
    refine Or.inl fun p e R s m args below meth c QF C Hr locs lsr h1 h2 h3 h4 h5 => ?_
    have hs := hTabOk_spec l 0 hT
    rcases hTab_spec l h with ⟨j, t, hj, hkt⟩ | ⟨hne, hkd⟩
    · obtain ⟨e1, off, e2, e3⟩ := hs j _ hj
      have hlt : j < l.length := (List.getElem?_eq_some_iff.mp hj).1
      simp only [Nat.zero_add] at e1 e2
      refine lv_tableIn C.1 C.2.1 hd (by omega) (by omega) (off := off) ?_ e3 ((hk _ _ _ _ _ hkt).use C h1 h2 h3 h4 h5)
      rw [e1, show (lo + (j : Int) - lo).toNat = j by omega]
      exact e2
    · refine lv_tableOut C.1 C.2.1 hd ?_ ht ((hk _ _ _ _ _ hkd).use C h1 h2 h3 h4 h5)
      by_cases z : x.toInt < lo ∨ hi < x.toInt
      · exact z
      · exfalso
        have hj : (x.toInt - lo).toNat < l.length := by omega
        obtain ⟨q, hq⟩ : ∃ q, l[(x.toInt - lo).toNat]? = some q := ⟨_, List.getElem?_eq_getElem hj⟩
        obtain ⟨e1, -⟩ := hs _ _ hq
        refine hne _ _ hq (Int32.toInt_inj.mp ?_)
        rw [e1]
        omega
  · exact h.elim
def hIRet : Option FieldType → Int32 → Prop
  | some .int, _ => True
  | some .boolean, v => v = 0 ∨ v = 1
  | _, _ => False
theorem hIRet_narrow {t : Option FieldType} {v : Int32} (h : hIRet t v) : ∃ ty, t = some ty ∧ narrow ty (.int v) = .int v := by
  unfold hIRet at h
  split at h
  · exact ⟨.int, rfl, rfl⟩
  · refine ⟨.boolean, rfl, ?_⟩
    rcases h with rfl | rfl <;> rfl
  · exact h.elim
def x_ireturn (t : Option FieldType) (Q : hPost) : hSem := fun k cu ls st H => match st with
  | [.int v] => hIRet t v ∧ Q (some (.int v)) H
  | _ => False
theorem ok_ireturn {K : hK} {M : hM} {B : Nat × Nat} {Q : hPost} {pc : Nat} (hd : decode M.2.1 pc = .ok (.ireturn, 1)) : hOk (hJ K M B Q) pc (x_ireturn M.2.2.2.1 Q) := by
  intro k hk cu ls st H h
  unfold x_ireturn at h
  split at h
  · rename_i v
    refine Or.inl fun p e R s m args below meth c QF C Hr locs lsr h1 h2 h3 h4 h5 => ?_
    obtain ⟨ty, e1, e2⟩ := hIRet_narrow h.1
    exact C.2.2.2.2.2.2.2.2.2.2 _ H cu Hr locs lsr pc _ _ (Or.inr (Or.inl ⟨v, ty, rfl, rfl, rfl, e1, e2⟩)) (by rw [C.2.1]; exact hd) h1 h2 h.2 h4 h5
  · exact h.elim
def x_return (Q : hPost) : hSem := fun k cu ls st H => match st with
  | [] => Q none H
  | _ => False
theorem ok_return {K : hK} {M : hM} {B : Nat × Nat} {Q : hPost} {pc : Nat} (hr : M.2.2.2.1 = none) (hd : decode M.2.1 pc = .ok (.return_, 1)) : hOk (hJ K M B Q) pc (x_return Q) := by
  intro k hk cu ls st H h
  unfold x_return at h
  split at h
  · refine Or.inl fun p e R s m args below meth c QF C Hr locs lsr h1 h2 h3 h4 h5 => ?_
    exact C.2.2.2.2.2.2.2.2.2.2 _ H cu Hr locs lsr pc _ _ (Or.inl ⟨rfl, rfl, rfl, hr⟩) (by rw [C.2.1]; exact hd) h1 h2 h h4 h5
  · exact h.elim
def x_areturn (Q : hPost) : hSem := fun k cu ls st H => match st with
  | [.ref a] => Q (some (.ref a)) H
  | [.null] => Q (some .null) H
  | _ => False
theorem ok_areturn {K : hK} {M : hM} {B : Nat × Nat} {Q : hPost} {pc : Nat} {cn : String} (hr : M.2.2.2.1 = some (.object cn)) (hd : decode M.2.1 pc = .ok (.areturn, 1)) : hOk (hJ K M B Q) pc (x_areturn Q) := by
  intro k hk cu ls st H h
  unfold x_areturn at h
  split at h
  · rename_i a
    refine Or.inl fun p e R s m args below meth c QF C Hr locs lsr h1 h2 h3 h4 h5 => ?_
    exact C.2.2.2.2.2.2.2.2.2.2 _ H cu Hr locs lsr pc _ _ (Or.inr (Or.inr ⟨_, cn, rfl, rfl, rfl, hr, Or.inr ⟨a, rfl⟩⟩)) (by rw [C.2.1]; exact hd) h1 h2 h h4 h5
  · refine Or.inl fun p e R s m args below meth c QF C Hr locs lsr h1 h2 h3 h4 h5 => ?_
    exact C.2.2.2.2.2.2.2.2.2.2 _ H cu Hr locs lsr pc _ _ (Or.inr (Or.inr ⟨_, cn, rfl, rfl, rfl, hr, Or.inl rfl⟩)) (by rw [C.2.1]; exact hd) h1 h2 h h4 h5
  · exact h.elim
