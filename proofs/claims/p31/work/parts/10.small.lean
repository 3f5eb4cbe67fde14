/-! how a contract is begun; the small static methods -/
set_option maxRecDepth 100000 in
set_option maxHeartbeats 4000000 in
theorem hCT.go {K : hK} {M : hM} {av : List Value} {H : hAH} {mc ms : Nat} {Q : hPost} {code : List hSem} (hc : hAllOk (hJ K M (mc, ms) Q) 0 code) (stops : List Nat) (n : Nat) (hy : plainName M.1.cls = true) (hav : av.all (fun w => w.category == 1) = true) (hlen : Nat.ble (lg_sl av).length M.2.2.1 = true) (h : hGo code stops (hJ K M (mc, ms) Q) n 0 (0, 0) (hEnt av M.2.2.1) [] H) : hCT K M av H mc ms Q :=
  hCT.mk hy (fun w hw => by simpa using List.all_eq_true.mp hav w hw) (Nat.le_of_ble_eq_true hlen) (hGo_sound hc stops n _ _ _ _ _ h)
set_option maxRecDepth 100000 in
set_option maxHeartbeats 4000000 in
theorem c_Pa_isWithin (K : hK) (H : hAH) (v l m : Int32) : hCT K M_Pa_isWithin [.int v, .int l, .int m] H 0 0 (fun r H' => r = some (.int (if l ≤ v ∧ v ≤ m then 1 else 0)) ∧ H' = H) := by
  refine hCT.go (okc_Pa_isWithin K _ _) [] 30 (by decide +kernel) rfl rfl ?_
  refine ⟨fun h1 => ?_, fun h1 => ⟨fun h2 => ?_, fun h2 => ?_⟩⟩
  · exact ⟨Or.inl rfl, by rw [if_neg]; rintro ⟨a, -⟩; exact absurd a (Int32.not_le.mpr h1), rfl⟩
  · exact ⟨Or.inl rfl, by rw [if_neg]; rintro ⟨-, a⟩; exact absurd a (Int32.not_le.mpr h2), rfl⟩
  · exact ⟨Or.inr rfl, by rw [if_pos ⟨Int32.not_lt.mp h1, Int32.not_lt.mp h2⟩], rfl⟩
set_option maxRecDepth 100000 in
set_option maxHeartbeats 4000000 in
theorem c_Pa_asNumber (K : hK) (H : hAH) (v : Int32) : hCT K M_Pa_asNumber [.int v] H 0 0 (fun r H' => r = some (.int (if v = 0 then 0 else 1)) ∧ H' = H) := by
  refine hCT.go (okc_Pa_asNumber K _ _) [] 30 (by decide +kernel) rfl rfl ?_
  refine ⟨fun h1 => ?_, fun h1 => ?_⟩
  · exact ⟨trivial, by rw [if_pos h1], rfl⟩
  · exact ⟨trivial, by rw [if_neg h1], rfl⟩
set_option maxRecDepth 100000 in
set_option maxHeartbeats 4000000 in
theorem c_Pa_bitOf (K : hK) (H : hAH) (v : Int32) : hCT K M_Pa_bitOf [.int v] H 0 0 (fun r H' => r = some (.int ((1 : Int32) <<< (v &&& 31))) ∧ H' = H) := by
  refine hCT.go (okc_Pa_bitOf K _ _) [] 30 (by decide +kernel) rfl rfl ?_
  exact ⟨trivial, rfl, rfl⟩
set_option maxRecDepth 100000 in
set_option maxHeartbeats 4000000 in
theorem c_Pa_isIn (K : hK) (H : hAH) (s v : Int32) : hCT K M_Pa_isIn [.int s, .int v] H 0 0 (fun r H' => r = some (.int (if s &&& ((1 : Int32) <<< (v &&& 31)) = 0 then 0 else 1)) ∧ H' = H) := by
  refine hCT.go (okc_Pa_isIn K _ _) [] 30 (by decide +kernel) rfl rfl ?_
  refine ⟨_, c_Pa_bitOf K H v, ?_⟩
  rintro _ _ ⟨rfl, rfl⟩
  refine ⟨fun h1 => ?_, fun h1 => ?_⟩
  · exact ⟨Or.inl rfl, by rw [if_pos h1], rfl⟩
  · exact ⟨Or.inr rfl, by rw [if_neg h1], rfl⟩
set_option maxRecDepth 100000 in
set_option maxHeartbeats 4000000 in
theorem c_Pa_isPart (K : hK) (H : hAH) (a b : Int32) : hCT K M_Pa_isPart [.int a, .int b] H 0 0 (fun r H' => r = some (.int (if a &&& (b ^^^ (-1)) = 0 then 1 else 0)) ∧ H' = H) := by
  refine hCT.go (okc_Pa_isPart K _ _) [] 30 (by decide +kernel) rfl rfl ?_
  refine ⟨fun h1 => ?_, fun h1 => ?_⟩
  · exact ⟨Or.inl rfl, by rw [if_neg h1], rfl⟩
  · exact ⟨Or.inr rfl, by rw [if_pos h1], rfl⟩
set_option maxRecDepth 100000 in
set_option maxHeartbeats 4000000 in
theorem c_Pa_atomOf (K : hK) (H : hAH) (a b : Int32) : hCT K M_Pa_atomOf [.int a, .int b] H 0 0 (fun r H' => r = some (.int ((a <<< ((12 : Int32) &&& 31)) ||| b)) ∧ H' = H) := by
  refine hCT.go (okc_Pa_atomOf K _ _) [] 30 (by decide +kernel) rfl rfl ?_
  exact ⟨trivial, rfl, rfl⟩
/-- a weaker end -/
theorem hJ.imp {K : hK} {M : hM} {B : Nat × Nat} {Q Q' : hPost} {pc : Nat} {cu : hCu} {ls : hLs} {st : hStk} {H : hAH} (h : hJ K M B Q pc cu ls st H) (hq : ∀ r H', Q r H' → Q' r H') : hJ K M B Q' pc cu ls st H :=
  Or.inl fun _ _ _ _ _ _ _ _ _ _ C _ _ _ h1 h2 h3 h4 h5 => h.use ⟨C.1, C.2.1, C.2.2.1, C.2.2.2.1, C.2.2.2.2.1, C.2.2.2.2.2.1, C.2.2.2.2.2.2.1, C.2.2.2.2.2.2.2.1, C.2.2.2.2.2.2.2.2.1, C.2.2.2.2.2.2.2.2.2.1, fun r H' cu Hr locs lsr pc ins st g1 g2 g3 g4 g5 => C.2.2.2.2.2.2.2.2.2.2 r H' cu Hr locs lsr pc ins st g1 g2 g3 g4 (hq r H' g5)⟩ h1 h2 h3 h4 h5
