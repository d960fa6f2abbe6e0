/-! THE START holds the invariant -/
set_option maxRecDepth 100000 in
theorem st_C : LayC (XD dL328) := by
  unfold LayC okO
  repeat' apply And.intro
  all_goals decide +kernel
set_option maxRecDepth 100000 in
theorem st_M : LayM (XD dL328) := by
  unfold LayM okO
  repeat' apply And.intro
  all_goals decide +kernel
theorem st_k : ∀ t, t < 6 → mI (XD dL328) 49 t = 0 ∧ mI (XD dL328) 49 (6 + t) = 1 ∧ mI (XD dL328) 49 (12 + t) = -1 ∧ mI (XD dL328) 2 t = 0 ∧ mI (XD dL328) 3 t = 1 ∧ mI (XD dL328) 4 t = -1 := by decide +kernel
theorem st_o : mI (XD dL328) 49 54 = 0 ∧ mI (XD dL328) 49 55 = 0 ∧ mI (XD dL328) 49 56 = 0 ∧ mI (XD dL328) 49 57 = 0 ∧ mI (XD dL328) 49 58 = -1 ∧ mI (XD dL328) 1 8 = 0 ∧ mI (XD dL328) 1 9 = 0 ∧ mI (XD dL328) 1 10 = -1 ∧ mI (XD dL328) 1 11 = 0 ∧ mI (XD dL328) 1 12 = 0 ∧ mI (XD dL328) 1 13 = 1 ∧ mI (XD dL328) 1 14 = 1 := by decide +kernel
theorem st_w : ∀ i, i < 130 → mI (XD dL328) 55 i = nI ((joinW rW).getD i 0) := by decide +kernel
theorem st_s : mI (XD dL328) 0 11 = 0 ∧ mI (XD dL328) 0 12 = 0 ∧ mI (XD dL328) 0 13 = 0 ∧ mI (XD dL328) 0 14 = -1 ∧ mI (XD dL328) 0 15 = -1 ∧ mI (XD dL328) 47 0 = 0 ∧ mI (XD dL328) 47 1 = 0 ∧ mI (XD dL328) 47 12 = 0 ∧ mI (XD dL328) 47 17 = 0 ∧ mI (XD dL328) 47 18 = -1 ∧ mI (XD dL328) 47 34 = -1 ∧ mI (XD dL328) 47 46 = -1 ∧ mI (XD dL328) 47 57 = -1 ∧ mI (XD dL328) 11 4 = 0 ∧ mI (XD dL328) 42 6 = -1 := by decide +kernel
theorem st_n : mn (XD dL328) = 78 ∧ mz (XD dL328) = 522956 := by decide +kernel
theorem st_r : mR (XD dL328) 42 3 = some 43 ∧ mR (XD dL328) 42 4 = some 44 ∧ mR (XD dL328) 21 3 = none ∧ mR (XD dL328) 32 4 = none := by decide +kernel
theorem st_z {a : Nat} (h : a = 21 ∨ a = 25 ∨ a = 32 ∨ a = 34 ∨ a = 45 ∨ a = 48 ∨ a = 51) (k : Nat) : mI (XD dL328) a k = 0 := by
  rcases h with h | h | h | h | h | h | h
  all_goals
    subst h
    exact XDi0 dL328 _ (by decide +kernel) k
theorem st_e {a : Nat} (h : a = 9 ∨ a = 10 ∨ a = 33) (k : Nat) : mR (XD dL328) a k = none := by
  rcases h with h | h | h
  all_goals
    subst h
    exact XDr0 dL328 _ (by decide +kernel) k
theorem st_rel : REL (XD dL328) := by
  obtain ⟨o1, o2, o3, o4, o5, o6, o7, o8, o9, o10, o11, o12⟩ := st_o
  obtain ⟨s1, s2, s3, s4, s5, s6, s7, -⟩ := st_s
  refine ⟨st_C, st_M, ⟨fun t ht => ⟨⟨0, by omega, (st_k t ht).1⟩, Or.inr (st_k t ht).2.1, Or.inl (st_k t ht).2.2.1⟩, ⟨⟨0, by omega, o1⟩, 0, by omega, o2⟩, ⟨0, by omega, o4, Or.inl o5⟩, ⟨0, by omega, o3, fun h hh => by omega⟩⟩, ⟨fun t ht => ?_, ⟨by rw [o6, o3], by rw [o7, o4], by rw [o8, o5], by rw [o9, o1], by rw [o10, o2]⟩, fun n h h1 h2 h3 => ?_⟩, by rw [s2, s6], fun n _ => by rw [st_z (by omega), st_z (by omega)]⟩
  · obtain ⟨k1, k2, k3, k4, k5, k6⟩ := st_k t ht
    exact ⟨by rw [k4, k1], by rw [k5, k2], by rw [k6, k3]⟩
  · rw [o3] at h2
    have : 0 = n := (neqI (by omega) (by omega)).mp (show nI 0 = nI n from h2)
    omega
theorem st_inv0 : INV0 0 (XD dL328) := by
  obtain ⟨o1, o2, o3, o4, o5, o6, o7, o8, o9, o10, o11, o12⟩ := st_o
  obtain ⟨s1, s2, s3, s4, s5, s6, s7, s8, s9, s10, s11, s12, s13, s14, s15⟩ := st_s
  obtain ⟨n1, n2⟩ := st_n
  refine ⟨st_rel, ⟨by omega, by omega, ⟨1, o11, by omega, by omega⟩, ⟨1, o12, by omega, by omega⟩, 0, s7, by omega⟩, tape0 s14 s9, st_w, ⟨fun k hk => Or.inl ⟨st_z (by omega) k, st_e (by omega) k⟩, fun v v' e => ?_⟩, ⟨by rw [s3, s8], by rw [s4, s10], by rw [s5, s12], 0, by omega, s1, by rw [s13]; decide, fun i hi => by omega⟩, ⟨fun g y hg e => ?_, fun c g h1 h2 h3 => ?_⟩, ?_⟩
  · rw [st_e (by omega)] at e
    cases e
  · rw [st_e (by omega)] at e
    cases e
  · rw [o4] at h2
    have : 0 = c := (neqI (by omega) (by omega)).mp (show nI 0 = nI c from h2)
    omega
  · refine ⟨0, 0, 1, 0, by omega, st_z (by omega) 4, fun s t p n h _ _ _ _ _ => ⟨0, st_z (by omega) _, by omega, by omega⟩, st_z (by omega) 5, o11, by omega, by omega, st_z (by omega) 6, by omega, fun tx e => ?_, fun w => by omega⟩
    rw [st_r.2.2.1] at e
    cases e
theorem st_inv : INV1 0 (XD dL328) := by
  obtain ⟨o1, o2, o3, o4, o5, o6, o7, o8, o9, o10, o11, o12⟩ := st_o
  obtain ⟨s1, s2, s3, s4, s5, s6, s7, s8, s9, s10, s11, s12, s13, s14, s15⟩ := st_s
  obtain ⟨r1, r2, r3, r4⟩ := st_r
  refine ⟨st_inv0, ⟨43, 44, r1, r2, Or.inl ⟨rfl, rfl, s15⟩⟩, Or.inl s11, ⟨⟨0, by omega, st_z (by omega) 3⟩, fun i j d _ _ e => ?_, fun i d _ e => ?_⟩, ⟨Or.inl r4, 0, 0, 1, st_z (by omega) 5, st_z (by omega) 6, o12, by omega, by omega, by omega, fun w => by omega⟩, 0, 0, 1, st_z (by omega) 8, st_z (by omega) 9, o12, by omega, by omega, by omega, fun w => by omega⟩
  · rw [st_e (by omega)] at e
    cases e
  · rw [st_e (by omega)] at e
    cases e
theorem st_room : mz (XD dL328) + rmz (XD dL328) ≤ 606968 := by
  have h1 : chz (XD dL328) ≤ 18662 := by
    unfold chz
    split
    · exact Nat.le_refl _
    · omega
  have h2 : ptk (XD dL328) ≤ 3 := by
    unfold ptk
    have a := nn_le (mR (XD dL328) 33 0)
    have b := nn_le (mR (XD dL328) 33 1)
    have c := nn_le (mR (XD dL328) 33 2)
    omega
  have h3 : fsk (XD dL328) ≤ 1 := nn_le _
  rw [st_n.2]
  unfold rmz
  omega
