/-! the class reads: its steps -/
def Sps (a k : Nat) : Prop := (a = 11 ∧ (k = 5 ∨ k = 7 ∨ k = 8 ∨ k = 9)) ∨ (a = 15 ∧ (k = 3 ∨ k = 4)) ∨ a = 17
def CP (M : Mem) (T : Nat → Nat) (len : Nat) (pl : Nat → Nat) (ord : Bool) (k p u : Nat) (ay : Bool) : Prop := LayC M ∧ len ≤ 400 ∧ (∀ j, T j < 2147483648) ∧ (∀ j, j ≤ len → mI M 13 j = nI (T j) ∧ mI M 14 j = nI (pl j) ∧ mI M 11 5 = -1) ∧ mI M 11 6 = b1 ord ∧ mI M 11 7 = nI k ∧ mI M 11 8 = nI (T k) ∧ mI M 11 9 = nI p ∧ mI M 15 3 = nI u ∧ mI M 15 4 = b1 ay ∧ k ≤ len
section
variable {M : Mem} {T : Nat → Nat} {len : Nat} {pl : Nat → Nat} {ord ay : Bool} {k p u : Nat}
def NXT (M : Mem) (T : Nat → Nat) (k : Nat) : Mem := wI (wI M 11 7 (nI (k + 1))) 11 8 (nI (T (k + 1)))
theorem c_next (hT : ∀ j, len ≤ j → T j = 256) (h : CP M T len pl ord k p u ay) (hk : k < len) : f_X7_next M 11 = some (NXT M T k) := by
  obtain ⟨h1, h2, h3, h4, h5, h6, h7, h8, h9, h10, h11⟩ := h
  unfold f_X7_next
  unfold LayC at h1
  simp only [h1, grd_T, Option.bind_some, bv, mR_wI, ok_wI, mL_wI, h6, nsucc, mI_wIs]
  rw [if_neg (show ¬ (400 : Int32) ≤ nI k by rw [show (400 : Int32) = nI 400 from rfl, nleI (by omega) (by omega)]; omega)]
  rw [grd_y ((nvp (by omega)).mpr (by omega)), nclampI (by omega), mI_wI_row (by decide), (h4 (k + 1) (by omega)).1]
  rfl
theorem fr_nxt : Fr Sps M (NXT M T k) := (Fr.rf.wI (Or.inl (by omega))).wI (Or.inl (by omega))
theorem CP.fr {M1 : Mem} {k1 p1 u1 : Nat} {ay1 : Bool} (h : CP M T len pl ord k p u ay) (hF : Fr Sps M M1) (h5 : mI M1 11 5 = mI M 11 5) (h7 : mI M1 11 7 = nI k1) (h8 : mI M1 11 8 = nI (T k1)) (h9 : mI M1 11 9 = nI p1) (h3 : mI M1 15 3 = nI u1) (h4 : mI M1 15 4 = b1 ay1) (hk : k1 ≤ len) : CP M1 T len pl ord k1 p1 u1 ay1 := by
  obtain ⟨g1, g2, g3, g4, g5, g6, g7, g8, g9, g10, g11⟩ := h
  have e : ∀ a k, (a = 13 ∨ a = 14 ∨ (a = 11 ∧ k = 6)) → mI M1 a k = mI M a k := fun a k q => hF.i (by unfold Sps; omega)
  exact ⟨g1.fr hF, g2, g3, fun j hj => by rw [e 13 j (by omega), e 14 j (by omega), h5]; exact g4 j hj, by rw [e 11 6 (by omega)]; exact g5, h7, h8, h9, h3, h4, hk⟩
theorem CP.nxt (h : CP M T len pl ord k p u ay) (hk : k < len) : CP (NXT M T k) T len pl ord (k + 1) p u ay := by
  obtain ⟨g1, g2, g3, g4, g5, g6, g7, g8, g9, g10, g11⟩ := id h
  exact h.fr fr_nxt (by rw [NXT, mI_wI_ne (by decide), mI_wI_ne (by decide)]) (by rw [NXT, mI_wI_ne (by decide), mI_wIs]) (by rw [NXT, mI_wIs]) (by rw [NXT, mI_wI_ne (by decide), mI_wI_ne (by decide)]; exact g8) (by rw [NXT, mI_wI_row (by decide), mI_wI_row (by decide)]; exact g9) (by rw [NXT, mI_wI_row (by decide), mI_wI_row (by decide)]; exact g10) hk
theorem nxt_17 {i : Nat} : mI (NXT M T k) 17 i = mI M 17 i := by
  unfold NXT
  rw [mI_wI_row (by decide), mI_wI_row (by decide)]
theorem c_fail (h : CP M T len pl ord k p u ay) : f_X7_fail M 11 = some (wI M 11 5 (nI (pl k)), 0) := by
  obtain ⟨h1, h2, h3, h4, h5, h6, h7, h8, h9, h10, h11⟩ := h
  unfold f_X7_fail
  unfold LayC at h1
  simp only [h1, grd_T, Option.bind_some, bv, h6]
  rw [grd_y ((nvp (by omega)).mpr (by omega)), nclampI (by omega), (h4 k h11).2.1]
def EMT (M : Mem) (u v : Nat) : Mem := wI (wI M 17 u (nI v)) 15 3 (nI (u + 1))
theorem c_emit (h : CP M T len pl ord k p u ay) (hu : u ≤ 400) {op arg : Nat} : f_X9_emit M 15 (nI op) (nI arg) = some (EMT M u (16 * arg + op), nI u) := by
  obtain ⟨h1, h2, h3, h4, h5, h6, h7, h8, h9, h10, h11⟩ := h
  unfold f_X9_emit
  unfold LayC at h1
  simp only [h1, grd_T, Option.bind_some, bv, h9]
  rw [if_neg (show ¬ nI 800 ≤ nI u by rw [nleI (by omega) (by omega)]; omega), grd_y ((nvp (by omega)).mpr (by omega)), nclampI (by omega), mI_wI_row (by decide), h9, mI_wIs, nsucc, show (16 : Int32) = nI 16 from rfl, nmul, nadd, Nat.mul_comm arg 16, npred1 (by omega)]
  rfl
theorem fr_emt {v : Nat} : Fr Sps M (EMT M u v) := (Fr.rf.wI (Or.inr (Or.inr rfl))).wI (Or.inr (Or.inl (by omega)))
theorem CP.emt (h : CP M T len pl ord k p u ay) {v : Nat} : CP (EMT M u v) T len pl ord k p (u + 1) ay := by
  obtain ⟨g1, g2, g3, g4, g5, g6, g7, g8, g9, g10, g11⟩ := id h
  exact h.fr fr_emt (by rw [EMT, mI_wI_row (by decide), mI_wI_row (by decide)]) (by rw [EMT, mI_wI_row (by decide), mI_wI_row (by decide)]; exact g6) (by rw [EMT, mI_wI_row (by decide), mI_wI_row (by decide)]; exact g7) (by rw [EMT, mI_wI_row (by decide), mI_wI_row (by decide)]; exact g8) (by rw [EMT, mI_wIs]) (by rw [EMT, mI_wI_ne (by decide), mI_wI_row (by decide)]; exact g10) g11
theorem emt_17 {v i : Nat} : mI (EMT M u v) 17 i = if i = u then nI v else mI M 17 i := by
  unfold EMT
  rw [mI_wI_row (by decide), mI_wI]
  by_cases q : i = u
  · rw [if_pos ⟨rfl, q⟩, if_pos q]
  · rw [if_neg (fun w => q w.2), if_neg q]
theorem sw37 {α : Type} {x : Int32} {l : List (Nat × Option α)} {d : Option α} {i : Nat} {q : Nat × Option α} (h : l[i]? = some q) (hx : x.toInt = 37 + i) (hl : l.length ≤ 1000) : swO x (swC 37 l) d = q.2 := swC_in l 37 i q (by decide) (by omega) h (by omega)
theorem sw37n {α : Type} {x : Int32} {l : List (Nat × Option α)} {d : Option α} (hl : l.length ≤ 1000) (h : x.toInt < 37 ∨ (37 + l.length : Int) ≤ x.toInt) : swO x (swC 37 l) d = d := swC_out l 37 (by decide) (by omega) (by omega)
def opA (t : Nat) : Option Nat := if t = 43 then some 3 else if t = 45 then some 4 else if t = 42 then some 5 else if t = 47 then some 6 else if t = 37 then some 7 else if t = 60 then some 8 else if t = 62 then some 9 else if t = 61 then some 10 else none
theorem c_opOf (h : CP M T len pl ord k p u ay) {lo hi : Int32} : f_X7_opOf M 11 lo hi = some (if oI (opA (T k)) < lo then -1 else if hi < oI (opA (T k)) then -1 else oI (opA (T k))) := by
  obtain ⟨h1, h2, h3, h4, h5, h6, h7, h8, h9, h10, h11⟩ := h
  have hb := h3 k
  have tI : (nI (T k)).toInt = T k := nI_tI hb
  unfold f_X7_opOf
  unfold LayC at h1
  simp only [h1, grd_T, bv, h7]
  have fin : ∀ o : Int32, (if o < lo then (some (-1) : Option Int32) else (if hi < o then (some (-1)) else (some o))) = some (if o < lo then -1 else if hi < o then -1 else o) := by
    intro o
    split
    · rfl
    · split <;> rfl
  simp only [fin]
  by_cases q : 37 ≤ T k ∧ T k < 63
  · obtain ⟨i, hi26, e⟩ : ∃ i, i < 26 ∧ T k = 37 + i := ⟨T k - 37, by omega, by omega⟩
    rw [e] at tI ⊢
    have cases26 : i = 0 ∨ i = 1 ∨ i = 2 ∨ i = 3 ∨ i = 4 ∨ i = 5 ∨ i = 6 ∨ i = 7 ∨ i = 8 ∨ i = 9 ∨ i = 10 ∨ i = 11 ∨ i = 12 ∨ i = 13 ∨ i = 14 ∨ i = 15 ∨ i = 16 ∨ i = 17 ∨ i = 18 ∨ i = 19 ∨ i = 20 ∨ i = 21 ∨ i = 22 ∨ i = 23 ∨ i = 24 ∨ i = 25 := by omega
    have tab : ∃ n, (([(145, some (if (7 : Int32) < lo then -1 else if hi < 7 then -1 else 7)), (169, some (if (-1 : Int32) < lo then -1 else if hi < -1 then -1 else -1)), (169, some (if (-1 : Int32) < lo then -1 else if hi < -1 then -1 else -1)), (169, some (if (-1 : Int32) < lo then -1 else if hi < -1 then -1 else -1)), (169, some (if (-1 : Int32) < lo then -1 else if hi < -1 then -1 else -1)), (134, some (if (5 : Int32) < lo then -1 else if hi < 5 then -1 else 5)), (124, some (if (3 : Int32) < lo then -1 else if hi < 3 then -1 else 3)), (169, some (if (-1 : Int32) < lo then -1 else if hi < -1 then -1 else -1)), (129, some (if (4 : Int32) < lo then -1 else if hi < 4 then -1 else 4)), (169, some (if (-1 : Int32) < lo then -1 else if hi < -1 then -1 else -1)), (139, some (if (6 : Int32) < lo then -1 else if hi < 6 then -1 else 6)), (169, some (if (-1 : Int32) < lo then -1 else if hi < -1 then -1 else -1)), (169, some (if (-1 : Int32) < lo then -1 else if hi < -1 then -1 else -1)), (169, some (if (-1 : Int32) < lo then -1 else if hi < -1 then -1 else -1)), (169, some (if (-1 : Int32) < lo then -1 else if hi < -1 then -1 else -1)), (169, some (if (-1 : Int32) < lo then -1 else if hi < -1 then -1 else -1)), (169, some (if (-1 : Int32) < lo then -1 else if hi < -1 then -1 else -1)), (169, some (if (-1 : Int32) < lo then -1 else if hi < -1 then -1 else -1)), (169, some (if (-1 : Int32) < lo then -1 else if hi < -1 then -1 else -1)), (169, some (if (-1 : Int32) < lo then -1 else if hi < -1 then -1 else -1)), (169, some (if (-1 : Int32) < lo then -1 else if hi < -1 then -1 else -1)), (169, some (if (-1 : Int32) < lo then -1 else if hi < -1 then -1 else -1)), (169, some (if (-1 : Int32) < lo then -1 else if hi < -1 then -1 else -1)), (151, some (if (8 : Int32) < lo then -1 else if hi < 8 then -1 else 8)), (163, some (if (10 : Int32) < lo then -1 else if hi < 10 then -1 else 10)), (157, some (if (9 : Int32) < lo then -1 else if hi < 9 then -1 else 9))] : List (Nat × Option Int32))[i]? = some (n, some (if oI (opA (37 + i)) < lo then -1 else if hi < oI (opA (37 + i)) then -1 else oI (opA (37 + i))))) := by
      rcases cases26 with w | w | w | w | w | w | w | w | w | w | w | w | w | w | w | w | w | w | w | w | w | w | w | w | w | w <;> subst w <;> exact ⟨_, rfl⟩
    obtain ⟨n, hn⟩ := tab
    rw [sw37 hn (by rw [tI]; simp) (by simp)]
  · rw [sw37n (by simp) (by rw [tI]; simp; omega)]
    have e : opA (T k) = none := by
      unfold opA
      rw [if_neg (by omega), if_neg (by omega), if_neg (by omega), if_neg (by omega), if_neg (by omega), if_neg (by omega), if_neg (by omega), if_neg (by omega)]
    rw [e]
    rfl
theorem opA_S (t : Nat) : (if oI (opA t) < 3 then (-1 : Int32) else if 4 < oI (opA t) then -1 else oI (opA t)) = oI (opS t) := by
  unfold opA opS
  by_cases h1 : t = 43
  · rw [if_pos h1, if_pos h1]; decide
  rw [if_neg h1, if_neg h1]
  by_cases h2 : t = 45
  · rw [if_pos h2, if_pos h2]; decide
  rw [if_neg h2, if_neg h2]
  split
  · decide
  split
  · decide
  split
  · decide
  split
  · decide
  split
  · decide
  split
  · decide
  · decide
theorem opA_T (t : Nat) : (if oI (opA t) < 5 then (-1 : Int32) else if 7 < oI (opA t) then -1 else oI (opA t)) = oI (opT t) := by
  unfold opA opT
  by_cases h1 : t = 43
  · subst h1; decide
  rw [if_neg h1]
  by_cases h2 : t = 45
  · subst h2; decide
  rw [if_neg h2]
  by_cases h3 : t = 42
  · rw [if_pos h3, if_pos h3]; decide
  rw [if_neg h3, if_neg h3]
  by_cases h4 : t = 47
  · rw [if_pos h4, if_pos h4]; decide
  rw [if_neg h4, if_neg h4]
  by_cases h5 : t = 37
  · rw [if_pos h5, if_pos h5]; decide
  rw [if_neg h5, if_neg h5]
  split
  · decide
  split
  · decide
  split
  · decide
  · decide
theorem opA_C (t : Nat) : (if oI (opA t) < 8 then (-1 : Int32) else if 10 < oI (opA t) then -1 else oI (opA t)) = oI (opC t) := by
  unfold opA opC
  by_cases h1 : t = 43
  · subst h1; decide
  rw [if_neg h1]
  by_cases h2 : t = 45
  · subst h2; decide
  rw [if_neg h2]
  by_cases h3 : t = 42
  · subst h3; decide
  rw [if_neg h3]
  by_cases h4 : t = 47
  · subst h4; decide
  rw [if_neg h4]
  by_cases h5 : t = 37
  · subst h5; decide
  rw [if_neg h5]
  split
  · decide
  split
  · decide
  split
  · decide
  · decide
/-- what is told behind reading something -/
def PSQ (M : Mem) (T : Nat → Nat) (len : Nat) (pl : Nat → Nat) (ord : Bool) (u : Nat) (ay : Bool) (r : PR) (q : Mem × Int32) : Prop := Fr Sps M q.1 ∧ (∀ i, i < u → mI q.1 17 i = mI M 17 i) ∧ match r with
  | .inl j => q.2 = 0 ∧ mI q.1 11 5 = nI (pl j)
  | .inr x => q.2 = 1 ∧ ∃ ay', CP q.1 T len pl ord x.1 x.2.1 (u + x.2.2.length) ay' ∧ (∀ i v, x.2.2[i]? = some v → mI q.1 17 (u + i) = nI v) ∧ (ay = true → ay' = true) ∧ (ord = false → ay' = false → ∀ v ∈ x.2.2, v ≠ 98)
def PC (F : Mem → Nat → Int32 → Option (Mem × Int32)) (dep : Nat) (T : Nat → Nat) (len : Nat) (pl : Nat → Nat) (ord : Bool) (f : PF3) : Prop := ∀ M k p u ay, CP M T len pl ord k p u ay → p ≤ 50 → u ≤ k → TT (F M 11 (nI dep)) (PSQ M T len pl ord u ay (f k p u))
theorem PSQ_fail (h : CP M T len pl ord k p u ay) {M0 : Mem} {u0 : Nat} (hu : u0 ≤ u) (hF : Fr Sps M0 M) (h17 : ∀ i, i < u0 → mI M 17 i = mI M0 17 i) {ay0 : Bool} : ∃ q, f_X7_fail M 11 = some q ∧ bl q.2 ∧ PSQ M0 T len pl ord u0 ay0 (.inl k) (q.1, q.2) := by
  refine ⟨_, c_fail h, show bl 0 from rfl, hF.wI (Or.inl (by omega)), fun i hi => ?_, rfl, mI_wIs⟩
  rw [mI_wI_row (by decide)]
  exact h17 i hi
end
