/-! the reference reads: its steps -/
def Srp (a k : Nat) : Prop := a = 47 ∧ (k = 23 ∨ k = 24 ∨ k = 25)
def RPS (M : Mem) (T : Nat → Nat) (len : Nat) (pl : Nat → Nat) (ord : Bool) (k p : Nat) : Prop := LayM M ∧ len ≤ 400 ∧ (∀ j, j ≤ len → mI M 58 j = nI (rc (T j)) ∧ mI M 60 j = nI (pl j) ∧ pl j < 2147483648 ∧ (1000 ≤ T j → ∃ v, v < 2147483648 ∧ mI M 59 j = nI v ∧ (T j ≤ 2000 → v = T j - 1000) ∧ (2000 < T j → 1000 < v))) ∧ (∀ j, T j < 284 ∨ 1000 ≤ T j) ∧ mI M 47 14 = b1 ord ∧ mI M 47 23 = nI k ∧ mI M 47 24 = nI p ∧ mI M 47 25 = -1 ∧ k ≤ len ∧ p ≤ 51
/-- a fault was found: nothing is read any more -/
def BAD (M : Mem) : Prop := LayM M ∧ ¬ mI M 47 25 = -1
def RPQ (M : Mem) (T : Nat → Nat) (len : Nat) (pl : Nat → Nat) (ord : Bool) (r : PR) (M1 : Mem) : Prop := Fr Srp M M1 ∧ match r with
  | .inl j => mI M1 47 25 = nI (pl j) ∧ pl j < 2147483648
  | .inr x => RPS M1 T len pl ord x.1 x.2.1
section
variable {M : Mem} {T : Nat → Nat} {len : Nat} {pl : Nat → Nat} {ord : Bool} {k p : Nat}
theorem RPQ.bad {j : Nat} {M1 : Mem} (hM : LayM M) (h : RPQ M T len pl ord (.inl j) M1) : BAD M1 := ⟨hM.fr h.1, by rw [h.2.1]; exact nne_m1 h.2.2⟩
theorem RPS.fr {M1 : Mem} {k1 p1 : Nat} (h : RPS M T len pl ord k p) (hF : Fr Srp M M1) (h23 : mI M1 47 23 = nI k1) (h24 : mI M1 47 24 = nI p1) (h25 : mI M1 47 25 = -1) (hk : k1 ≤ len) (hp : p1 ≤ 51) : RPS M1 T len pl ord k1 p1 := by
  obtain ⟨g1, g2, g3, g4, g5, g6, g7, g8, g9, g10⟩ := h
  have e : ∀ a k, (a ≠ 47 ∨ (k ≠ 23 ∧ k ≠ 24 ∧ k ≠ 25)) → mI M1 a k = mI M a k := fun a k q => hF.i (by unfold Srp; omega)
  exact ⟨g1.fr hF, g2, fun j hj => by rw [e 58 j (by omega), e 60 j (by omega), e 59 j (by omega)]; exact g3 j hj, g4, by rw [e 47 14 (by omega)]; exact g5, h23, h24, h25, hk, hp⟩
theorem r_fine_y (h : RPS M T len pl ord k p) : f_X12_fine M 47 = some 1 := by
  have hM := h.1
  unfold LayM at hM
  unfold f_X12_fine
  simp only [hM, grd_T]
  rw [if_pos h.2.2.2.2.2.2.2.1]
theorem r_fine_n (h : BAD M) : f_X12_fine M 47 = some 0 := by
  have hM := h.1
  unfold LayM at hM
  unfold f_X12_fine
  simp only [hM, grd_T]
  rw [if_neg h.2]
theorem r_faults_n (h : BAD M) : f_X12_faults M 47 = some M := by
  have hM := h.1
  unfold LayM at hM
  unfold f_X12_faults
  simp only [hM, grd_T, r_fine_n h, Option.bind_some, if_true]
theorem r_takes_n (h : BAD M) {c : Int32} : f_X12_takes0 M 47 c = some (M, 0) := by
  have hM := h.1
  unfold LayM at hM
  unfold f_X12_takes0
  simp only [hM, grd_T, r_fine_n h, Option.bind_some, if_true, bv]
  rw [grd_y (show bl 0 from rfl)]
theorem r_must_n (h : BAD M) {c : Int32} : f_X12_must M 47 c = some M := by
  have hM := h.1
  unfold LayM at hM
  unfold f_X12_must
  simp only [hM, grd_T, r_takes_n h, Option.bind_some, if_true, r_faults_n h]
theorem r_mnum_n (h : BAD M) {a b : Int32} : f_X12_mustNumber M 47 a b = some M := by
  have hM := h.1
  unfold LayM at hM
  unfold f_X12_mustNumber
  simp only [hM, grd_T, r_fine_n h, Option.bind_some, if_true, bv]
def FLT (M : Mem) (pl : Nat → Nat) (k : Nat) : Mem := wI M 47 25 (nI (pl k))
theorem r_faults_y (h : RPS M T len pl ord k p) : f_X12_faults M 47 = some (FLT M pl k) := by
  obtain ⟨g1, g2, g3, g4, g5, g6, g7, g8, g9, g10⟩ := id h
  have hM := g1
  unfold LayM at hM
  unfold f_X12_faults
  rw [r_fine_y h, Option.bind_some, if_neg (show ¬ (1 : Int32) = 0 by decide)]
  simp only [hM, grd_T, Option.bind_some, bv, g6]
  rw [grd_y ((nvp (by omega)).mpr (by omega)), nclampI (by omega), (g3 k g9).2.1]
  rfl
theorem RPQ_flt (h : RPS M T len pl ord k p) {M0 : Mem} (hF : Fr Srp M0 M) : RPQ M0 T len pl ord (.inl k) (FLT M pl k) := ⟨hF.wI ⟨rfl, Or.inr (Or.inr rfl)⟩, mI_wIs, (h.2.2.1 k h.2.2.2.2.2.2.2.2.1).2.2.1⟩
theorem bad_flt (h : RPS M T len pl ord k p) : BAD (FLT M pl k) := (RPQ_flt h (M0 := M) Fr.rf).bad h.1
def ADV (M : Mem) (k : Nat) : Mem := wI M 47 23 (nI (k + 1))
theorem fr_adv : Fr Srp M (ADV M k) := Fr.rf.wI ⟨rfl, Or.inl rfl⟩
theorem RPS.adv (h : RPS M T len pl ord k p) (hk : k < len) : RPS (ADV M k) T len pl ord (k + 1) p := by
  obtain ⟨g1, g2, g3, g4, g5, g6, g7, g8, g9, g10⟩ := id h
  exact h.fr fr_adv mI_wIs (by rw [ADV, mI_wI_ne (by decide)]; exact g7) (by rw [ADV, mI_wI_ne (by decide)]; exact g8) hk g10
theorem r_takes_y (h : RPS M T len pl ord k p) {c : Nat} (hc : c < 400) : f_X12_takes0 M 47 (nI c) = some (if rc (T k) = c then (ADV M k, 1) else (M, 0)) := by
  obtain ⟨g1, g2, g3, g4, g5, g6, g7, g8, g9, g10⟩ := id h
  have hM := g1
  have hr := rc_le (T k)
  unfold LayM at hM
  unfold f_X12_takes0
  rw [r_fine_y h]
  simp only [hM, grd_T, Option.bind_some, bv, g6, nsucc]
  rw [grd_y ((nvp (by omega)).mpr (by omega)), nclampI (by omega), (g3 k g9).1, if_neg (show ¬ (1 : Int32) = 0 by decide)]
  by_cases q : rc (T k) = c
  · rw [if_pos ((neqI (by omega) (by omega)).mpr q), if_pos q, if_neg (show ¬ (1 : Int32) = 0 by decide), grd_y (show bl 1 from rfl)]
    rfl
  · rw [if_neg (fun w => q ((neqI (by omega) (by omega)).mp w)), if_neg q, if_pos trivial, grd_y (show bl 0 from rfl)]
theorem r_must_y (h : RPS M T len pl ord k p) {c : Nat} (hc : c < 400) : f_X12_must M 47 (nI c) = some (if rc (T k) = c then ADV M k else FLT M pl k) := by
  have hM := h.1
  unfold LayM at hM
  unfold f_X12_must
  rw [r_takes_y h hc]
  simp only [hM, grd_T, Option.bind_some]
  by_cases q : rc (T k) = c
  · rw [if_pos q, if_pos q, if_neg (show ¬ (1 : Int32) = 0 by decide)]
  · rw [if_neg q, if_neg q, if_pos rfl, r_faults_y h, Option.bind_some]
theorem r_mnum_y (h : RPS M T len pl ord k p) {lo hi : Nat} (hlo : lo ≤ 1000) (hlh : hi ≤ 1000) : f_X12_mustNumber M 47 (nI lo) (nI hi) = some (if 1000 + lo ≤ T k ∧ T k ≤ 1000 + hi then ADV M k else FLT M pl k) := by
  obtain ⟨g1, g2, g3, g4, g5, g6, g7, g8, g9, g10⟩ := id h
  have hM := g1
  have hr := rc_le (T k)
  unfold LayM at hM
  unfold f_X12_mustNumber
  rw [r_fine_y h]
  simp only [hM, grd_T, Option.bind_some, bv, g6, nsucc]
  rw [if_neg (show ¬ (1 : Int32) = 0 by decide), r_faults_y h, r_fine_y h, Option.bind_some, Option.bind_some, r_fine_n (bad_flt h), Option.bind_some, if_pos rfl, if_neg (show ¬ (1 : Int32) = 0 by decide), grd_y ((nvp (by omega)).mpr (by omega)), nclampI (by omega), (g3 k g9).1]
  by_cases q : 1000 ≤ T k
  · obtain ⟨v, v1, v2, v3, v4⟩ := (g3 k g9).2.2.2 q
    rw [if_pos (show nI (rc (T k)) = 50 from by rw [rc_num.mpr (by omega)]; rfl), grd_y ((nvp (by omega)).mpr (by omega)), v2, lies_bind]
    by_cases q2 : 1000 + lo ≤ T k ∧ T k ≤ 1000 + hi
    · rw [if_pos q2, if_pos]
      · rfl
      · have := v3 (by omega)
        rw [nleI (by omega) v1, nleI v1 (by omega)]
        omega
    · rw [if_neg q2, if_neg]
      intro w
      have h2000 : T k ≤ 2000 ∨ 2000 < T k := by omega
      rcases h2000 with e | e
      · have := v3 e
        have w1 := (nleI (b := v) (by omega) v1).mp w.1
        have w2 := (nleI v1 (by omega)).mp w.2
        omega
      · have := v4 e
        have w2 := (nleI v1 (by omega)).mp w.2
        omega
  · have hlt : T k < 284 := by
      rcases g4 k with w | w
      · exact w
      · exact absurd w q
    rw [if_neg (show ¬ nI (rc (T k)) = 50 from fun w => by have := (eL (t := rc (T k)) (by omega) 50 (by decide)).mp w; have := rc_num.mp this; omega), if_neg (by omega)]
/-- reading something, from a good state or a bad one -/
def RP (F : Mem → Nat → Int32 → Option Mem) (dep : Nat) (T : Nat → Nat) (len : Nat) (pl : Nat → Nat) (ord : Bool) (f : PF3) : Prop := (∀ M k p u, RPS M T len pl ord k p → p ≤ 50 → TT (F M 47 (nI dep)) (RPQ M T len pl ord (f k p u))) ∧ ∀ M, BAD M → F M 47 (nI dep) = some M
end
