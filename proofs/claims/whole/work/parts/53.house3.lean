/-! house on both sides -/
theorem r_house_no {M : Mem} (hM : LayM M) {n : Nat} (hn : RN n) {p1 p2 p3 : Int32} (hw : f_X12_whyNot M 47 p1 p2 p3 = some (-(nI n))) : f_X12_house M 47 p1 p2 p3 = some (RFM M n, -(nI n)) := by
  have e := r_refuses hM hn
  have h0 : ¬ (0 : Int32) ≤ -(nI n) := by
    rcases hn with h | h | h | h | h <;> subst h <;> decide
  have hok : okO M 12 47 := hM.1
  unfold f_X12_house
  rw [grd_y hok, hw, Option.bind_some, if_neg h0, e, Option.bind_some]
theorem r_house_y {M : Mem} (hM : LayM M) {n : Nat} (hn : n < 12) (h56 : mI M 49 56 = nI n) {p1 p2 : Int32} {l : List Nat} (hw : f_X12_whyNot M 47 p1 p2 (nI (num l)) = some 0) : f_X12_house M 47 p1 p2 (nI (num l)) = some (HM2 M n p1 p2 l, nI n) := by
  have v56 : vp_in 56 5666 := by unfold vp_in; decide
  have k56 : (56 : Int32).toNatClampNeg = 56 := rfl
  have ep : nI (n + 1) - 1 = nI n := npred1 (n := n + 1) (by omega)
  have hok : okO M 12 47 := hM.1
  have hL1 : LayM (ADDM M n p1 p2 (nI (num l))) := hM.w.w.w.w
  have q56 : mI (ADDM M n p1 p2 (nI (num l))) 49 56 = nI (n + 1) := by rw [addm_49, KADD_56]
  have q47 : mI (ADDM M n p1 p2 (nI (num l))) 47 1 = mI M 47 1 := by
    unfold ADDM
    rw [mI_wI_row (by decide), mI_wI_row (by decide), mI_wI_row (by decide), mI_wI_row (by decide)]
  unfold f_X12_house
  rw [grd_y hok, hw, Option.bind_some, if_pos (by decide), r_adds hM hn h56, Option.bind_some]
  unfold HM2
  rw [← q47]
  generalize ADDM M n p1 p2 (nI (num l)) = M1 at *
  have hLL := hL1
  unfold LayM at hLL
  simp only [hLL, grd_T, Option.bind_some, k56, v56, q56, ep]
  rw [r_good hL1, Option.bind_some]
/-- the class's house: where it goes on -/
theorem c_house {M : Mem} (hC : LayC M) {n : Nat} (hn : n ≤ 12) (h8 : mI M 1 8 = nI n) {p1 p2 p3 : Int32} : f_X11_house M 0 p1 p2 p3 = Option.bind (f_X6_rankOf p3) (fun q1 => if ¬ (0 ≤ p2 ∧ p2 ≤ 999) ∨ q1 = -1 then some (RFC M 1, -1) else if p1 ≠ -1 ∧ ¬ (0 ≤ p1 ∧ p1 < nI n) then some (RFC M 2, -2) else if p1 ≠ -1 ∧ ¬ mI M 6 p1.toNatClampNeg ≤ p2 then some (RFC M 3, -3) else Option.bind (f_X10_add M 1 p1 p2 q1) (fun q28 => Option.bind (f_X11_settle q28.1 0 q28.2) (fun q33 => some (q33.1, q33.2)))) := by
  have e1 : f_X11_refuse M 0 (-1) = some (RFC M 1, -1) := c_refuse hC (n := 1) (Or.inl rfl)
  have e2 : f_X11_refuse M 0 (-2) = some (RFC M 2, -2) := c_refuse hC (n := 2) (Or.inr (Or.inl rfl))
  have e3 : f_X11_refuse M 0 (-3) = some (RFC M 3, -3) := c_refuse hC (n := 3) (Or.inr (Or.inr (Or.inl rfl)))
  have hH := c_hasHouse hC hn h8 p1
  have hLL := hC
  unfold LayC at hLL
  unfold f_X11_house
  rw [c_isYear]
  simp only [hLL, grd_T, Option.bind_some, bv, e1, e2, e3, hH]
  congr 1
  funext q1
  by_cases a : 0 ≤ p2 ∧ p2 ≤ 999
  · rw [if_pos a, if_neg (show ¬ (1 : Int32) = 0 by decide)]
    by_cases b : q1 = -1
    · rw [if_pos b, if_pos (Or.inr b)]
    · rw [if_neg b, if_neg (show ¬ (¬ (0 ≤ p2 ∧ p2 ≤ 999) ∨ q1 = -1) from fun q => q.elim (fun q => q a) b)]
      by_cases c : p1 = -1
      · rw [if_pos c, if_pos c, if_neg (show ¬ (p1 ≠ -1 ∧ ¬ (0 ≤ p1 ∧ p1 < nI n)) from fun q => q.1 c), if_neg (show ¬ (p1 ≠ -1 ∧ ¬ mI M 6 p1.toNatClampNeg ≤ p2) from fun q => q.1 c)]
      · rw [if_neg c, if_neg c]
        by_cases d : 0 ≤ p1 ∧ p1 < nI n
        · obtain ⟨m, hm, rfl⟩ := in_nat hn d
          rw [if_pos d, if_neg (show ¬ (1 : Int32) = 0 by decide), if_neg (show ¬ (nI m ≠ -1 ∧ ¬ (0 ≤ nI m ∧ nI m < nI n)) from fun q => q.2 d), grd_y ((nvp (by omega)).mpr (by omega))]
          by_cases e : mI M 6 (nI m).toNatClampNeg ≤ p2
          · rw [if_pos e, if_neg (show ¬ (nI m ≠ -1 ∧ ¬ mI M 6 (nI m).toNatClampNeg ≤ p2) from fun q => q.2 e)]
          · rw [if_neg e, if_pos (show nI m ≠ -1 ∧ ¬ mI M 6 (nI m).toNatClampNeg ≤ p2 from ⟨c, e⟩)]
        · rw [if_neg d, if_pos rfl, if_pos (show p1 ≠ -1 ∧ ¬ (0 ≤ p1 ∧ p1 < nI n) from ⟨c, d⟩)]
  · rw [if_neg a, if_pos rfl, if_pos (Or.inl a)]
