/-! house: why not -/
theorem pm12 {c : Nat} (hc : c ≤ 12) : (nI c - 1).toInt = (c : Int) - 1 ∧ (nI c).toInt = c := by
  have : c = 0 ∨ c = 1 ∨ c = 2 ∨ c = 3 ∨ c = 4 ∨ c = 5 ∨ c = 6 ∨ c = 7 ∨ c = 8 ∨ c = 9 ∨ c = 10 ∨ c = 11 ∨ c = 12 := by omega
  rcases this with h | h | h | h | h | h | h | h | h | h | h | h | h <;> subst h <;> decide
theorem c_hasHouse {M : Mem} (hC : LayC M) {n : Nat} (hn : n ≤ 12) (h8 : mI M 1 8 = nI n) (p : Int32) : f_X10_hasHouse M 1 p = some (if 0 ≤ p ∧ p < nI n then 1 else 0) := by
  obtain ⟨t1, t2⟩ := pm12 hn
  unfold LayC at hC
  unfold f_X10_hasHouse
  simp only [hC, grd_T, h8]
  by_cases h : 0 ≤ p ∧ p < nI n
  · rw [if_pos h, if_neg (by simp only [Int32.lt_iff_toInt_lt, Int32.le_iff_toInt_le, tI0, t2] at h ⊢; omega), if_neg (by simp only [Int32.lt_iff_toInt_lt, Int32.le_iff_toInt_le, tI0, t2] at h ⊢; omega)]
  · rw [if_neg h]
    split
    · rfl
    · rw [if_pos (by rename_i h2; simp only [Int32.lt_iff_toInt_lt, Int32.le_iff_toInt_le, tI0, t2] at h h2 ⊢; omega)]
theorem r_isHouse {M : Mem} (hM : LayM M) {n : Nat} (hn : n ≤ 12) (h56 : mI M 49 56 = nI n) (p : Int32) : f_X12_isHouse M 47 p = some (if 0 ≤ p ∧ p < nI n then 1 else 0) := by
  obtain ⟨t1, t2⟩ := pm12 hn
  have v56 : vp_in 56 5666 := by unfold vp_in; decide
  have k56 : (56 : Int32).toNatClampNeg = 56 := rfl
  unfold LayM at hM
  unfold f_X12_isHouse
  simp only [hM, grd_T, Option.bind_some, k56, v56, h56]
  rw [p_lies, Option.bind_some, grd_y (bl_if _)]
  congr 1
  by_cases h : 0 ≤ p ∧ p < nI n
  · rw [if_pos h, if_pos (by simp only [Int32.lt_iff_toInt_lt, Int32.le_iff_toInt_le, tI0, t1, t2] at h ⊢; omega)]
  · rw [if_neg h, if_neg (by simp only [Int32.lt_iff_toInt_lt, Int32.le_iff_toInt_le, tI0, t1, t2] at h ⊢; omega)]
theorem in_nat {p : Int32} {n : Nat} (hn : n ≤ 12) (h : 0 ≤ p ∧ p < nI n) : ∃ m, m < n ∧ p = nI m := by
  obtain ⟨t, ht, h2⟩ := nat_of h.1
  subst ht
  exact ⟨t, (nltI h2 (by omega)).mp h.2, rfl⟩
theorem why_full {M : Mem} (hM : LayM M) {n : Nat} (hn : n ≤ 12) (h56 : mI M 49 56 = nI n) {α : Type} {A B : Option α} : grd (okO M 12 47) (Option.bind (mR M 47 3) (fun r16 => grd (okO M 14 r16) (grd (vp_in 56 (mL M r16)) (if (mI M r16 (56 : Int32).toNatClampNeg) = 12 then A else B)))) = if n = 12 then A else B := by
  have v56 : vp_in 56 5666 := by unfold vp_in; decide
  have k56 : (56 : Int32).toNatClampNeg = 56 := rfl
  unfold LayM at hM
  simp only [hM, grd_T, Option.bind_some, k56, v56, h56]
  by_cases e : n = 12
  · subst e
    rw [if_pos rfl, if_pos (show nI 12 = 12 from rfl)]
  · rw [if_neg e, if_neg (by rw [show (12 : Int32) = nI 12 from rfl, neqI (by omega) (by omega)]; exact e)]
/-- why a house is not taken: the number of the refusal, or 0 -/
theorem r_why {M : Mem} (hM : LayM M) {n : Nat} (hn : n ≤ 12) (h56 : mI M 49 56 = nI n) {p1 p2 p3 : Int32} : f_X12_whyNot M 47 p1 p2 p3 = (if ¬ (0 ≤ p2 ∧ p2 ≤ 999) then some (-1) else Option.bind (f_X12_isDish p3) (fun q4 => if q4 = 0 then some (-1) else if p1 = -1 then (if n = 12 then some (-5) else some 0) else if ¬ (0 ≤ p1 ∧ p1 < nI n) then some (-2) else Option.bind (f_X12_fact M 47 p1 1) (fun q => if q ≤ p2 then (if n = 12 then some (-5) else some 0) else some (-3)))) := by
  have hI := r_isHouse hM hn h56 p1
  have hw := why_full hM hn h56 (A := some (-5 : Int32)) (B := some 0)
  have hok : okO M 12 47 := hM.1
  unfold f_X12_whyNot
  rw [lies_bind]
  by_cases a : 0 ≤ p2 ∧ p2 ≤ 999
  · rw [if_pos a, if_neg (fun q => q a)]
    congr 1
    funext q4
    by_cases b : q4 = 0
    · rw [if_pos b, if_pos b]
    · rw [if_neg b, if_neg b]
      simp only [bv]
      rw [hw]
      by_cases c : p1 = -1
      · rw [if_pos c, if_pos c, if_pos c]
      · rw [if_neg c, if_neg c, if_neg c, grd_y hok, grd_y hok, hI, Option.bind_some]
        by_cases d : 0 ≤ p1 ∧ p1 < nI n
        · rw [if_pos d, if_neg (show ¬ (1 : Int32) = 0 by decide), if_neg (show ¬ ¬ (0 ≤ p1 ∧ p1 < nI n) from fun q => q d)]
        · rw [if_neg d, if_pos rfl, if_pos d]
  · rw [if_neg a, if_pos a]
