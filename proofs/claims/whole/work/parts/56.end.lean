/-! end, drawn, and cells that are only told -/
theorem both_end {M : Mem} (hC : LayC M) (hM : LayM M) {n : Nat} (hn : n ≤ 400) (h4 : mI M 11 4 = nI n) (h17 : mI M 47 17 = nI n) (p : Int32) : (f_X11_end M 0 p = some (M, -1) ∧ f_X12_end M 47 p = some (M, -1)) ∨ (∃ m, m ≤ n ∧ p = nI m ∧ f_X11_end M 0 p = some (wI M 11 4 p, p) ∧ f_X12_end (wI M 11 4 p) 47 p = some (wI (wI M 11 4 p) 47 17 p, p)) := by
  have hok : okO M 12 47 := hM.1
  unfold LayC at hC
  by_cases a : 0 ≤ p ∧ p ≤ nI n
  · obtain ⟨m, hm, rfl⟩ := up_nat (by omega) a
    refine Or.inr ⟨m, hm, rfl, ?_, ?_⟩
    · have b : ¬ nI m < 0 := by
        rw [show (0 : Int32) = nI 0 from rfl, nltI (by omega) (by omega)]
        omega
      unfold f_X11_end
      simp only [hC, grd_T, Option.bind_some, h4, bv]
      rw [if_neg b, if_pos a.2]
    · have e : mI (wI M 11 4 (nI m)) 47 17 = nI n := by rw [mI_wI_row (by decide), h17]
      unfold f_X12_end
      rw [ok_wI, grd_y hok, e, lies_bind, if_pos a]
      rfl
  · refine Or.inl ⟨?_, ?_⟩
    · unfold f_X11_end
      simp only [hC, grd_T, Option.bind_some, h4, bv]
      by_cases b : p < 0
      · rw [if_pos b]
      · rw [if_neg b, if_neg (by
          intro q
          exact a ⟨by simp only [Int32.lt_iff_toInt_lt, Int32.le_iff_toInt_le, tI0] at b ⊢; omega, q⟩)]
    · unfold f_X12_end
      rw [grd_y hok, h17, lies_bind, if_neg a]
/-- what was drawn: so many, and the dishes -/
def DRW (M : Mem) : Prop := ∃ k, k ≤ 61 ∧ mI M 0 11 = nI k ∧ mI M 47 57 = nI k - 1 ∧ ∀ i, i < k → ∃ l, DL l ∧ mI M 46 i = nI (rank l) ∧ mI M 77 i = nI (num l)
theorem nI_tI {n : Nat} (hn : n < 2147483648) : (nI n).toInt = n := by
  rw [nI_ii, ii_toInt (R32_n hn)]
theorem pred_toInt {n : Nat} (hn : n < 2147483648) : (nI n - 1).toInt = (n : Int) - 1 := by
  cases n with
  | zero => decide
  | succ m =>
    have e : nI (m + 1) - 1 = nI m := npred1 (n := m + 1) (by omega)
    rw [e, nI_tI (by omega)]
    omega
theorem both_drawn {M : Mem} (hC : LayC M) (hM : LayM M) (hd : DRW M) (p : Int32) : ∃ x, f_X11_drawn M 0 p = some x ∧ f_X12_drawn M 47 p = some x := by
  obtain ⟨k, hk, h11, h57, hh⟩ := hd
  have t1 := nI_tI (n := k) (by omega)
  have t2 := pred_toInt (n := k) (by omega)
  unfold LayC at hC
  unfold LayM at hM
  unfold f_X11_drawn f_X12_drawn
  simp only [hC, hM, grd_T, Option.bind_some, h11, h57]
  rw [lies_bind]
  by_cases a : 0 ≤ p ∧ p ≤ nI k - 1
  · obtain ⟨m, rfl, hm⟩ := nat_of a.1
    have hmk : m < k := by
      have q := a.2
      simp only [Int32.le_iff_toInt_le, t2, nI_tI hm] at q
      omega
    obtain ⟨l, hl, e1, e2⟩ := hh m hmk
    have b : ¬ nI m < 0 := by
      rw [show (0 : Int32) = nI 0 from rfl, nltI (by omega) (by omega)]
      omega
    have c : ¬ nI k ≤ nI m := by
      rw [nleI (by omega) (by omega)]
      omega
    rw [if_neg b, if_neg c, if_pos a, grd_y ((nvp (by omega)).mpr (by omega)), grd_y ((nvp (by omega)).mpr (by omega)), nclampI (by omega), e1, e2, p_numOf hl, Option.bind_some]
    exact ⟨_, rfl, rfl⟩
  · rw [if_neg a]
    refine ⟨-1, ?_, rfl⟩
    by_cases b : p < 0
    · rw [if_pos b]
    · rw [if_neg b, if_pos (by simp only [Int32.lt_iff_toInt_lt, Int32.le_iff_toInt_le, tI0, t1, t2] at a b ⊢; omega)]
theorem both_burnt {M : Mem} (hC : LayC M) (hM : LayM M) (h : mI M 0 13 = mI M 47 12) : ∃ x, f_X11_burnt M 0 = some x ∧ f_X12_burnt M 47 = some x := by
  unfold f_X11_burnt f_X12_burnt
  rw [grd_y hC.1, grd_y hM.1, h]
  exact ⟨_, rfl, rfl⟩
theorem both_fault {M : Mem} (hC : LayC M) (hM : LayM M) (h : mI M 0 14 = mI M 47 18) : ∃ x, f_X11_fault M 0 = some x ∧ f_X12_fault M 47 = some x := by
  unfold f_X11_fault f_X12_fault
  rw [grd_y hC.1, grd_y hM.1, h]
  exact ⟨_, rfl, rfl⟩
theorem both_stopped {M : Mem} (hC : LayC M) (hM : LayM M) (h : mI M 0 15 = mI M 47 46) : ∃ x, f_X11_stopped M 0 = some x ∧ f_X12_stopped M 47 = some x := by
  unfold f_X11_stopped f_X12_stopped
  rw [grd_y hC.1, grd_y hM.1, h]
  exact ⟨_, rfl, rfl⟩
