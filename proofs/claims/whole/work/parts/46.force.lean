/-! force, terms on both sides; what only tells a cell -/
theorem pm1 {c : Nat} (hc : c ≤ 6) : (nI c - 1).toInt = (c : Int) - 1 ∧ (nI c).toInt = c := by
  have : c = 0 ∨ c = 1 ∨ c = 2 ∨ c = 3 ∨ c = 4 ∨ c = 5 ∨ c = 6 := by omega
  rcases this with h | h | h | h | h | h | h <;> subst h <;> decide
theorem LayM.stc {M : Mem} (h : LayM M) {j : Nat} {v : Int32} : LayM (STC M j v) := h.w.w.w.w
theorem LayM.sty {M : Mem} (h : LayM M) {v : Int32} : LayM (STY M v) := h.w.w.w
theorem both_force {M : Mem} (h : REL M) (p : Int32) : BOTH M (fun M => f_X11_force M 0 p) (fun M => f_X12_force M 47 p) := by
  have hC := h.1
  have hM := h.2.1
  obtain ⟨c, hc, hc2, hc3⟩ := h.2.2.1.2.2.1
  have h9 : mI M 1 9 = nI c := by rw [h.2.2.2.1.2.1.2.1, hc2]
  have h10 : mI M 1 10 = mI M 49 58 := h.2.2.2.1.2.1.2.2.1
  obtain ⟨t1, t2⟩ := pm1 hc
  have v57 : vp_in 57 5666 := by unfold vp_in; decide
  have v58 : vp_in 58 5666 := by unfold vp_in; decide
  have k57 : (57 : Int32).toNatClampNeg = 57 := rfl
  have k58 : (58 : Int32).toNatClampNeg = 58 := rfl
  by_cases hp : -1 ≤ p ∧ p ≤ nI c - 1
  · have a1 : ¬ p < -1 := by simp only [Int32.lt_iff_toInt_lt, Int32.le_iff_toInt_le, tIm1] at hp ⊢; omega
    have a2 : p < nI c := by simp only [Int32.lt_iff_toInt_lt, Int32.le_iff_toInt_le, tIm1] at hp ⊢; omega
    refine ⟨STC M 10 p, STR (STC M 10 p) 58 p, mI M 1 10, ?_, ?_, STP.rules h (Or.inl ⟨rfl, rfl, ?_⟩)⟩
    · unfold LayC at hC
      show f_X11_force M 0 p = _
      unfold f_X11_force
      simp only [bv, hC, grd_T, Option.bind_some, mR_wI, ok_wI, h9]
      rw [if_neg a1, if_pos a2, c_touch h.1.w, Option.bind_some, c_accept h.1.w.tr]
      rfl
    · have hL1 : LayM (STC M 10 p) := hM.stc
      have q57 : mI (STC M 10 p) 49 57 = nI c := by
        unfold STC TR
        rw [mI_wI_row (by decide), mI_wI_row (by decide), mI_wI_row (by decide), mI_wI_row (by decide), hc2]
      have q58 : mI (STC M 10 p) 49 58 = mI M 49 58 := by
        unfold STC TR
        rw [mI_wI_row (by decide), mI_wI_row (by decide), mI_wI_row (by decide), mI_wI_row (by decide)]
      show f_X12_force (STC M 10 p) 47 p = _
      rw [h10, ← q58]
      clear h10
      generalize STC M 10 p = M1 at hL1 q57 q58 ⊢
      have hLL := hL1
      unfold LayM at hLL
      unfold f_X12_force
      simp only [hLL, grd_T, Option.bind_some, k57, k58, q57, v57, v58]
      rw [lies_bind, if_pos hp]
      simp only [bv, mR_wI, ok_wI]
      rw [r_good hL1.w, Option.bind_some, mI_wI_row (by decide)]
      rfl
    · by_cases e : p = -1
      · exact Or.inl e
      · have e' : ¬ p.toInt = -1 := fun q => e (Int32.toInt_inj.mp q)
        have h0 : 0 ≤ p := by simp only [Int32.lt_iff_toInt_lt, Int32.le_iff_toInt_le, tIm1, tI0] at hp ⊢; omega
        obtain ⟨f, rfl, hf⟩ := nat_of h0
        rw [nltI hf (by omega)] at a2
        exact Or.inr ⟨f, c, a2, hc, hc2, rfl⟩
  · refine ⟨RFC M 2, RFM (RFC M 2) 2, -2, ?_, ?_, STP.refuse h (Or.inr (Or.inl rfl))⟩
    · have e : f_X11_refuse M 0 (-2) = some (RFC M 2, -2) := c_refuse hC (n := 2) (Or.inr (Or.inl rfl))
      have hC0 := hC
      unfold LayC at hC
      show f_X11_force M 0 p = _
      unfold f_X11_force
      simp only [bv, hC, grd_T, Option.bind_some, mR_wI, ok_wI, h9, e]
      by_cases a1 : p < -1
      · rw [if_pos a1]
      · rw [if_neg a1, if_neg (by simp only [Int32.lt_iff_toInt_lt, Int32.le_iff_toInt_le, tIm1] at hp a1 ⊢; omega)]
    · have hL1 : LayM (RFC M 2) := hM.rfc
      have q57 : mI (RFC M 2) 49 57 = nI c := by
        unfold RFC
        rw [mI_wI_row (by decide), mI_wI_row (by decide), hc2]
      show f_X12_force (RFC M 2) 47 p = _
      generalize RFC M 2 = M1 at hL1 q57 ⊢
      have e : f_X12_refuses M1 47 (-2) = some (RFM M1 2, -2) := r_refuses hL1 (n := 2) (Or.inr (Or.inl rfl))
      have hLL := hL1
      unfold LayM at hLL
      unfold f_X12_force
      simp only [hLL, grd_T, Option.bind_some, k57, k58, q57, v57, v58]
      rw [lies_bind, if_neg hp, e, Option.bind_some]
theorem c_isYear (p : Int32) : f_X11_isYear p = some (if 0 ≤ p ∧ p ≤ 999 then 1 else 0) := by
  unfold f_X11_isYear
  by_cases h : 0 ≤ p ∧ p ≤ 999
  · rw [if_pos h, if_neg (by simp only [Int32.lt_iff_toInt_lt, Int32.le_iff_toInt_le, tI0, tI999] at h ⊢; omega), if_neg (by simp only [Int32.lt_iff_toInt_lt, Int32.le_iff_toInt_le, tI0, tI999] at h ⊢; omega)]
  · rw [if_neg h]
    split
    · rfl
    · rw [if_pos (by rename_i h2; simp only [Int32.lt_iff_toInt_lt, Int32.le_iff_toInt_le, tI0, tI999] at h h2 ⊢; omega)]
theorem up_nat {p : Int32} {n : Nat} (hn : n < 2147483648) (h : 0 ≤ p ∧ p ≤ nI n) : ∃ t, t ≤ n ∧ p = nI t := by
  obtain ⟨t, ht, h2⟩ := nat_of h.1
  subst ht
  exact ⟨t, (nleI h2 hn).mp h.2, rfl⟩
theorem both_terms {M : Mem} (h : REL M) (a b : Int32) : BOTH M (fun M => f_X11_terms M 0 a b) (fun M => f_X12_terms M 47 a b) := by
  have hC := h.1
  have hM := h.2.1
  have h11 : mI M 1 11 = mI M 49 54 := h.2.2.2.1.2.1.2.2.2.1
  have h12 : mI M 1 12 = mI M 49 55 := h.2.2.2.1.2.1.2.2.2.2
  have v54 : vp_in (54 + 0) 5666 := by unfold vp_in; decide
  have v55 : vp_in (54 + 1) 5666 := by unfold vp_in; decide
  have k54 : (54 + 0 : Int32).toNatClampNeg = 54 := rfl
  have k55 : (54 + 1 : Int32).toNatClampNeg = 55 := rfl
  have ec : f_X11_refuse M 0 (-1) = some (RFC M 1, -1) := c_refuse hC (n := 1) (Or.inl rfl)
  have er : f_X12_refuses (RFC M 1) 47 (-1) = some (RFM (RFC M 1) 1, -1) := r_refuses hM.rfc (n := 1) (Or.inl rfl)
  have hLC := hC
  unfold LayC at hLC
  have hLR : LayM (RFC M 1) := hM.rfc
  unfold LayM at hLR
  have n10 : ¬ (1 : Int32) = 0 := by decide
  have n01 : ¬ (0 : Int32) = 1 := by decide
  by_cases ha : a = 0
  · subst ha
    by_cases hb : 0 ≤ b ∧ b ≤ 999
    · refine ⟨STY M b, STR (STY M b) 54 b, mI M 1 11, ?_, ?_, STP.year h (up_nat (by omega) hb)⟩
      · show f_X11_terms M 0 0 b = _
        unfold f_X11_terms
        rw [c_isYear, if_pos hb]
        simp only [bv, hLC, grd_T, Option.bind_some, mR_wI, ok_wI]
        rw [if_pos trivial, if_neg n10]
        unfold f_X10_turnTo
        simp only [bv, hLC, grd_T, Option.bind_some]
        rw [c_accept hC.w.w, Option.bind_some, mI_wI_ne (by decide)]
        rfl
      · have hL1 : LayM (STY M b) := hM.sty
        have q : mI (STY M b) 49 54 = mI M 49 54 := by
          unfold STY
          rw [mI_wI_row (by decide), mI_wI_row (by decide), mI_wI_row (by decide)]
        show f_X12_terms (STY M b) 47 0 b = _
        rw [h11, ← q]
        clear h11 q
        generalize STY M b = M1 at hL1 ⊢
        have hLL := hL1
        unfold LayM at hLL
        unfold f_X12_terms
        rw [p_lies, if_pos (by decide)]
        simp only [bv, hLL, grd_T, Option.bind_some, k54, v54, mR_wI, ok_wI]
        rw [if_neg n10, if_pos trivial, lies_bind, if_pos hb, r_good hL1.w, Option.bind_some, mI_wI_row (by decide)]
        rfl
    · refine ⟨RFC M 1, RFM (RFC M 1) 1, -1, ?_, ?_, STP.refuse h (Or.inl rfl)⟩
      · show f_X11_terms M 0 0 b = _
        unfold f_X11_terms
        rw [c_isYear, if_neg hb]
        simp only [bv, hLC, grd_T, Option.bind_some, ec]
        rw [if_pos trivial, if_pos trivial, if_neg n01]
      · show f_X12_terms (RFC M 1) 47 0 b = _
        unfold f_X12_terms
        rw [p_lies, if_pos (by decide)]
        simp only [bv, hLR, grd_T, Option.bind_some, er]
        rw [if_neg n10, if_pos trivial, lies_bind, if_neg hb]
  · by_cases ha1 : a = 1
    · subst ha1
      by_cases hb : 0 ≤ b ∧ b ≤ 9
      · refine ⟨STC M 12 b, STR (STC M 12 b) 55 b, mI M 1 12, ?_, ?_, STP.rules h (Or.inr ⟨rfl, rfl, up_nat (by omega) hb⟩)⟩
        · show f_X11_terms M 0 1 b = _
          unfold f_X11_terms
          simp only [bv, hLC, grd_T, Option.bind_some, mR_wI, ok_wI]
          rw [if_neg n10, if_pos trivial, if_neg (by simp only [Int32.lt_iff_toInt_lt, Int32.le_iff_toInt_le, tI0, tI9] at hb ⊢; omega), if_neg (by simp only [Int32.lt_iff_toInt_lt, Int32.le_iff_toInt_le, tI0, tI9] at hb ⊢; omega), c_touch hC.w, Option.bind_some, c_accept hC.w.tr, Option.bind_some]
          rfl
        · have hL1 : LayM (STC M 12 b) := hM.stc
          have q : mI (STC M 12 b) 49 55 = mI M 49 55 := by
            unfold STC TR
            rw [mI_wI_row (by decide), mI_wI_row (by decide), mI_wI_row (by decide), mI_wI_row (by decide)]
          show f_X12_terms (STC M 12 b) 47 1 b = _
          rw [h12, ← q]
          clear h12 q
          generalize STC M 12 b = M1 at hL1 ⊢
          have hLL := hL1
          unfold LayM at hLL
          unfold f_X12_terms
          rw [p_lies, if_pos (by decide)]
          simp only [bv, hLL, grd_T, Option.bind_some, k55, v55, mR_wI, ok_wI]
          rw [if_neg n10, if_neg n10, lies_bind, if_pos hb, r_good hL1.w, Option.bind_some, mI_wI_row (by decide)]
          rfl
      · refine ⟨RFC M 1, RFM (RFC M 1) 1, -1, ?_, ?_, STP.refuse h (Or.inl rfl)⟩
        · show f_X11_terms M 0 1 b = _
          unfold f_X11_terms
          simp only [bv, hLC, grd_T, Option.bind_some, ec]
          rw [if_neg n10, if_pos trivial]
          by_cases b0 : b < 0
          · rw [if_pos b0]
          · rw [if_neg b0, if_pos (by simp only [Int32.lt_iff_toInt_lt, Int32.le_iff_toInt_le, tI0, tI9] at hb b0 ⊢; omega)]
        · show f_X12_terms (RFC M 1) 47 1 b = _
          unfold f_X12_terms
          rw [p_lies, if_pos (by decide)]
          simp only [bv, hLR, grd_T, Option.bind_some, er]
          rw [if_neg n10, if_neg n10, lies_bind, if_neg hb]
    · refine ⟨RFC M 1, RFM (RFC M 1) 1, -1, ?_, ?_, STP.refuse h (Or.inl rfl)⟩
      · show f_X11_terms M 0 a b = _
        unfold f_X11_terms
        simp only [bv, hLC, grd_T, Option.bind_some, ec]
        rw [if_neg ha, if_neg ha1]
      · show f_X12_terms (RFC M 1) 47 a b = _
        unfold f_X12_terms
        rw [p_lies, if_neg (by
          intro q
          have a0 : ¬ a.toInt = 0 := fun e => ha (Int32.toInt_inj.mp e)
          have a1 : ¬ a.toInt = 1 := fun e => ha1 (Int32.toInt_inj.mp e)
          simp only [Int32.le_iff_toInt_le, tI0, tI1] at q
          omega)]
        simp only [bv, hLR, grd_T, Option.bind_some, er]
        rw [if_pos trivial]
