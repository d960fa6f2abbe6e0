/-! count, status: what only tells -/
theorem sw_at {α : Type} {x : Int32} {l : List (Nat × Option α)} {d : Option α} {i : Nat} {q : Nat × Option α} (h : l[i]? = some q) (hx : x.toInt = i) (hl : l.length ≤ 1000) : swO x (swC 0 l) d = q.2 := swC_in l 0 i q (by decide) (by omega) h (by omega)
theorem sw_no {α : Type} {x : Int32} {l : List (Nat × Option α)} {d : Option α} (hl : l.length ≤ 1000) (h : x.toInt < 0 ∨ (l.length : Int) ≤ x.toInt) : swO x (swC 0 l) d = d := swC_out l 0 (by decide) (by omega) (by omega)
theorem both_status {M : Mem} (h : REL M) : ∃ x, f_X11_status M 0 = some x ∧ f_X12_status M 47 = some x := by
  have h1 : okO M 11 0 := h.1.1
  have h2 : okO M 12 47 := h.2.1.1
  unfold f_X11_status f_X12_status
  rw [grd_y h1, grd_y h2, h.2.2.2.2.1]
  exact ⟨_, rfl, rfl⟩
theorem count_0 {M : Mem} (h : REL M) (hz : mI M 11 4 = mI M 47 17) : ∃ x, f_X11_count M 0 0 = some x ∧ f_X12_count M 47 0 = some x := by
  have hC := h.1
  have hM := h.2.1
  obtain ⟨a1, a2, a3, a4, a5⟩ := h.2.2.2.1.2.1
  have hO := h.2.2.2.2.2
  unfold LayC at hC
  unfold LayM at hM
  refine ⟨mI M 49 56, ?_, ?_⟩
  · unfold f_X11_count
    simp only [bv]
    rw [if_pos (by decide), sw_at (i := 0) rfl rfl (by simp only [List.length_cons, List.length_nil]; omega)]
    simp only [hC, grd_T, Option.bind_some]
    rw [a1]
  · unfold f_X12_count
    simp only [bv]
    rw [sw_at (i := 0) rfl rfl (by simp only [List.length_cons, List.length_nil]; omega)]
    simp only [hM, grd_T, Option.bind_some]
    have v : vp_in 56 5666 := by unfold vp_in; decide
    rw [grd_y v]
    rfl
theorem count_1 {M : Mem} (h : REL M) (hz : mI M 11 4 = mI M 47 17) : ∃ x, f_X11_count M 0 1 = some x ∧ f_X12_count M 47 1 = some x := by
  have hC := h.1
  have hM := h.2.1
  obtain ⟨a1, a2, a3, a4, a5⟩ := h.2.2.2.1.2.1
  have hO := h.2.2.2.2.2
  unfold LayC at hC
  unfold LayM at hM
  refine ⟨mI M 49 57, ?_, ?_⟩
  · unfold f_X11_count
    simp only [bv]
    rw [if_pos (by decide), sw_at (i := 1) rfl rfl (by simp only [List.length_cons, List.length_nil]; omega)]
    simp only [hC, grd_T, Option.bind_some]
    rw [a2]
  · unfold f_X12_count
    simp only [bv]
    rw [sw_at (i := 1) rfl rfl (by simp only [List.length_cons, List.length_nil]; omega)]
    simp only [hM, grd_T, Option.bind_some]
    have v : vp_in 57 5666 := by unfold vp_in; decide
    rw [grd_y v]
    rfl
theorem count_8 {M : Mem} (h : REL M) (hz : mI M 11 4 = mI M 47 17) : ∃ x, f_X11_count M 0 8 = some x ∧ f_X12_count M 47 8 = some x := by
  have hC := h.1
  have hM := h.2.1
  obtain ⟨a1, a2, a3, a4, a5⟩ := h.2.2.2.1.2.1
  have hO := h.2.2.2.2.2
  unfold LayC at hC
  unfold LayM at hM
  refine ⟨mI M 49 58, ?_, ?_⟩
  · unfold f_X11_count
    simp only [bv]
    rw [if_neg (by decide), if_pos (by decide), sw_at (i := 8) rfl rfl (by simp only [List.length_cons, List.length_nil]; omega)]
    simp only [hC, grd_T, Option.bind_some]
    rw [a3]
  · unfold f_X12_count
    simp only [bv]
    rw [sw_at (i := 8) rfl rfl (by simp only [List.length_cons, List.length_nil]; omega)]
    simp only [hM, grd_T, Option.bind_some]
    have v : vp_in 58 5666 := by unfold vp_in; decide
    rw [grd_y v]
    rfl
theorem count_9 {M : Mem} (h : REL M) (hz : mI M 11 4 = mI M 47 17) : ∃ x, f_X11_count M 0 9 = some x ∧ f_X12_count M 47 9 = some x := by
  have hC := h.1
  have hM := h.2.1
  obtain ⟨a1, a2, a3, a4, a5⟩ := h.2.2.2.1.2.1
  have hO := h.2.2.2.2.2
  unfold LayC at hC
  unfold LayM at hM
  refine ⟨mI M 49 54, ?_, ?_⟩
  · unfold f_X11_count
    simp only [bv]
    rw [if_neg (by decide), if_pos (by decide), sw_at (i := 9) rfl rfl (by simp only [List.length_cons, List.length_nil]; omega)]
    simp only [hC, grd_T, Option.bind_some]
    rw [a4]
  · unfold f_X12_count
    simp only [bv]
    rw [sw_at (i := 9) rfl rfl (by simp only [List.length_cons, List.length_nil]; omega)]
    simp only [hM, grd_T, Option.bind_some]
    have v : vp_in 54 5666 := by unfold vp_in; decide
    rw [grd_y v]
    rfl
theorem count_10 {M : Mem} (h : REL M) (hz : mI M 11 4 = mI M 47 17) : ∃ x, f_X11_count M 0 10 = some x ∧ f_X12_count M 47 10 = some x := by
  have hC := h.1
  have hM := h.2.1
  obtain ⟨a1, a2, a3, a4, a5⟩ := h.2.2.2.1.2.1
  have hO := h.2.2.2.2.2
  unfold LayC at hC
  unfold LayM at hM
  refine ⟨mI M 49 55, ?_, ?_⟩
  · unfold f_X11_count
    simp only [bv]
    rw [if_neg (by decide), if_pos (by decide), sw_at (i := 10) rfl rfl (by simp only [List.length_cons, List.length_nil]; omega)]
    simp only [hC, grd_T, Option.bind_some]
    rw [a5]
  · unfold f_X12_count
    simp only [bv]
    rw [sw_at (i := 10) rfl rfl (by simp only [List.length_cons, List.length_nil]; omega)]
    simp only [hM, grd_T, Option.bind_some]
    have v : vp_in 55 5666 := by unfold vp_in; decide
    rw [grd_y v]
    rfl
theorem count_2 {M : Mem} (h : REL M) (hz : mI M 11 4 = mI M 47 17) : ∃ x, f_X11_count M 0 2 = some x ∧ f_X12_count M 47 2 = some x := by
  have hC := h.1
  have hM := h.2.1
  obtain ⟨a1, a2, a3, a4, a5⟩ := h.2.2.2.1.2.1
  have hO := h.2.2.2.2.2
  unfold LayC at hC
  unfold LayM at hM
  refine ⟨mI M 47 17, ?_, ?_⟩
  · unfold f_X11_count
    simp only [bv]
    rw [if_pos (by decide), sw_at (i := 2) rfl rfl (by simp only [List.length_cons, List.length_nil]; omega)]
    simp only [hC, grd_T, Option.bind_some]
    rw [hz]
  · unfold f_X12_count
    simp only [bv]
    rw [sw_at (i := 2) rfl rfl (by simp only [List.length_cons, List.length_nil]; omega)]
    simp only [hM, grd_T, Option.bind_some]
theorem count_3 {M : Mem} (h : REL M) (hz : mI M 11 4 = mI M 47 17) : ∃ x, f_X11_count M 0 3 = some x ∧ f_X12_count M 47 3 = some x := by
  have hC := h.1
  have hM := h.2.1
  obtain ⟨a1, a2, a3, a4, a5⟩ := h.2.2.2.1.2.1
  have hO := h.2.2.2.2.2
  unfold LayC at hC
  unfold LayM at hM
  refine ⟨mI M 48 1, ?_, ?_⟩
  · unfold f_X11_count
    simp only [bv]
    rw [if_neg (by decide), if_neg (by decide)]
    simp only [hC, grd_T, Option.bind_some]
    have v : vp_in (3 - 3) 5 := by unfold vp_in; decide
    rw [grd_y v]
    exact congrArg some (hO 1 (by unfold RN; omega))
  · unfold f_X12_count
    simp only [bv]
    rw [sw_at (i := 3) rfl rfl (by simp only [List.length_cons, List.length_nil]; omega)]
    simp only [hM, grd_T, Option.bind_some]
    have v : vp_in (3 - 2) 7 := by unfold vp_in; decide
    rw [grd_y v]
    rfl
theorem count_4 {M : Mem} (h : REL M) (hz : mI M 11 4 = mI M 47 17) : ∃ x, f_X11_count M 0 4 = some x ∧ f_X12_count M 47 4 = some x := by
  have hC := h.1
  have hM := h.2.1
  obtain ⟨a1, a2, a3, a4, a5⟩ := h.2.2.2.1.2.1
  have hO := h.2.2.2.2.2
  unfold LayC at hC
  unfold LayM at hM
  refine ⟨mI M 48 2, ?_, ?_⟩
  · unfold f_X11_count
    simp only [bv]
    rw [if_neg (by decide), if_neg (by decide)]
    simp only [hC, grd_T, Option.bind_some]
    have v : vp_in (4 - 3) 5 := by unfold vp_in; decide
    rw [grd_y v]
    exact congrArg some (hO 2 (by unfold RN; omega))
  · unfold f_X12_count
    simp only [bv]
    rw [sw_at (i := 4) rfl rfl (by simp only [List.length_cons, List.length_nil]; omega)]
    simp only [hM, grd_T, Option.bind_some]
    have v : vp_in (4 - 2) 7 := by unfold vp_in; decide
    rw [grd_y v]
    rfl
theorem count_5 {M : Mem} (h : REL M) (hz : mI M 11 4 = mI M 47 17) : ∃ x, f_X11_count M 0 5 = some x ∧ f_X12_count M 47 5 = some x := by
  have hC := h.1
  have hM := h.2.1
  obtain ⟨a1, a2, a3, a4, a5⟩ := h.2.2.2.1.2.1
  have hO := h.2.2.2.2.2
  unfold LayC at hC
  unfold LayM at hM
  refine ⟨mI M 48 3, ?_, ?_⟩
  · unfold f_X11_count
    simp only [bv]
    rw [if_neg (by decide), if_neg (by decide)]
    simp only [hC, grd_T, Option.bind_some]
    have v : vp_in (5 - 3) 5 := by unfold vp_in; decide
    rw [grd_y v]
    exact congrArg some (hO 3 (by unfold RN; omega))
  · unfold f_X12_count
    simp only [bv]
    rw [sw_at (i := 5) rfl rfl (by simp only [List.length_cons, List.length_nil]; omega)]
    simp only [hM, grd_T, Option.bind_some]
    have v : vp_in (5 - 2) 7 := by unfold vp_in; decide
    rw [grd_y v]
    rfl
theorem count_6 {M : Mem} (h : REL M) (hz : mI M 11 4 = mI M 47 17) : ∃ x, f_X11_count M 0 6 = some x ∧ f_X12_count M 47 6 = some x := by
  have hC := h.1
  have hM := h.2.1
  obtain ⟨a1, a2, a3, a4, a5⟩ := h.2.2.2.1.2.1
  have hO := h.2.2.2.2.2
  unfold LayC at hC
  unfold LayM at hM
  refine ⟨mI M 48 5, ?_, ?_⟩
  · unfold f_X11_count
    simp only [bv]
    rw [if_neg (by decide), if_neg (by decide)]
    simp only [hC, grd_T, Option.bind_some]
    have v : vp_in (6 - 3) 5 := by unfold vp_in; decide
    rw [grd_y v]
    exact congrArg some (hO 5 (by unfold RN; omega))
  · unfold f_X12_count
    simp only [bv]
    rw [sw_at (i := 6) rfl rfl (by simp only [List.length_cons, List.length_nil]; omega)]
    simp only [hM, grd_T, Option.bind_some]
    have v : vp_in 5 7 := by unfold vp_in; decide
    rw [grd_y v]
    rfl
theorem count_7 {M : Mem} (h : REL M) (hz : mI M 11 4 = mI M 47 17) : ∃ x, f_X11_count M 0 7 = some x ∧ f_X12_count M 47 7 = some x := by
  have hC := h.1
  have hM := h.2.1
  obtain ⟨a1, a2, a3, a4, a5⟩ := h.2.2.2.1.2.1
  have hO := h.2.2.2.2.2
  unfold LayC at hC
  unfold LayM at hM
  refine ⟨mI M 48 6, ?_, ?_⟩
  · unfold f_X11_count
    simp only [bv]
    rw [if_neg (by decide), if_neg (by decide)]
    simp only [hC, grd_T, Option.bind_some]
    have v : vp_in (7 - 3) 5 := by unfold vp_in; decide
    rw [grd_y v]
    exact congrArg some (hO 6 (by unfold RN; omega))
  · unfold f_X12_count
    simp only [bv]
    rw [sw_at (i := 7) rfl rfl (by simp only [List.length_cons, List.length_nil]; omega)]
    simp only [hM, grd_T, Option.bind_some]
    have v : vp_in 6 7 := by unfold vp_in; decide
    rw [grd_y v]
    rfl
theorem both_count {M : Mem} (h : REL M) (hz : mI M 11 4 = mI M 47 17) (p : Int32) : ∃ x, f_X11_count M 0 p = some x ∧ f_X12_count M 47 p = some x := by
  by_cases hr : 0 ≤ p ∧ p ≤ 10
  · obtain ⟨j, hj, rfl⟩ := up_nat (n := 10) (by omega) hr
    have : j = 0 ∨ j = 1 ∨ j = 2 ∨ j = 3 ∨ j = 4 ∨ j = 5 ∨ j = 6 ∨ j = 7 ∨ j = 8 ∨ j = 9 ∨ j = 10 := by omega
    rcases this with e | e | e | e | e | e | e | e | e | e | e <;> subst e
    · exact count_0 h hz
    · exact count_1 h hz
    · exact count_2 h hz
    · exact count_3 h hz
    · exact count_4 h hz
    · exact count_5 h hz
    · exact count_6 h hz
    · exact count_7 h hz
    · exact count_8 h hz
    · exact count_9 h hz
    · exact count_10 h hz
  · have tI10 : (10 : Int32).toInt = 10 := rfl
    have tI3 : (3 : Int32).toInt = 3 := rfl
    have tI7 : (7 : Int32).toInt = 7 := rfl
    have hp : p.toInt < 0 ∨ 11 ≤ p.toInt := by
      simp only [Int32.le_iff_toInt_le, tI0, tI10] at hr
      omega
    refine ⟨-1, ?_, ?_⟩
    · unfold f_X11_count
      simp only [bv]
      rw [sw_no (by simp only [List.length_cons, List.length_nil]; omega) (by simp only [List.length_cons, List.length_nil]; omega)]
      by_cases a : p < 3
      · rw [if_pos a]
      · rw [if_neg a, if_pos (by simp only [Int32.lt_iff_toInt_lt, tI3, tI7] at a ⊢; omega)]
    · unfold f_X12_count
      simp only [bv]
      rw [sw_no (by simp only [List.length_cons, List.length_nil]; omega) (by simp only [List.length_cons, List.length_nil]; omega)]
