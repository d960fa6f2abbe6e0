/-! THE LAW: every call goes right (written by wip/whole/lawloop.py) -/
theorem lgc_s (x : Int64) : lg_cmp x x = 0 := by
  unfold lg_cmp
  rw [if_neg (fun h => by have h2 := Int64.lt_iff_toInt_lt.mp h; omega), if_pos rfl]
theorem lcs_0 {xS : Nat → Int32} {LS c : Nat} {i0 : Int32} {M : Mem} {jj6 : Mem → Option LwR} (hc : c < 600) (h : INV1 c M) (v1 : vp_in (i0 + 1) LS) (v2 : vp_in (i0 + 2) LS) (v3 : vp_in (i0 + 3) LS) (v4 : vp_in (i0 + 4) LS) (v5 : vp_in (i0 + 5) LS) : ∃ M2, lc_0 xS LS 0 47 i0 M jj6 = jj6 M2 ∧ LST c M M2 := by
  obtain ⟨M1, M2, x, e1, e2, hI, hq⟩ := CALL.of hc h.1 (both_put h.1.1 (xS (i0 + 1).toNatClampNeg) (xS (i0 + 2).toNatClampNeg) (xS (i0 + 3).toNatClampNeg))
  have e1 : f_X11_put M 0 (xS (i0 + 1).toNatClampNeg) (xS (i0 + 2).toNatClampNeg) (xS (i0 + 3).toNatClampNeg) = some (M1, x) := e1
  have e2 : f_X12_put M1 47 (xS (i0 + 1).toNatClampNeg) (xS (i0 + 2).toNatClampNeg) (xS (i0 + 3).toNatClampNeg) = some (M2, x) := e2
  refine ⟨M2, ?_, h.qf hc hI hq⟩
  unfold lc_0
  rw [grd_y v1, grd_y v2, grd_y v3, e1, Option.bind_some, grd_y v1, grd_y v2, grd_y v3, e2, Option.bind_some, if_pos rfl]
theorem lcs_1 {xS : Nat → Int32} {LS c : Nat} {i0 : Int32} {M : Mem} {jj6 : Mem → Option LwR} (hc : c < 600) (h : INV1 c M) (v1 : vp_in (i0 + 1) LS) (v2 : vp_in (i0 + 2) LS) (v3 : vp_in (i0 + 3) LS) (v4 : vp_in (i0 + 4) LS) (v5 : vp_in (i0 + 5) LS) : ∃ M2, lc_1 xS LS 0 47 i0 M jj6 = jj6 M2 ∧ LST c M M2 := by
  obtain ⟨x, e1, e2⟩ := both_of h.1.1 (xS (i0 + 1).toNatClampNeg) (xS (i0 + 2).toNatClampNeg)
  refine ⟨M, ?_, h.stay hc Fr.rf⟩
  unfold lc_1
  rw [grd_y v1, grd_y v2, e1, Option.bind_some, e2, Option.bind_some, if_pos rfl]
theorem lcs_2 {xS : Nat → Int32} {LS c : Nat} {i0 : Int32} {M : Mem} {jj6 : Mem → Option LwR} (hc : c < 600) (h : INV1 c M) (v1 : vp_in (i0 + 1) LS) (v2 : vp_in (i0 + 2) LS) (v3 : vp_in (i0 + 3) LS) (v4 : vp_in (i0 + 4) LS) (v5 : vp_in (i0 + 5) LS) : ∃ M2, lc_2 xS LS 0 47 i0 M jj6 = jj6 M2 ∧ LST c M M2 := by
  obtain ⟨M1, M2, x, e1, e2, hI, hq⟩ := CALL.of hc h.1 (both_house h.1.1 (xS (i0 + 1).toNatClampNeg) (xS (i0 + 2).toNatClampNeg) (xS (i0 + 3).toNatClampNeg))
  have e1 : f_X11_house M 0 (xS (i0 + 1).toNatClampNeg) (xS (i0 + 2).toNatClampNeg) (xS (i0 + 3).toNatClampNeg) = some (M1, x) := e1
  have e2 : f_X12_house M1 47 (xS (i0 + 1).toNatClampNeg) (xS (i0 + 2).toNatClampNeg) (xS (i0 + 3).toNatClampNeg) = some (M2, x) := e2
  refine ⟨M2, ?_, h.qf hc hI hq⟩
  unfold lc_2
  rw [grd_y v1, grd_y v2, grd_y v3, e1, Option.bind_some, grd_y v1, grd_y v2, grd_y v3, e2, Option.bind_some, if_pos rfl]
theorem lcs_3 {xS : Nat → Int32} {LS c : Nat} {i0 : Int32} {M : Mem} {jj6 : Mem → Option LwR} (hc : c < 600) (h : INV1 c M) (v1 : vp_in (i0 + 1) LS) (v2 : vp_in (i0 + 2) LS) (v3 : vp_in (i0 + 3) LS) (v4 : vp_in (i0 + 4) LS) (v5 : vp_in (i0 + 5) LS) : ∃ M2, lc_3 xS LS 0 47 i0 M jj6 = jj6 M2 ∧ LST c M M2 := by
  obtain ⟨M1, M2, x, e1, e2, hI, hq⟩ := both_born hc h.1 (xS (i0 + 1).toNatClampNeg) (xS (i0 + 2).toNatClampNeg) (xS (i0 + 3).toNatClampNeg) (xS (i0 + 4).toNatClampNeg)
  have e1 : f_X11_born M 0 (xS (i0 + 1).toNatClampNeg) (xS (i0 + 2).toNatClampNeg) (xS (i0 + 3).toNatClampNeg) (xS (i0 + 4).toNatClampNeg) = some (M1, x) := e1
  have e2 : f_X12_born M1 47 (xS (i0 + 1).toNatClampNeg) (xS (i0 + 2).toNatClampNeg) (xS (i0 + 3).toNatClampNeg) (xS (i0 + 4).toNatClampNeg) = some (M2, x) := e2
  refine ⟨M2, ?_, h.qf hc hI hq⟩
  unfold lc_3
  rw [grd_y v1, grd_y v2, grd_y v3, grd_y v4, e1, Option.bind_some, grd_y v1, grd_y v2, grd_y v3, grd_y v4, e2, Option.bind_some, if_pos rfl]
theorem lcs_4 {xS : Nat → Int32} {LS c : Nat} {i0 : Int32} {M : Mem} {jj6 : Mem → Option LwR} (hc : c < 600) (h : INV1 c M) (v1 : vp_in (i0 + 1) LS) (v2 : vp_in (i0 + 2) LS) (v3 : vp_in (i0 + 3) LS) (v4 : vp_in (i0 + 4) LS) (v5 : vp_in (i0 + 5) LS) : ∃ M2, lc_4 xS LS 0 47 i0 M jj6 = jj6 M2 ∧ LST c M M2 := by
  obtain ⟨M1, M2, x, e1, e2, hI, hq⟩ := CALL.of hc h.1 (both_undo h.1.1)
  have e1 : f_X11_undo M 0 = some (M1, x) := e1
  have e2 : f_X12_undo M1 47 = some (M2, x) := e2
  refine ⟨M2, ?_, h.qf hc hI hq⟩
  unfold lc_4
  rw [e1, Option.bind_some, e2, Option.bind_some, if_pos rfl]
theorem lcs_5 {xS : Nat → Int32} {LS c : Nat} {i0 : Int32} {M : Mem} {jj6 : Mem → Option LwR} (hc : c < 600) (h : INV1 c M) (v1 : vp_in (i0 + 1) LS) (v2 : vp_in (i0 + 2) LS) (v3 : vp_in (i0 + 3) LS) (v4 : vp_in (i0 + 4) LS) (v5 : vp_in (i0 + 5) LS) : ∃ M2, lc_5 xS LS 0 47 i0 M jj6 = jj6 M2 ∧ LST c M M2 := by
  obtain ⟨M1, M2, x, e1, e2, hq, hk⟩ := both_at hc h.1 h.2.2.2.1 h.2.2.1 (xS (i0 + 1).toNatClampNeg) (xS (i0 + 2).toNatClampNeg)
  have e1 : f_X11_at M 0 (xS (i0 + 1).toNatClampNeg) (xS (i0 + 2).toNatClampNeg) = some (M1, x) := e1
  have e2 : f_X12_at M1 47 (xS (i0 + 1).toNatClampNeg) (xS (i0 + 2).toNatClampNeg) = some (M2, x) := e2
  refine ⟨M2, ?_, h.pq hc hq (h.2.2.2.2.1.pq hc h.1 hq hk) (h.2.2.2.2.2.pq hc h.1 hq hk.2.2)⟩
  unfold lc_5
  rw [grd_y v1, grd_y v2, e1, Option.bind_some, grd_y v1, grd_y v2, e2, Option.bind_some, if_pos rfl]
theorem lcs_6 {xS : Nat → Int32} {LS c : Nat} {i0 : Int32} {M : Mem} {jj6 : Mem → Option LwR} (hc : c < 600) (h : INV1 c M) (v1 : vp_in (i0 + 1) LS) (v2 : vp_in (i0 + 2) LS) (v3 : vp_in (i0 + 3) LS) (v4 : vp_in (i0 + 4) LS) (v5 : vp_in (i0 + 5) LS) : ∃ M2, lc_6 xS LS 0 47 i0 M jj6 = jj6 M2 ∧ LST c M M2 := by
  obtain ⟨M1, M2, x, e1, e2, hI, hq⟩ := CALL.of hc h.1 (both_terms h.1.1 (xS (i0 + 1).toNatClampNeg) (xS (i0 + 2).toNatClampNeg))
  have e1 : f_X11_terms M 0 (xS (i0 + 1).toNatClampNeg) (xS (i0 + 2).toNatClampNeg) = some (M1, x) := e1
  have e2 : f_X12_terms M1 47 (xS (i0 + 1).toNatClampNeg) (xS (i0 + 2).toNatClampNeg) = some (M2, x) := e2
  refine ⟨M2, ?_, h.qf hc hI hq⟩
  unfold lc_6
  rw [grd_y v1, grd_y v2, e1, Option.bind_some, grd_y v1, grd_y v2, e2, Option.bind_some, if_pos rfl]
theorem lcs_7 {xS : Nat → Int32} {LS c : Nat} {i0 : Int32} {M : Mem} {jj6 : Mem → Option LwR} (hc : c < 600) (h : INV1 c M) (v1 : vp_in (i0 + 1) LS) (v2 : vp_in (i0 + 2) LS) (v3 : vp_in (i0 + 3) LS) (v4 : vp_in (i0 + 4) LS) (v5 : vp_in (i0 + 5) LS) : ∃ M2, lc_7 xS LS 0 47 i0 M jj6 = jj6 M2 ∧ LST c M M2 := by
  obtain ⟨M1, M2, x, e1, e2, hI, hq⟩ := both_feed hc h.1 (xS (i0 + 1).toNatClampNeg) (xS (i0 + 2).toNatClampNeg) (xS (i0 + 3).toNatClampNeg) (xS (i0 + 4).toNatClampNeg) (xS (i0 + 5).toNatClampNeg)
  have e1 : f_X11_feed M 0 (xS (i0 + 1).toNatClampNeg) (xS (i0 + 2).toNatClampNeg) (xS (i0 + 3).toNatClampNeg) (xS (i0 + 4).toNatClampNeg) (xS (i0 + 5).toNatClampNeg) = some (M1, x) := e1
  have e2 : f_X12_feed M1 47 (xS (i0 + 1).toNatClampNeg) (xS (i0 + 2).toNatClampNeg) (xS (i0 + 3).toNatClampNeg) (xS (i0 + 4).toNatClampNeg) (xS (i0 + 5).toNatClampNeg) = some (M2, x) := e2
  refine ⟨M2, ?_, h.qf hc hI hq⟩
  unfold lc_7
  rw [grd_y v1, grd_y v2, grd_y v3, grd_y v4, grd_y v5, e1, Option.bind_some, grd_y v1, grd_y v2, grd_y v3, grd_y v4, grd_y v5, e2, Option.bind_some, if_pos rfl]
theorem lcs_8 {xS : Nat → Int32} {LS c : Nat} {i0 : Int32} {M : Mem} {jj6 : Mem → Option LwR} (hc : c < 600) (h : INV1 c M) (v1 : vp_in (i0 + 1) LS) (v2 : vp_in (i0 + 2) LS) (v3 : vp_in (i0 + 3) LS) (v4 : vp_in (i0 + 4) LS) (v5 : vp_in (i0 + 5) LS) : ∃ M2, lc_8 xS LS 0 47 i0 M jj6 = jj6 M2 ∧ LST c M M2 := by
  obtain ⟨M1, M2, x, e1, e2, hI, hq⟩ := both_endC hc h.1 (xS (i0 + 1).toNatClampNeg)
  have e1 : f_X11_end M 0 (xS (i0 + 1).toNatClampNeg) = some (M1, x) := e1
  have e2 : f_X12_end M1 47 (xS (i0 + 1).toNatClampNeg) = some (M2, x) := e2
  refine ⟨M2, ?_, h.qf hc hI hq⟩
  unfold lc_8
  rw [grd_y v1, e1, Option.bind_some, grd_y v1, e2, Option.bind_some, if_pos rfl]
theorem lcs_9 {xS : Nat → Int32} {LS c : Nat} {i0 : Int32} {M : Mem} {jj6 : Mem → Option LwR} (hc : c < 600) (h : INV1 c M) (v1 : vp_in (i0 + 1) LS) (v2 : vp_in (i0 + 2) LS) (v3 : vp_in (i0 + 3) LS) (v4 : vp_in (i0 + 4) LS) (v5 : vp_in (i0 + 5) LS) : ∃ M2, lc_9 xS LS 0 47 i0 M jj6 = jj6 M2 ∧ LST c M M2 := by
  obtain ⟨M1, M2, x, e1, e2, hI, hq⟩ := both_row hc h.1
  have e1 : f_X11_row M 0 = some (M1, x) := e1
  have e2 : f_X12_row M1 47 = some (M2, x) := e2
  refine ⟨M2, ?_, h.qf hc hI hq⟩
  unfold lc_9
  rw [e1, Option.bind_some, e2, Option.bind_some, if_pos rfl]
theorem lcs_10 {xS : Nat → Int32} {LS c : Nat} {i0 : Int32} {M : Mem} {jj6 : Mem → Option LwR} (hc : c < 600) (h : INV1 c M) (v1 : vp_in (i0 + 1) LS) (v2 : vp_in (i0 + 2) LS) (v3 : vp_in (i0 + 3) LS) (v4 : vp_in (i0 + 4) LS) (v5 : vp_in (i0 + 5) LS) : ∃ M2, lc_10 xS LS 0 47 i0 M jj6 = jj6 M2 ∧ LST c M M2 := by
  obtain ⟨x, e1, e2⟩ := both_burnt h.1.1.1 h.1.1.2.1 h.1.2.2.2.2.2.1.1
  refine ⟨M, ?_, h.stay hc Fr.rf⟩
  unfold lc_10
  rw [e1, Option.bind_some, e2, Option.bind_some, if_pos rfl]
theorem lcs_11 {xS : Nat → Int32} {LS c : Nat} {i0 : Int32} {M : Mem} {jj6 : Mem → Option LwR} (hc : c < 600) (h : INV1 c M) (v1 : vp_in (i0 + 1) LS) (v2 : vp_in (i0 + 2) LS) (v3 : vp_in (i0 + 3) LS) (v4 : vp_in (i0 + 4) LS) (v5 : vp_in (i0 + 5) LS) : ∃ M2, lc_11 xS LS 0 47 i0 M jj6 = jj6 M2 ∧ LST c M M2 := by
  obtain ⟨M1, M2, x, e1, e2, hI, hq⟩ := both_law hc h.1
  have e1 : f_X11_law M 0 = some (M1, x) := e1
  have e2 : f_X12_law M1 47 = some (M2, x) := e2
  refine ⟨M2, ?_, h.qf hc hI hq⟩
  unfold lc_11
  rw [e1, Option.bind_some, e2, Option.bind_some, if_pos rfl]
theorem lcs_12 {xS : Nat → Int32} {LS c : Nat} {i0 : Int32} {M : Mem} {jj6 : Mem → Option LwR} (hc : c < 600) (h : INV1 c M) (v1 : vp_in (i0 + 1) LS) (v2 : vp_in (i0 + 2) LS) (v3 : vp_in (i0 + 3) LS) (v4 : vp_in (i0 + 4) LS) (v5 : vp_in (i0 + 5) LS) : ∃ M2, lc_12 xS LS 0 47 i0 M jj6 = jj6 M2 ∧ LST c M M2 := by
  obtain ⟨M1, M2, x, e1, e2, hI, hq⟩ := both_orders hc h.1
  have e1 : f_X11_orders M 0 = some (M1, x) := e1
  have e2 : f_X12_orders M1 47 = some (M2, x) := e2
  refine ⟨M2, ?_, h.qf hc hI hq⟩
  unfold lc_12
  rw [e1, Option.bind_some, e2, Option.bind_some, if_pos rfl]
theorem lcs_13 {xS : Nat → Int32} {LS c : Nat} {i0 : Int32} {M : Mem} {jj6 : Mem → Option LwR} (hc : c < 600) (h : INV1 c M) (v1 : vp_in (i0 + 1) LS) (v2 : vp_in (i0 + 2) LS) (v3 : vp_in (i0 + 3) LS) (v4 : vp_in (i0 + 4) LS) (v5 : vp_in (i0 + 5) LS) : ∃ M2, lc_13 xS LS 0 47 i0 M jj6 = jj6 M2 ∧ LST c M M2 := by
  obtain ⟨x, e1, e2⟩ := both_fault h.1.1.1 h.1.1.2.1 h.1.2.2.2.2.2.1.2.1
  refine ⟨M, ?_, h.stay hc Fr.rf⟩
  unfold lc_13
  rw [e1, Option.bind_some, e2, Option.bind_some, if_pos rfl]
theorem lcs_14 {xS : Nat → Int32} {LS c : Nat} {i0 : Int32} {M : Mem} {jj6 : Mem → Option LwR} (hc : c < 600) (h : INV1 c M) (v1 : vp_in (i0 + 1) LS) (v2 : vp_in (i0 + 2) LS) (v3 : vp_in (i0 + 3) LS) (v4 : vp_in (i0 + 4) LS) (v5 : vp_in (i0 + 5) LS) : ∃ M2, lc_14 xS LS 0 47 i0 M jj6 = jj6 M2 ∧ LST c M M2 := by
  obtain ⟨x, e1, e2⟩ := both_stopped h.1.1.1 h.1.1.2.1 h.1.2.2.2.2.2.1.2.2.1
  refine ⟨M, ?_, h.stay hc Fr.rf⟩
  unfold lc_14
  rw [e1, Option.bind_some, e2, Option.bind_some, if_pos rfl]
theorem lcs_15 {xS : Nat → Int32} {LS c : Nat} {i0 : Int32} {M : Mem} {jj6 : Mem → Option LwR} (hc : c < 600) (h : INV1 c M) (v1 : vp_in (i0 + 1) LS) (v2 : vp_in (i0 + 2) LS) (v3 : vp_in (i0 + 3) LS) (v4 : vp_in (i0 + 4) LS) (v5 : vp_in (i0 + 5) LS) : ∃ M2, lc_15 xS LS 0 47 i0 M jj6 = jj6 M2 ∧ LST c M M2 := by
  obtain ⟨M1, M2, x, e1, e2, hI, hq⟩ := CALL.of hc h.1 (both_force h.1.1 (xS (i0 + 1).toNatClampNeg))
  have e1 : f_X11_force M 0 (xS (i0 + 1).toNatClampNeg) = some (M1, x) := e1
  have e2 : f_X12_force M1 47 (xS (i0 + 1).toNatClampNeg) = some (M2, x) := e2
  refine ⟨M2, ?_, h.qf hc hI hq⟩
  unfold lc_15
  rw [grd_y v1, e1, Option.bind_some, grd_y v1, e2, Option.bind_some, if_pos rfl]
theorem lcs_16 {xS : Nat → Int32} {LS c : Nat} {i0 : Int32} {M : Mem} {jj6 : Mem → Option LwR} (hc : c < 600) (h : INV1 c M) (v1 : vp_in (i0 + 1) LS) (v2 : vp_in (i0 + 2) LS) (v3 : vp_in (i0 + 3) LS) (v4 : vp_in (i0 + 4) LS) (v5 : vp_in (i0 + 5) LS) : ∃ M2, lc_16 xS LS 0 47 i0 M jj6 = jj6 M2 ∧ LST c M M2 := by
  obtain ⟨M1, M2, x, e1, e2, hI, hq⟩ := both_change hc h.1 (xS (i0 + 1).toNatClampNeg) (xS (i0 + 2).toNatClampNeg) (xS (i0 + 3).toNatClampNeg) (xS (i0 + 4).toNatClampNeg) (xS (i0 + 5).toNatClampNeg)
  have e1 : f_X11_change M 0 (xS (i0 + 1).toNatClampNeg) (xS (i0 + 2).toNatClampNeg) (xS (i0 + 3).toNatClampNeg) (xS (i0 + 4).toNatClampNeg) (xS (i0 + 5).toNatClampNeg) = some (M1, x) := e1
  have e2 : f_X12_change M1 47 (xS (i0 + 1).toNatClampNeg) (xS (i0 + 2).toNatClampNeg) (xS (i0 + 3).toNatClampNeg) (xS (i0 + 4).toNatClampNeg) (xS (i0 + 5).toNatClampNeg) = some (M2, x) := e2
  refine ⟨M2, ?_, h.qf hc hI hq⟩
  unfold lc_16
  rw [grd_y v1, grd_y v2, grd_y v3, grd_y v4, grd_y v5, e1, Option.bind_some, grd_y v1, grd_y v2, grd_y v3, grd_y v4, grd_y v5, e2, Option.bind_some, if_pos rfl]
theorem lcs_17 {xS : Nat → Int32} {LS c : Nat} {i0 : Int32} {M : Mem} {jj6 : Mem → Option LwR} (hc : c < 600) (h : INV1 c M) (v1 : vp_in (i0 + 1) LS) (v2 : vp_in (i0 + 2) LS) (v3 : vp_in (i0 + 3) LS) (v4 : vp_in (i0 + 4) LS) (v5 : vp_in (i0 + 5) LS) : ∃ M2, lc_17 xS LS 0 47 i0 M jj6 = jj6 M2 ∧ LST c M M2 := by
  obtain ⟨M1, M2, x, e1, e2, hI, hq⟩ := both_changes hc h.1 (xS (i0 + 1).toNatClampNeg) (xS (i0 + 2).toNatClampNeg)
  have e1 : f_X11_changes M 0 (xS (i0 + 1).toNatClampNeg) (xS (i0 + 2).toNatClampNeg) = some (M1, x) := e1
  have e2 : f_X12_changes M1 47 (xS (i0 + 1).toNatClampNeg) (xS (i0 + 2).toNatClampNeg) = some (M2, x) := e2
  refine ⟨M2, ?_, h.qf hc hI hq⟩
  unfold lc_17
  rw [grd_y v1, grd_y v2, e1, Option.bind_some, grd_y v1, grd_y v2, e2, Option.bind_some, if_pos rfl]
theorem lcs_18 {xS : Nat → Int32} {LS c : Nat} {i0 : Int32} {M : Mem} {jj6 : Mem → Option LwR} (hc : c < 600) (h : INV1 c M) (v1 : vp_in (i0 + 1) LS) (v2 : vp_in (i0 + 2) LS) (v3 : vp_in (i0 + 3) LS) (v4 : vp_in (i0 + 4) LS) (v5 : vp_in (i0 + 5) LS) : ∃ M2, lc_18 xS LS 0 47 i0 M jj6 = jj6 M2 ∧ LST c M M2 := by
  obtain ⟨M1, M2, x, e1, e2, hq, hk⟩ := both_steps hc h.1 h.2.2.2.1 h.2.2.1 (xS (i0 + 1).toNatClampNeg) (xS (i0 + 2).toNatClampNeg)
  have e1 : f_X11_steps M 0 (xS (i0 + 1).toNatClampNeg) (xS (i0 + 2).toNatClampNeg) = some (M1, x) := e1
  have e2 : f_X12_steps M1 47 (xS (i0 + 1).toNatClampNeg) (xS (i0 + 2).toNatClampNeg) = some (M2, x) := e2
  refine ⟨M2, ?_, h.pq hc hq (h.2.2.2.2.1.pq hc h.1 hq hk) (h.2.2.2.2.2.pq hc h.1 hq hk.2.2)⟩
  unfold lc_18
  rw [grd_y v1, grd_y v2, e1, Option.bind_some, grd_y v1, grd_y v2, e2, Option.bind_some, if_pos rfl]
theorem lcs_19 {xS : Nat → Int32} {LS c : Nat} {i0 : Int32} {M : Mem} {jj6 : Mem → Option LwR} (hc : c < 600) (h : INV1 c M) (v1 : vp_in (i0 + 1) LS) (v2 : vp_in (i0 + 2) LS) (v3 : vp_in (i0 + 3) LS) (v4 : vp_in (i0 + 4) LS) (v5 : vp_in (i0 + 5) LS) : ∃ M2, lc_19 xS LS 0 47 i0 M jj6 = jj6 M2 ∧ LST c M M2 := by
  obtain ⟨M1, M2, x, e1, e2, hq, hk⟩ := both_way hc h.1 h.2.2.2.1 h.2.2.1 (xS (i0 + 1).toNatClampNeg) (xS (i0 + 2).toNatClampNeg) (xS (i0 + 3).toNatClampNeg)
  have e1 : f_X11_way M 0 (xS (i0 + 1).toNatClampNeg) (xS (i0 + 2).toNatClampNeg) (xS (i0 + 3).toNatClampNeg) = some (M1, x) := e1
  have e2 : f_X12_way M1 47 (xS (i0 + 1).toNatClampNeg) (xS (i0 + 2).toNatClampNeg) (xS (i0 + 3).toNatClampNeg) = some (M2, x) := e2
  refine ⟨M2, ?_, h.pq hc hq (h.2.2.2.2.1.pq hc h.1 hq hk) (h.2.2.2.2.2.pq hc h.1 hq hk.2.2)⟩
  unfold lc_19
  rw [grd_y v1, grd_y v2, grd_y v3, e1, Option.bind_some, grd_y v1, grd_y v2, grd_y v3, e2, Option.bind_some, if_pos rfl]
theorem lcs_20 {xS : Nat → Int32} {LS c : Nat} {i0 : Int32} {M : Mem} {jj6 : Mem → Option LwR} (hc : c < 600) (h : INV1 c M) (v1 : vp_in (i0 + 1) LS) (v2 : vp_in (i0 + 2) LS) (v3 : vp_in (i0 + 3) LS) (v4 : vp_in (i0 + 4) LS) (v5 : vp_in (i0 + 5) LS) : ∃ M2, lc_20 xS LS 0 47 i0 M jj6 = jj6 M2 ∧ LST c M M2 := by
  obtain ⟨M1, M2, x, e1, e2, hq, hk⟩ := both_between hc h.1 h.2.2.2.1 h.2.2.1 (xS (i0 + 1).toNatClampNeg) (xS (i0 + 2).toNatClampNeg)
  have e1 : f_X11_between M 0 (xS (i0 + 1).toNatClampNeg) (xS (i0 + 2).toNatClampNeg) = some (M1, x) := e1
  have e2 : f_X12_between M1 47 (xS (i0 + 1).toNatClampNeg) (xS (i0 + 2).toNatClampNeg) = some (M2, x) := e2
  refine ⟨M2, ?_, h.pq hc hq (h.2.2.2.2.1.pq hc h.1 hq hk) (h.2.2.2.2.2.pq hc h.1 hq hk.2.2)⟩
  unfold lc_20
  rw [grd_y v1, grd_y v2, e1, Option.bind_some, grd_y v1, grd_y v2, e2, Option.bind_some, if_pos rfl]
theorem lcs_21 {xS : Nat → Int32} {LS c : Nat} {i0 : Int32} {M : Mem} {jj6 : Mem → Option LwR} (hc : c < 600) (h : INV1 c M) (v1 : vp_in (i0 + 1) LS) (v2 : vp_in (i0 + 2) LS) (v3 : vp_in (i0 + 3) LS) (v4 : vp_in (i0 + 4) LS) (v5 : vp_in (i0 + 5) LS) : ∃ M2, lc_21 xS LS 0 47 i0 M jj6 = jj6 M2 ∧ LST c M M2 := by
  obtain ⟨M1, M2, x, e1, e2, hI, hq⟩ := both_judge hc h.1 (xS (i0 + 1).toNatClampNeg)
  have e1 : f_X11_judge M 0 (xS (i0 + 1).toNatClampNeg) = some (M1, x) := e1
  have e2 : f_X12_judge M1 47 (xS (i0 + 1).toNatClampNeg) = some (M2, x) := e2
  refine ⟨M2, ?_, h.qf hc hI hq⟩
  unfold lc_21
  rw [grd_y v1, e1, Option.bind_some, grd_y v1, e2, Option.bind_some, if_pos rfl]
theorem lcs_22 {xS : Nat → Int32} {LS c : Nat} {i0 : Int32} {M : Mem} {jj6 : Mem → Option LwR} (hc : c < 600) (h : INV1 c M) (v1 : vp_in (i0 + 1) LS) (v2 : vp_in (i0 + 2) LS) (v3 : vp_in (i0 + 3) LS) (v4 : vp_in (i0 + 4) LS) (v5 : vp_in (i0 + 5) LS) : ∃ M2, lc_22 xS LS 0 47 i0 M jj6 = jj6 M2 ∧ LST c M M2 := by
  obtain ⟨x, e1, e2⟩ := both_poor h.1.1 (xS (i0 + 1).toNatClampNeg)
  refine ⟨M, ?_, h.stay hc Fr.rf⟩
  unfold lc_22
  rw [grd_y v1, e1, Option.bind_some, e2, Option.bind_some, if_pos rfl]
theorem lcs_23 {xS : Nat → Int32} {LS c : Nat} {i0 : Int32} {M : Mem} {jj6 : Mem → Option LwR} (hc : c < 600) (h : INV1 c M) (v1 : vp_in (i0 + 1) LS) (v2 : vp_in (i0 + 2) LS) (v3 : vp_in (i0 + 3) LS) (v4 : vp_in (i0 + 4) LS) (v5 : vp_in (i0 + 5) LS) : ∃ M2, lc_23 xS LS 0 47 i0 M jj6 = jj6 M2 ∧ LST c M M2 := by
  obtain ⟨M1, M2, x, e1, e2, hq, hf, hk⟩ := both_first hc h.1 h.2.2.2.1 h.2.2.1 h.2.2.2.2.1 (xS (i0 + 1).toNatClampNeg) (xS (i0 + 2).toNatClampNeg)
  have e1 : f_X11_first M 0 (xS (i0 + 1).toNatClampNeg) (xS (i0 + 2).toNatClampNeg) = some (M1, x) := e1
  have e2 : f_X12_first M1 47 (xS (i0 + 1).toNatClampNeg) (xS (i0 + 2).toNatClampNeg) = some (M2, x) := e2
  refine ⟨M2, ?_, h.pq hc hq hf (h.2.2.2.2.2.pq hc h.1 hq hk)⟩
  unfold lc_23
  rw [grd_y v1, grd_y v2, e1, Option.bind_some, grd_y v1, grd_y v2, e2, Option.bind_some, if_pos rfl]
theorem lcs_24 {xS : Nat → Int32} {LS c : Nat} {i0 : Int32} {M : Mem} {jj6 : Mem → Option LwR} (hc : c < 600) (h : INV1 c M) (v1 : vp_in (i0 + 1) LS) (v2 : vp_in (i0 + 2) LS) (v3 : vp_in (i0 + 3) LS) (v4 : vp_in (i0 + 4) LS) (v5 : vp_in (i0 + 5) LS) : ∃ M2, lc_24 xS LS 0 47 i0 M jj6 = jj6 M2 ∧ LST c M M2 := by
  obtain ⟨M1, M2, x, e1, e2, hq, hf, hp⟩ := both_lines hc h.1 h.2.2.2.1 h.2.2.1 h.2.2.2.2.1 h.2.2.2.2.2 (xS (i0 + 1).toNatClampNeg) (xS (i0 + 2).toNatClampNeg)
  have e1 : f_X11_lines M 0 (xS (i0 + 1).toNatClampNeg) (xS (i0 + 2).toNatClampNeg) = some (M1, x) := e1
  have e2 : f_X12_lines M1 47 (xS (i0 + 1).toNatClampNeg) (xS (i0 + 2).toNatClampNeg) = some (M2, x) := e2
  refine ⟨M2, ?_, h.pq hc hq hf hp⟩
  unfold lc_24
  rw [grd_y v1, grd_y v2, e1, Option.bind_some, grd_y v1, grd_y v2, e2, Option.bind_some, if_pos rfl]
theorem lcs_25 {xS : Nat → Int32} {LS c : Nat} {i0 : Int32} {M : Mem} {jj6 : Mem → Option LwR} (hc : c < 600) (h : INV1 c M) (v1 : vp_in (i0 + 1) LS) (v2 : vp_in (i0 + 2) LS) (v3 : vp_in (i0 + 3) LS) (v4 : vp_in (i0 + 4) LS) (v5 : vp_in (i0 + 5) LS) : ∃ M2, lc_25 xS LS 0 47 i0 M jj6 = jj6 M2 ∧ LST c M M2 := by
  obtain ⟨M1, M2, x, e1, e2, hq⟩ := both_odds hc h.1 h.2.1 (xS (i0 + 1).toNatClampNeg) (xS (i0 + 2).toNatClampNeg) (xS (i0 + 3).toNatClampNeg)
  have e1 : f_X11_odds M 0 (xS (i0 + 1).toNatClampNeg) (xS (i0 + 2).toNatClampNeg) (xS (i0 + 3).toNatClampNeg) = some (M1, x) := e1
  have e2 : f_X12_odds M1 47 (xS (i0 + 1).toNatClampNeg) (xS (i0 + 2).toNatClampNeg) (xS (i0 + 3).toNatClampNeg) = some (M2, x) := e2
  refine ⟨M2, ?_, h.ch hc hq⟩
  unfold lc_25
  rw [grd_y v1, grd_y v2, grd_y v3, e1, Option.bind_some, grd_y v1, grd_y v2, grd_y v3, e2, Option.bind_some, if_pos (lgc_s _)]
theorem lcs_26 {xS : Nat → Int32} {LS c : Nat} {i0 : Int32} {M : Mem} {jj6 : Mem → Option LwR} (hc : c < 600) (h : INV1 c M) (v1 : vp_in (i0 + 1) LS) (v2 : vp_in (i0 + 2) LS) (v3 : vp_in (i0 + 3) LS) (v4 : vp_in (i0 + 4) LS) (v5 : vp_in (i0 + 5) LS) : ∃ M2, lc_26 xS LS 0 47 i0 M jj6 = jj6 M2 ∧ LST c M M2 := by
  obtain ⟨M1, M2, x, e1, e2, hq⟩ := both_likely hc h.1 h.2.1 (xS (i0 + 1).toNatClampNeg) (xS (i0 + 2).toNatClampNeg)
  have e1 : f_X11_likely M 0 (xS (i0 + 1).toNatClampNeg) (xS (i0 + 2).toNatClampNeg) = some (M1, x) := e1
  have e2 : f_X12_likely M1 47 (xS (i0 + 1).toNatClampNeg) (xS (i0 + 2).toNatClampNeg) = some (M2, x) := e2
  refine ⟨M2, ?_, h.ch hc hq⟩
  unfold lc_26
  rw [grd_y v1, grd_y v2, e1, Option.bind_some, grd_y v1, grd_y v2, e2, Option.bind_some, if_pos rfl]
theorem lcs_27 {xS : Nat → Int32} {LS c : Nat} {i0 : Int32} {M : Mem} {jj6 : Mem → Option LwR} (hc : c < 600) (h : INV1 c M) (v1 : vp_in (i0 + 1) LS) (v2 : vp_in (i0 + 2) LS) (v3 : vp_in (i0 + 3) LS) (v4 : vp_in (i0 + 4) LS) (v5 : vp_in (i0 + 5) LS) : ∃ M2, lc_27 xS LS 0 47 i0 M jj6 = jj6 M2 ∧ LST c M M2 := by
  obtain ⟨x, e1, e2⟩ := both_tastings h.1.1 (xS (i0 + 1).toNatClampNeg) (xS (i0 + 2).toNatClampNeg)
  refine ⟨M, ?_, h.stay hc Fr.rf⟩
  unfold lc_27
  rw [grd_y v1, grd_y v2, e1, Option.bind_some, e2, Option.bind_some, if_pos rfl]
theorem lcs_28 {xS : Nat → Int32} {LS c : Nat} {i0 : Int32} {M : Mem} {jj6 : Mem → Option LwR} (hc : c < 600) (h : INV1 c M) (v1 : vp_in (i0 + 1) LS) (v2 : vp_in (i0 + 2) LS) (v3 : vp_in (i0 + 3) LS) (v4 : vp_in (i0 + 4) LS) (v5 : vp_in (i0 + 5) LS) : ∃ M2, lc_28 xS LS 0 47 i0 M jj6 = jj6 M2 ∧ LST c M M2 := by
  obtain ⟨x, e1, ⟨M2, x2⟩, e2, hF, hx⟩ := both_copies h.1.1 (xS (i0 + 1).toNatClampNeg)
  simp only at hF hx
  subst hx
  refine ⟨M2, ?_, h.stay hc (hF.up (fun a k w => by unfold Spin at w; unfold Srv; omega))⟩
  unfold lc_28
  rw [grd_y v1, e1, Option.bind_some, e2, Option.bind_some, if_pos rfl]
theorem lcs_29 {xS : Nat → Int32} {LS c : Nat} {i0 : Int32} {M : Mem} {jj6 : Mem → Option LwR} (hc : c < 600) (h : INV1 c M) (v1 : vp_in (i0 + 1) LS) (v2 : vp_in (i0 + 2) LS) (v3 : vp_in (i0 + 3) LS) (v4 : vp_in (i0 + 4) LS) (v5 : vp_in (i0 + 5) LS) : ∃ M2, lc_29 xS LS 0 47 i0 M jj6 = jj6 M2 ∧ LST c M M2 := by
  obtain ⟨x, e1, ⟨M2, x2⟩, e2, hF, hx⟩ := both_stood h.1.1 (xS (i0 + 1).toNatClampNeg)
  simp only at hF hx
  subst hx
  refine ⟨M2, ?_, h.stay hc (hF.up (fun a k w => by unfold Spin at w; unfold Srv; omega))⟩
  unfold lc_29
  rw [grd_y v1, e1, Option.bind_some, e2, Option.bind_some, if_pos rfl]
theorem lcs_30 {xS : Nat → Int32} {LS c : Nat} {i0 : Int32} {M : Mem} {jj6 : Mem → Option LwR} (hc : c < 600) (h : INV1 c M) (v1 : vp_in (i0 + 1) LS) (v2 : vp_in (i0 + 2) LS) (v3 : vp_in (i0 + 3) LS) (v4 : vp_in (i0 + 4) LS) (v5 : vp_in (i0 + 5) LS) : ∃ M2, lc_30 xS LS 0 47 i0 M jj6 = jj6 M2 ∧ LST c M M2 := by
  obtain ⟨M1, M2, x, e1, e2, hI, hq⟩ := both_line hc h.1 (xS (i0 + 1).toNatClampNeg) (xS (i0 + 2).toNatClampNeg) (xS (i0 + 3).toNatClampNeg)
  have e1 : f_X11_line M 0 (xS (i0 + 1).toNatClampNeg) (xS (i0 + 2).toNatClampNeg) (xS (i0 + 3).toNatClampNeg) = some (M1, x) := e1
  have e2 : f_X12_line M1 47 (xS (i0 + 1).toNatClampNeg) (xS (i0 + 2).toNatClampNeg) (xS (i0 + 3).toNatClampNeg) = some (M2, x) := e2
  refine ⟨M2, ?_, h.qf hc hI hq⟩
  unfold lc_30
  rw [grd_y v1, grd_y v2, grd_y v3, e1, Option.bind_some, grd_y v1, grd_y v2, grd_y v3, e2, Option.bind_some, if_pos rfl]
theorem lcs_31 {xS : Nat → Int32} {LS c : Nat} {i0 : Int32} {M : Mem} {jj6 : Mem → Option LwR} (hc : c < 600) (h : INV1 c M) (v1 : vp_in (i0 + 1) LS) (v2 : vp_in (i0 + 2) LS) (v3 : vp_in (i0 + 3) LS) (v4 : vp_in (i0 + 4) LS) (v5 : vp_in (i0 + 5) LS) : ∃ M2, lc_31 xS LS 0 47 i0 M jj6 = jj6 M2 ∧ LST c M M2 := by
  obtain ⟨x, e1, e2⟩ := both_drawn h.1.1.1 h.1.1.2.1 h.1.2.2.2.2.2.1.2.2.2 (xS (i0 + 1).toNatClampNeg)
  refine ⟨M, ?_, h.stay hc Fr.rf⟩
  unfold lc_31
  rw [grd_y v1, e1, Option.bind_some, e2, Option.bind_some, if_pos rfl]
theorem lcs_32 {xS : Nat → Int32} {LS c : Nat} {i0 : Int32} {M : Mem} {jj6 : Mem → Option LwR} (hc : c < 600) (h : INV1 c M) (v1 : vp_in (i0 + 1) LS) (v2 : vp_in (i0 + 2) LS) (v3 : vp_in (i0 + 3) LS) (v4 : vp_in (i0 + 4) LS) (v5 : vp_in (i0 + 5) LS) : ∃ M2, lc_32 xS LS 0 47 i0 M jj6 = jj6 M2 ∧ LST c M M2 := by
  obtain ⟨M1, M2, x, e1, e2, hI, hq⟩ := both_image hc h.1 (xS (i0 + 1).toNatClampNeg)
  have e1 : f_X11_image M 0 (xS (i0 + 1).toNatClampNeg) = some (M1, x) := e1
  have e2 : f_X12_image M1 47 (xS (i0 + 1).toNatClampNeg) = some (M2, x) := e2
  refine ⟨M2, ?_, h.qf hc hI hq⟩
  unfold lc_32
  rw [grd_y v1, e1, Option.bind_some, grd_y v1, e2, Option.bind_some, if_pos rfl]
theorem lcs_33 {xS : Nat → Int32} {LS c : Nat} {i0 : Int32} {M : Mem} {jj6 : Mem → Option LwR} (hc : c < 600) (h : INV1 c M) (v1 : vp_in (i0 + 1) LS) (v2 : vp_in (i0 + 2) LS) (v3 : vp_in (i0 + 3) LS) (v4 : vp_in (i0 + 4) LS) (v5 : vp_in (i0 + 5) LS) : ∃ M2, lc_33 xS LS 0 47 i0 M jj6 = jj6 M2 ∧ LST c M M2 := by
  obtain ⟨M1, M2, x, e1, e2, hI, hq⟩ := both_back hc h.1 (xS (i0 + 1).toNatClampNeg)
  have e1 : f_X11_back M 0 (xS (i0 + 1).toNatClampNeg) = some (M1, x) := e1
  have e2 : f_X12_back M1 47 (xS (i0 + 1).toNatClampNeg) = some (M2, x) := e2
  refine ⟨M2, ?_, h.qf hc hI hq⟩
  unfold lc_33
  rw [grd_y v1, e1, Option.bind_some, grd_y v1, e2, Option.bind_some, if_pos rfl]
theorem lcs_34 {xS : Nat → Int32} {LS c : Nat} {i0 : Int32} {M : Mem} {jj6 : Mem → Option LwR} (hc : c < 600) (h : INV1 c M) (v1 : vp_in (i0 + 1) LS) (v2 : vp_in (i0 + 2) LS) (v3 : vp_in (i0 + 3) LS) (v4 : vp_in (i0 + 4) LS) (v5 : vp_in (i0 + 5) LS) : ∃ M2, lc_34 xS LS 0 47 i0 M jj6 = jj6 M2 ∧ LST c M M2 := by
  have htp : mI M 11 4 = mI M 47 17 := by
    obtain ⟨n, bt, t1, t2, t3, t4⟩ := h.1.2.2.1
    rw [t2, t3]
  obtain ⟨x, e1, e2⟩ := both_count h.1.1 htp (xS (i0 + 1).toNatClampNeg)
  refine ⟨M, ?_, h.stay hc Fr.rf⟩
  unfold lc_34
  rw [grd_y v1, e1, Option.bind_some, e2, Option.bind_some, if_pos rfl]
theorem lcs_35 {xS : Nat → Int32} {LS c : Nat} {i0 : Int32} {M : Mem} {jj6 : Mem → Option LwR} (hc : c < 600) (h : INV1 c M) (v1 : vp_in (i0 + 1) LS) (v2 : vp_in (i0 + 2) LS) (v3 : vp_in (i0 + 3) LS) (v4 : vp_in (i0 + 4) LS) (v5 : vp_in (i0 + 5) LS) : ∃ M2, lc_35 xS LS 0 47 i0 M jj6 = jj6 M2 ∧ LST c M M2 := by
  obtain ⟨x, e1, e2⟩ := both_status h.1.1
  refine ⟨M, ?_, h.stay hc Fr.rf⟩
  unfold lc_35
  rw [e1, Option.bind_some, e2, Option.bind_some, if_pos rfl]
