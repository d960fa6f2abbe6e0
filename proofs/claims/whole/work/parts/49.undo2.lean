/-! undo of the reference, and both -/
theorem e_fact {m j : Nat} : (18 + (3 * nI m)) + nI j = nI (18 + 3 * m + j) := by
  rw [show (18 : Int32) = nI 18 from rfl, show (3 : Int32) = nI 3 from rfl, nmul, nadd, nadd]
theorem r_fact {M : Mem} (hL : LayM M) {m j : Nat} (hm : m < 12) (hj : j < 3) : f_X12_fact M 47 (nI m) (nI j) = some (mI M 49 (18 + 3 * m + j)) := by
  unfold LayM at hL
  unfold f_X12_fact
  simp only [hL, grd_T, Option.bind_some]
  rw [e_fact, grd_y ((nvp (by omega)).mpr (by omega)), nclampI (by omega)]
theorem r_undo {M : Mem} (hM : LayM M) {m : Nat} (hm : m < 12) (h56 : mI M 49 56 = nI (m + 1)) : f_X12_undo M 47 = some (STR M 56 (nI m), mI M 49 (18 + 3 * m + 2)) := by
  have v56 : vp_in 56 5666 := by unfold vp_in; decide
  have k56 : (56 : Int32).toNatClampNeg = 56 := rfl
  have hne : ¬ nI (m + 1) = 0 := by
    rw [show (0 : Int32) = nI 0 from rfl, neqI (by omega) (by omega)]
    omega
  have ep : nI (m + 1) - 1 = nI m := npred1 (n := m + 1) (by omega)
  have hf := r_fact (M := wI M 49 56 (nI m)) hM.w (m := m) (j := 2) hm (by omega)
  rw [mI_wI_ne (M := M) (a := 49) (b := 49) (k := 56) (j := 18 + 3 * m + 2) (by omega)] at hf
  have hg := r_good (M := wI M 49 56 (nI m)) hM.w (v := mI M 49 (18 + 3 * m + 2))
  rw [mI_wI_row (b := 47) (by decide)] at hg
  have hLL := hM
  unfold LayM at hLL
  unfold f_X12_undo
  simp only [hLL, grd_T, Option.bind_some, k56, v56, h56, bv, mR_wI, ok_wI, mL_wI]
  rw [if_neg hne, ep, mI_wIs, show (2 : Int32) = nI 2 from rfl, hf, Option.bind_some, hg, Option.bind_some]
  rfl
theorem undo_no {M : Mem} (h : REL M) (h56 : mI M 49 56 = nI 0) : BOTH M (fun M => f_X11_undo M 0) (fun M => f_X12_undo M 47) := by
  have hC := h.1
  have hM := h.2.1
  have h8 : mI M 1 8 = nI 0 := by rw [h.2.2.2.1.2.1.1, h56]
  have v56 : vp_in 56 5666 := by unfold vp_in; decide
  have k56 : (56 : Int32).toNatClampNeg = 56 := rfl
  have z : nI 0 = 0 := rfl
  refine ⟨RFC M 3, RFM (RFC M 3) 3, -3, ?_, ?_, STP.refuse h (Or.inr (Or.inr (Or.inl rfl)))⟩
  · have e : f_X11_refuse M 0 (-3) = some (RFC M 3, -3) := c_refuse hC (n := 3) (Or.inr (Or.inr (Or.inl rfl)))
    unfold LayC at hC
    show f_X11_undo M 0 = _
    unfold f_X11_undo
    simp only [hC, grd_T, Option.bind_some, h8, e]
    rw [if_pos z]
  · have hL1 : LayM (RFC M 3) := hM.rfc
    have q56 : mI (RFC M 3) 49 56 = nI 0 := by
      unfold RFC
      rw [mI_wI_row (by decide), mI_wI_row (by decide), h56]
    show f_X12_undo (RFC M 3) 47 = _
    generalize RFC M 3 = M1 at hL1 q56 ⊢
    have e : f_X12_refuses M1 47 (-3) = some (RFM M1 3, -3) := r_refuses hL1 (n := 3) (Or.inr (Or.inr (Or.inl rfl)))
    have hLL := hL1
    unfold LayM at hLL
    unfold f_X12_undo
    simp only [hLL, grd_T, Option.bind_some, k56, q56, v56, e]
    rw [if_pos z]
theorem both_undo {M : Mem} (h : REL M) : BOTH M (fun M => f_X11_undo M 0) (fun M => f_X12_undo M 47) := by
  obtain ⟨n, hn, h56, hh⟩ := h.2.2.1.2.2.2
  cases n with
  | zero => exact undo_no h h56
  | succ m =>
    have h8 : mI M 1 8 = nI (m + 1) := by rw [h.2.2.2.1.2.1.1, h56]
    obtain ⟨_, _, l, hl, hl2⟩ := hh m (by omega)
    obtain ⟨_, _, hd⟩ := h.2.2.2.1.2.2 (m + 1) m hn h56 (by omega)
    have hd7 := (hd l hl hl2).1
    have q49 : ∀ k, mI (UNC M m) 49 k = mI M 49 k := fun k => by
      unfold UNC
      rw [mI_wI_row (by decide), mI_wI_row (by decide), mI_wI_row (by decide)]
    have hr := r_undo (M := UNC M m) h.2.1.w.w.w (m := m) (by omega) (by rw [q49]; exact h56)
    rw [q49, show 18 + 3 * m + 2 = 20 + 3 * m by omega, hl2] at hr
    exact ⟨_, _, _, c_undo h.1 (by omega) h8 hl hd7, hr, STP.undo h hn h56 (by omega)⟩
