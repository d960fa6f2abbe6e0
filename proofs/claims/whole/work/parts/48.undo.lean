/-! undo on both sides -/
theorem npred1 {n : Nat} (h : 1 ≤ n) : nI n - 1 = nI (n - 1) := by
  rw [show (1 : Int32) = nI 1 from rfl, nsub h]
theorem c_undo {M : Mem} (hC : LayC M) {m : Nat} (hm : m < 12) (h8 : mI M 1 8 = nI (m + 1)) {l : List Nat} (hl : DL l) (hd7 : mI M 7 m = nI (rank l)) : f_X11_undo M 0 = some (UNC M m, nI (num l)) := by
  have hne : ¬ nI (m + 1) = 0 := by
    rw [show (0 : Int32) = nI 0 from rfl, neqI (by omega) (by omega)]
    omega
  have hk := c_keep hC (n := m + 1) (m := m) (by omega) (by omega) h8
  have ep : nI (m + 1) - 1 = nI m := npred1 (n := m + 1) (by omega)
  have hLL := hC
  unfold LayC at hLL
  unfold f_X11_undo
  simp only [hLL, grd_T, Option.bind_some, h8]
  rw [if_neg hne, ep, hk]
  simp only [hLL, grd_T, Option.bind_some, mR_wI, ok_wI, mL_wI]
  rw [mI_wI_ne (a := 1) (b := 1) (by decide), mI_wIs, grd_y ((nvp (by omega)).mpr hm), nclampI (by omega), mI_wI_row (by decide), mI_wI_row (by decide), hd7, p_numOf hl, Option.bind_some, c_accept hC.w.w, Option.bind_some]
  rfl
