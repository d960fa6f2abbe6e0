/-! put and of -/
def TR (M : Mem) : Mem := wI (wI M 1 13 (mI M 1 13 + 1)) 1 14 (mI M 1 14 + 1)
theorem c_touch {M : Mem} (hL : LayC M) : f_X10_touchRules M 1 = some (TR M) := by
  unfold LayC at hL
  unfold f_X10_touchRules
  simp only [hL, grd_T, bv]
  rw [mI_wI_ne (by decide)]
  rfl
theorem c_thingRow {M : Mem} (hL : LayC M) {w : Nat} (hw : w ≤ 2) : f_X10_thingRow M 1 (nI w) = some (2 + w) := by
  unfold LayC at hL
  unfold f_X10_thingRow
  simp only [hL, grd_T, Option.bind_some]
  have : w = 0 ∨ w = 1 ∨ w = 2 := by omega
  rcases this with h | h | h <;> subst h
  · rw [if_pos (show nI 0 = 0 from rfl)]
  · rw [if_neg (by decide), if_pos (show nI 1 = 1 from rfl)]
  · rw [if_neg (by decide), if_neg (by decide)]
theorem LayC.row {M : Mem} (hL : LayC M) {w : Nat} (hw : w ≤ 2) : okO M 14 (2 + w) ∧ mL M (2 + w) = 6 := by
  unfold LayC at hL
  have : w = 0 ∨ w = 1 ∨ w = 2 := by omega
  rcases this with h | h | h <;> subst h
  · exact ⟨hL.2.2.1, hL.2.2.2.1⟩
  · exact ⟨hL.2.2.2.2.1, hL.2.2.2.2.2.1⟩
  · exact ⟨hL.2.2.2.2.2.2.1, hL.2.2.2.2.2.2.2.1⟩
def Aall (_a _k : Nat) : Prop := True
theorem fr_any {M M1 : Mem} {a k : Nat} {v : Int32} (h : Fr Aall M M1) : Fr Aall M (wI M1 a k v) := h.wI trivial
theorem LayC.w {M : Mem} {a k : Nat} {v : Int32} (h : LayC M) : LayC (wI M a k v) := h.fr (fr_any Fr.rf)
theorem LayM.w {M : Mem} {a k : Nat} {v : Int32} (h : LayM M) : LayM (wI M a k v) := h.fr (fr_any Fr.rf)
theorem LayC.tr {M : Mem} (h : LayC M) : LayC (TR M) := h.w.w
theorem th_nat {p : Int32} (h : 0 ≤ p ∧ p ≤ 5) : ∃ t, t < 6 ∧ p = nI t := by
  obtain ⟨t, ht, h2⟩ := nat_of h.1
  subst ht
  have h5 := h.2
  rw [show (5 : Int32) = nI 5 from rfl, nleI h2 (by omega)] at h5
  exact ⟨t, by omega, rfl⟩
def PUTC (M : Mem) (t w : Nat) (v : Int32) : Mem := wI (TR (wI M (2 + w) t v)) 0 12 0
def PUTM (M : Mem) (t w : Nat) (v : Int32) : Mem := wI (wI (wI M 49 (6 * w + t) v) 47 0 0) 47 1 (mI M 47 1 + 1)
theorem c_put {M : Mem} (hL : LayC M) {t w : Nat} (ht : t < 6) (hw : w ≤ 2) {v : Int32} (hV : f_X11_isValueOf (nI t) (nI w) v = some 1) : f_X11_put M 0 (nI t) (nI w) v = some (PUTC M t w v, mI M (2 + w) t) := by
  have hr := hL.row hw
  have hLL := hL
  unfold LayC at hLL
  unfold f_X11_put
  have h5 : 0 ≤ nI t ∧ nI t ≤ 5 := by
    rw [show (0 : Int32) = nI 0 from rfl, show (5 : Int32) = nI 5 from rfl, nleI (by omega) (by omega), nleI (by omega) (by omega)]
    omega
  rw [c_isThing, if_pos h5, hV]
  simp only [Option.bind_some, bv]
  rw [if_neg (by decide), if_neg (by decide)]
  simp only [hLL, grd_T, Option.bind_some, mR_wI, ok_wI, c_thingRow hL hw, hr]
  rw [grd_y ((nvp (by omega)).mpr ht), nclampI (by omega), c_touch hL.w, Option.bind_some, c_accept hL.w.tr, Option.bind_some]
  rfl
theorem c_put_no {M : Mem} (hL : LayC M) {a b c : Int32} (h : ¬ (0 ≤ a ∧ a ≤ 5) ∨ f_X11_isValueOf a b c = some 0) : f_X11_put M 0 a b c = some (RFC M 1, -1) := by
  have hLL := hL
  unfold LayC at hLL
  unfold f_X11_put
  have e : f_X11_refuse M 0 (-1) = some (RFC M 1, -1) := c_refuse hL (n := 1) (Or.inl rfl)
  rw [c_isThing]
  simp only [hLL, grd_T, Option.bind_some, bv, e]
  by_cases h5 : 0 ≤ a ∧ a ≤ 5
  · rcases h with h | h
    · exact absurd h5 h
    · rw [if_pos h5, if_neg (by decide), h, Option.bind_some, if_pos rfl]
  · rw [if_neg h5, if_pos rfl]
theorem r_put {M : Mem} (hL : LayM M) {t w : Nat} (ht : t < 6) (hw : w ≤ 2) {v : Int32} (hV : f_X12_isPut (nI t) (nI w) v = some 1) : f_X12_put M 47 (nI t) (nI w) v = some (PUTM M t w v, mI M 49 (6 * w + t)) := by
  have hLL := hL
  unfold LayM at hLL
  unfold f_X12_put
  have h5 : 0 ≤ nI t ∧ nI t ≤ 5 := by
    rw [show (0 : Int32) = nI 0 from rfl, show (5 : Int32) = nI 5 from rfl, nleI (by omega) (by omega), nleI (by omega) (by omega)]
    omega
  have ei : (0 + (6 * nI w)) + nI t = nI (6 * w + t) := by
    rw [show (0 : Int32) = nI 0 from rfl, show (6 : Int32) = nI 6 from rfl, nmul, nadd, nadd, Nat.zero_add]
  rw [r_isThing, if_pos h5, hV]
  simp only [Option.bind_some, bv]
  rw [if_neg (by decide), if_neg (by decide), ei]
  simp only [hLL, grd_T, Option.bind_some, mR_wI, ok_wI]
  rw [grd_y ((nvp (by omega)).mpr (by omega)), grd_y ((nvp (by omega)).mpr (by omega)), nclampI (by omega), r_good hL.w, Option.bind_some, mI_wI_row (by decide)]
  rfl
theorem r_put_no {M : Mem} (hL : LayM M) {a b c : Int32} (h : ¬ (0 ≤ a ∧ a ≤ 5) ∨ f_X12_isPut a b c = some 0) : f_X12_put M 47 a b c = some (RFM M 1, -1) := by
  have hLL := hL
  unfold LayM at hLL
  unfold f_X12_put
  have e : f_X12_refuses M 47 (-1) = some (RFM M 1, -1) := r_refuses hL (n := 1) (Or.inl rfl)
  rw [r_isThing]
  simp only [hLL, grd_T, Option.bind_some, bv, e]
  by_cases h5 : 0 ≤ a ∧ a ≤ 5
  · rcases h with h | h
    · exact absurd h5 h
    · rw [if_pos h5, if_neg (by decide), h, Option.bind_some, if_pos rfl]
  · rw [if_neg h5, if_pos rfl]
