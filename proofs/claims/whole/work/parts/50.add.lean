/-! a house more -/
def ADDC (M : Mem) (n : Nat) (p1 p2 rk ts : Int32) : Mem := wI (wI (wI (wI (wI (wI M 5 n p1) 6 n p2) 7 n rk) 8 n ts) 1 14 (mI M 1 14 + 1)) 1 8 (nI (n + 1))
theorem c_add {M : Mem} (hC : LayC M) {n : Nat} (hn : n < 12) (h8 : mI M 1 8 = nI n) {p1 p2 : Int32} {l : List Nat} (hl : DL l) : f_X10_add M 1 p1 p2 (nI (rank l)) = some (ADDC M n p1 p2 (nI (rank l)) (nI (tst l)), nI n) := by
  have ht := p_tasteOf hl
  have ep : nI (n + 1) - 1 = nI n := npred1 (n := n + 1) (by omega)
  have hlt : nI n < 12 := by
    rw [show (12 : Int32) = nI 12 from rfl, nltI (by omega) (by omega)]
    exact hn
  have hv : vp_in (nI n) 12 := (nvp (by omega)).mpr hn
  have hc : (nI n).toNatClampNeg = n := nclampI (by omega)
  have h5 : ∀ {v}, mI (wI M 5 n v) 1 = mI M 1 := fun {v} => mI_wI_row (by decide)
  have h6 : ∀ {M : Mem} {v}, mI (wI M 6 n v) 1 = mI M 1 := fun {M v} => mI_wI_row (by decide)
  have h7 : ∀ {M : Mem} {v}, mI (wI M 7 n v) 1 = mI M 1 := fun {M v} => mI_wI_row (by decide)
  have h8' : ∀ {M : Mem} {v}, mI (wI M 8 n v) 1 = mI M 1 := fun {M v} => mI_wI_row (by decide)
  unfold LayC at hC
  unfold f_X10_add
  simp only [hC, grd_T, Option.bind_some, h8, bv, mR_wI, ok_wI, mL_wI, h5, h6, h7, h8', hv, hc, ht]
  rw [if_pos hlt, mI_wI_ne (j := 8) (k := 14) (by decide), h8', h7, h6, h5, h8, show nI n + 1 = nI (n + 1) from nadd n 1, mI_wIs, ep]
  rfl
theorem c_add_no {M : Mem} (hC : LayC M) (h8 : mI M 1 8 = nI 12) {p1 p2 p3 : Int32} : f_X10_add M 1 p1 p2 p3 = some (M, -5) := by
  have hlt : ¬ nI 12 < 12 := by decide
  unfold LayC at hC
  unfold f_X10_add
  simp only [hC, grd_T, h8]
  rw [if_neg hlt]
def ADDM (M : Mem) (n : Nat) (p1 p2 p3 : Int32) : Mem := wI (wI (wI (wI M 49 (18 + 3 * n) p1) 49 (18 + 3 * n + 1) p2) 49 (18 + 3 * n + 2) p3) 49 56 (nI (n + 1))
theorem r_adds {M : Mem} (hM : LayM M) {n : Nat} (hn : n < 12) (h56 : mI M 49 56 = nI n) {p1 p2 p3 : Int32} : f_X12_adds M 47 p1 p2 p3 = some (ADDM M n p1 p2 p3) := by
  have v56 : vp_in 56 5666 := by unfold vp_in; decide
  have k56 : (56 : Int32).toNatClampNeg = 56 := rfl
  have ex : 18 + 3 * nI n = nI (18 + 3 * n) := by
    rw [show (18 : Int32) = nI 18 from rfl, show (3 : Int32) = nI 3 from rfl, nmul, nadd]
  have e0 : nI (18 + 3 * n) + 0 = nI (18 + 3 * n) := by
    rw [show (0 : Int32) = nI 0 from rfl, nadd, Nat.add_zero]
  have e1 : nI (18 + 3 * n) + 1 = nI (18 + 3 * n + 1) := nadd _ 1
  have e2 : nI (18 + 3 * n) + 2 = nI (18 + 3 * n + 2) := nadd _ 2
  have w0 : vp_in (nI (18 + 3 * n)) 5666 := (nvp (by omega)).mpr (by omega)
  have w1 : vp_in (nI (18 + 3 * n + 1)) 5666 := (nvp (by omega)).mpr (by omega)
  have w2 : vp_in (nI (18 + 3 * n + 2)) 5666 := (nvp (by omega)).mpr (by omega)
  have c0 : (nI (18 + 3 * n)).toNatClampNeg = 18 + 3 * n := nclampI (by omega)
  have c1 : (nI (18 + 3 * n + 1)).toNatClampNeg = 18 + 3 * n + 1 := nclampI (by omega)
  have c2 : (nI (18 + 3 * n + 2)).toNatClampNeg = 18 + 3 * n + 2 := nclampI (by omega)
  unfold LayM at hM
  unfold f_X12_adds
  simp only [hM, grd_T, Option.bind_some, h56, bv, mR_wI, ok_wI, mL_wI, v56, k56, ex, e0, e1, e2, w0, w1, w2, c0, c1, c2]
  rw [mI_wI_ne (j := 56) (k := 18 + 3 * n + 2) (by omega), mI_wI_ne (j := 56) (k := 18 + 3 * n + 1) (by omega), mI_wI_ne (j := 56) (k := 18 + 3 * n) (by omega), h56, show nI n + 1 = nI (n + 1) from nadd n 1]
  rfl
/-- both sides with a house more: rows and kept row -/
def KADD (K : Nat → Int32) (n : Nat) (p1 p2 p3 : Int32) (k : Nat) : Int32 := if k = 56 then nI (n + 1) else if k = 18 + 3 * n + 2 then p3 else if k = 18 + 3 * n + 1 then p2 else if k = 18 + 3 * n then p1 else K k
theorem addm_49 {M : Mem} {n : Nat} {p1 p2 p3 : Int32} (k : Nat) : mI (ADDM M n p1 p2 p3) 49 k = KADD (mI M 49) n p1 p2 p3 k := by
  unfold ADDM KADD
  by_cases a : k = 56
  · subst a
    rw [mI_wIs, if_pos rfl]
  · rw [mI_wI_ne a, if_neg a]
    by_cases b : k = 18 + 3 * n + 2
    · subst b
      rw [mI_wIs, if_pos rfl]
    · rw [mI_wI_ne b, if_neg b]
      by_cases c : k = 18 + 3 * n + 1
      · subst c
        rw [mI_wIs, if_pos rfl]
      · rw [mI_wI_ne c, if_neg c]
        by_cases d : k = 18 + 3 * n
        · subst d
          rw [mI_wIs, if_pos rfl]
        · rw [mI_wI_ne d, if_neg d]
theorem KADD_old {K : Nat → Int32} {n : Nat} {p1 p2 p3 : Int32} {k : Nat} (h : k ≠ 56) (h2 : k < 18 + 3 * n ∨ 18 + 3 * n + 2 < k) : KADD K n p1 p2 p3 k = K k := by
  unfold KADD
  rw [if_neg h, if_neg (by omega), if_neg (by omega), if_neg (by omega)]
theorem KADD_56 {K : Nat → Int32} {n : Nat} {p1 p2 p3 : Int32} : KADD K n p1 p2 p3 56 = nI (n + 1) := if_pos rfl
theorem KADD_0 {K : Nat → Int32} {n : Nat} {p1 p2 p3 : Int32} (hn : n < 12) : KADD K n p1 p2 p3 (18 + 3 * n) = p1 := by
  unfold KADD
  rw [if_neg (by omega), if_neg (by omega), if_neg (by omega), if_pos rfl]
theorem KADD_1 {K : Nat → Int32} {n : Nat} {p1 p2 p3 : Int32} (hn : n < 12) : KADD K n p1 p2 p3 (19 + 3 * n) = p2 := by
  unfold KADD
  rw [if_neg (by omega), if_neg (by omega), if_pos (by omega)]
theorem KADD_2 {K : Nat → Int32} {n : Nat} {p1 p2 p3 : Int32} (hn : n < 12) : KADD K n p1 p2 p3 (20 + 3 * n) = p3 := by
  unfold KADD
  rw [if_neg (by omega), if_pos (by omega)]
theorem KOK.add {K : Nat → Int32} (h : KOK K) {n : Nat} (hn : n < 12) (h56 : K 56 = nI n) {p1 : Int32} {y : Nat} {l : List Nat} (hp : p1 = -1 ∨ ∃ m, m < n ∧ p1 = nI m) (hy : y ≤ 999) (hl : DL l) : KOK (KADD K n p1 (nI y) (nI (num l))) := by
  obtain ⟨h1, h2, h3, h4⟩ := h
  refine ⟨fun t ht => ?_, ?_, ?_, ?_⟩
  · rw [KADD_old (by omega) (by omega), KADD_old (by omega) (by omega), KADD_old (by omega) (by omega)]
    exact h1 t ht
  · unfold KTM
    rw [KADD_old (by omega) (by omega), KADD_old (by omega) (by omega)]
    exact h2
  · unfold KLW
    rw [KADD_old (by omega) (by omega), KADD_old (by omega) (by omega)]
    exact h3
  · obtain ⟨n', a, b, c⟩ := h4
    rw [h56] at b
    have hnn := nI_inj (by omega) (by omega) b
    refine ⟨n + 1, by omega, KADD_56, fun g hg => ?_⟩
    by_cases e : g = n
    · subst e
      rw [KADD_0 hn, KADD_1 hn, KADD_2 hn]
      exact ⟨hp, ⟨y, hy, rfl⟩, l, hl, rfl⟩
    · rw [KADD_old (by omega) (by omega), KADD_old (by omega) (by omega), KADD_old (by omega) (by omega)]
      exact c g (by omega)
