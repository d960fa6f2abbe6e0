/-! a Valley takes all from another -/
/-- a Valley and its rows, one behind another -/
def VBL (M : Mem) (v : Nat) : Prop := okO M 10 v ∧ (∀ j, j < 8 → mR M v j = some (v + 1 + j)) ∧ (∀ j, j < 3 → okO M 14 (v + 1 + j) ∧ mL M (v + 1 + j) = 6) ∧ (∀ j, j < 4 → okO M 14 (v + 4 + j) ∧ mL M (v + 4 + j) = 12) ∧ okO M 19 (v + 8) ∧ mL M (v + 8) = 6
theorem LayC.vbl {M : Mem} (hC : LayC M) : VBL M 1 := by
  unfold LayC at hC
  refine ⟨by simp only [hC], fun j hj => ?_, fun j hj => ?_, fun j hj => ?_, by simp only [hC], by simp only [hC]⟩
  · have c : j = 0 ∨ j = 1 ∨ j = 2 ∨ j = 3 ∨ j = 4 ∨ j = 5 ∨ j = 6 ∨ j = 7 := by omega
    rcases c with rfl | rfl | rfl | rfl | rfl | rfl | rfl | rfl <;> simp only [hC]
  · have c : j = 0 ∨ j = 1 ∨ j = 2 := by omega
    rcases c with rfl | rfl | rfl <;> simp only [hC, and_self]
  · have c : j = 0 ∨ j = 1 ∨ j = 2 ∨ j = 3 := by omega
    rcases c with rfl | rfl | rfl | rfl <;> simp only [hC, and_self]
theorem IMV.vbl {M : Mem} {v : Nat} {K : Nat → Int32} (h : IMV M v K) : VBL M v := ⟨h.2.1, h.2.2.1, h.2.2.2.1, h.2.2.2.2.1, h.2.2.2.2.2.1, h.2.2.2.2.2.2.1⟩
theorem cpI_v {M : Mem} {a b n x k : Nat} (hn : n < 2147483648) : mI (cpI M a 0 b 0 (nI n)) x k = if x = b ∧ k < n then mI M a k else mI M x k := by
  rw [cpI_I hn]
  by_cases h : x = b
  · rw [if_pos h]
    by_cases h2 : k < n
    · rw [if_pos h2, if_pos ⟨h, h2⟩]
    · rw [if_neg h2, if_neg (fun q => h2 q.2), h]
  · rw [if_neg h, if_neg (fun q => h q.1)]
theorem cpI_x {M : Mem} {a b : Nat} {sp dp n : Int32} : mR (cpI M a sp b dp n) = mR M ∧ (∀ c x, okO (cpI M a sp b dp n) c x = okO M c x) ∧ mL (cpI M a sp b dp n) = mL M ∧ mn (cpI M a sp b dp n) = mn M ∧ mz (cpI M a sp b dp n) = mz M := ⟨rfl, fun _ _ => rfl, rfl, rfl, rfl⟩
theorem cpR_x {M : Mem} {a b : Nat} {sp dp n : Int32} : mI (cpR M a sp b dp n) = mI M ∧ (∀ c x, okO (cpR M a sp b dp n) c x = okO M c x) ∧ mL (cpR M a sp b dp n) = mL M ∧ mn (cpR M a sp b dp n) = mn M ∧ mz (cpR M a sp b dp n) = mz M ∧ mJ (cpR M a sp b dp n) = mJ M := ⟨rfl, fun _ _ => rfl, rfl, rfl, rfl, rfl⟩
theorem cpR_v {M : Mem} {a b n x k : Nat} (hn : n < 2147483648) : mR (cpR M a 0 b 0 (nI n)) x k = if x = b ∧ k < n then mR M a k else mR M x k := by
  show va_up (mR M) b (va_cpy (mR M a) (mR M b) (0 : Int32).toNatClampNeg (0 : Int32).toNatClampNeg (nI n).toNatClampNeg) x k = _
  have c0 : (0 : Int32).toNatClampNeg = 0 := by decide
  rw [vu, c0, nclampI hn]
  by_cases h : x = b
  · rw [if_pos h]
    unfold va_cpy
    by_cases h2 : k < n
    · rw [if_pos (by omega), if_pos ⟨h, h2⟩]
      congr 1
      omega
    · rw [if_neg (by omega), if_neg (fun q => h2 q.2), h]
  · rw [if_neg h, if_neg (fun q => h q.1)]
noncomputable def TK7 (M : Mem) (v w : Nat) : Mem := cpI (cpI (cpI (cpI (cpI (cpI (cpI M (w + 1) 0 (v + 1) 0 6) (w + 2) 0 (v + 2) 0 6) (w + 3) 0 (v + 3) 0 6) (w + 4) 0 (v + 4) 0 12) (w + 5) 0 (v + 5) 0 12) (w + 6) 0 (v + 6) 0 12) (w + 7) 0 (v + 7) 0 12
theorem TK7_x {M : Mem} {v w : Nat} : mR (TK7 M v w) = mR M ∧ (∀ c x, okO (TK7 M v w) c x = okO M c x) ∧ mL (TK7 M v w) = mL M ∧ mn (TK7 M v w) = mn M ∧ mz (TK7 M v w) = mz M ∧ mK (TK7 M v w) = mK M ∧ mJ (TK7 M v w) = mJ M := by
  unfold TK7
  exact ⟨rfl, fun _ _ => rfl, rfl, rfl, rfl, rfl, rfl⟩
theorem TK7_v {M : Mem} {v w : Nat} (hd : v + 8 < w ∨ w + 8 < v) : (∀ j k, 1 ≤ j → j ≤ 3 → k < 6 → mI (TK7 M v w) (v + j) k = mI M (w + j) k) ∧ (∀ j k, 4 ≤ j → j ≤ 7 → k < 12 → mI (TK7 M v w) (v + j) k = mI M (w + j) k) ∧ ∀ a k, ¬ (v + 1 ≤ a ∧ a ≤ v + 7) → mI (TK7 M v w) a k = mI M a k := by
  unfold TK7
  rw [show (6 : Int32) = nI 6 from rfl, show (12 : Int32) = nI 12 from rfl]
  have h6 : 6 < 2147483648 := by omega
  have h12 : 12 < 2147483648 := by omega
  refine ⟨fun j k h1 h2 h3 => ?_, fun j k h1 h2 h3 => ?_, fun a k h => ?_⟩
  · have c : j = 1 ∨ j = 2 ∨ j = 3 := by omega
    simp only [cpI_v h6, cpI_v h12]
    rcases c with rfl | rfl | rfl
    · rw [if_neg (by omega), if_neg (by omega), if_neg (by omega), if_neg (by omega), if_neg (by omega), if_neg (by omega), if_pos (by omega)]
    · rw [if_neg (by omega), if_neg (by omega), if_neg (by omega), if_neg (by omega), if_neg (by omega), if_pos (by omega), if_neg (by omega)]
    · rw [if_neg (by omega), if_neg (by omega), if_neg (by omega), if_neg (by omega), if_pos (by omega), if_neg (by omega), if_neg (by omega)]
  · have c : j = 4 ∨ j = 5 ∨ j = 6 ∨ j = 7 := by omega
    simp only [cpI_v h6, cpI_v h12]
    rcases c with rfl | rfl | rfl | rfl
    · rw [if_neg (by omega), if_neg (by omega), if_neg (by omega), if_pos (by omega), if_neg (by omega), if_neg (by omega), if_neg (by omega)]
    · rw [if_neg (by omega), if_neg (by omega), if_pos (by omega), if_neg (by omega), if_neg (by omega), if_neg (by omega), if_neg (by omega)]
    · rw [if_neg (by omega), if_pos (by omega), if_neg (by omega), if_neg (by omega), if_neg (by omega), if_neg (by omega), if_neg (by omega)]
    · rw [if_pos (by omega), if_neg (by omega), if_neg (by omega), if_neg (by omega), if_neg (by omega), if_neg (by omega), if_neg (by omega)]
  · simp only [cpI_v h6, cpI_v h12]
    rw [if_neg (by omega), if_neg (by omega), if_neg (by omega), if_neg (by omega), if_neg (by omega), if_neg (by omega), if_neg (by omega)]
noncomputable def TKM (M : Mem) (v w : Nat) : Mem := wI (wI (wI (wI (wI (cpR (TK7 M v w) (w + 8) 0 (v + 8) 0 6) v 8 (mI M w 8)) v 9 (mI M w 9)) v 10 (mI M w 10)) v 11 (mI M w 11)) v 12 (mI M w 12)
noncomputable def TKZ (M : Mem) (v w : Nat) : Mem := wI (wI (TKM M v w) v 13 (mI M v 13 + 1)) v 14 (mI M v 14 + 1)
theorem mR_cpI {M : Mem} {a b : Nat} {sp dp n : Int32} : mR (cpI M a sp b dp n) = mR M := by
  have h : mR (cpI M a sp b dp n) = mR M := rfl
  exact id h
theorem ok_cpI {M : Mem} {a b c x : Nat} {sp dp n : Int32} : okO (cpI M a sp b dp n) c x = okO M c x := by
  have h : okO (cpI M a sp b dp n) c x = okO M c x := rfl
  exact id h
theorem mL_cpI {M : Mem} {a b : Nat} {sp dp n : Int32} : mL (cpI M a sp b dp n) = mL M := by
  have h : mL (cpI M a sp b dp n) = mL M := rfl
  exact id h
theorem ok_cpR {M : Mem} {a b c x : Nat} {sp dp n : Int32} : okO (cpR M a sp b dp n) c x = okO M c x := by
  have h : okO (cpR M a sp b dp n) c x = okO M c x := rfl
  exact id h
theorem mI_cpR {M : Mem} {a b : Nat} {sp dp n : Int32} : mI (cpR M a sp b dp n) = mI M := by
  have h : mI (cpR M a sp b dp n) = mI M := rfl
  exact id h
theorem ok_wIq {M : Mem} {a k c x : Nat} {v : Int32} : okO (wI M a k v) c x = okO M c x := by
  have h : okO (wI M a k v) c x = okO M c x := rfl
  exact id h
theorem touch_eq {M : Mem} {v : Nat} (ho : okO M 10 v) : f_X10_touchRules M v = some (wI (wI M v 13 (mI M v 13 + 1)) v 14 (mI M v 14 + 1)) := by
  unfold f_X10_touchRules
  rw [grd_y ho]
  simp only [bv]
  rw [mI_wI_ne (by decide)]
theorem ok_TKM {M : Mem} {v w c x : Nat} : okO (TKM M v w) c x = okO M c x := by
  unfold TKM
  rw [ok_wIq, ok_wIq, ok_wIq, ok_wIq, ok_wIq, ok_cpR, TK7_x.2.1]
theorem e13_TKM {M : Mem} {v w : Nat} (hd : v + 8 < w ∨ w + 8 < v) {k : Nat} (hk : 13 ≤ k) : mI (TKM M v w) v k = mI M v k := by
  unfold TKM
  rw [mI_wI_ne (by omega), mI_wI_ne (by omega), mI_wI_ne (by omega), mI_wI_ne (by omega), mI_wI_ne (by omega), mI_cpR, (TK7_v (M := M) hd).2.2 v k (by omega)]
theorem tk_end {M : Mem} {v w : Nat} (hd : v + 8 < w ∨ w + 8 < v) (ho : okO M 10 v) : Option.bind (f_X10_touchRules (TKM M v w) v) (fun q117 => some q117) = some (TKZ M v w) := by
  rw [touch_eq (by rw [ok_TKM]; exact ho), Option.bind_some, e13_TKM hd (by omega), e13_TKM hd (by omega)]
  unfold TKZ
  rfl
theorem c_takeFrom {M : Mem} {v w : Nat} (hv : VBL M v) (hw : VBL M w) (hd : v + 8 < w ∨ w + 8 < v) (hl : ∀ g y, g < 6 → mR M (w + 8) g = some y → okO M 9 y) : f_X10_takeFrom M v w = some (TKZ M v w) := by
  obtain ⟨a1, a2, a3, a4, a5, a6⟩ := hv
  obtain ⟨b1', b2, b3, b4, b5, b6⟩ := hw
  have r0 : mR M v 0 = some (v + 1) := a2 0 (by omega)
  have r1 : mR M v 1 = some (v + 2) := a2 1 (by omega)
  have r2 : mR M v 2 = some (v + 3) := a2 2 (by omega)
  have r3 : mR M v 3 = some (v + 4) := a2 3 (by omega)
  have r4 : mR M v 4 = some (v + 5) := a2 4 (by omega)
  have r5 : mR M v 5 = some (v + 6) := a2 5 (by omega)
  have r6 : mR M v 6 = some (v + 7) := a2 6 (by omega)
  have r7 : mR M v 7 = some (v + 8) := a2 7 (by omega)
  have s0 : mR M w 0 = some (w + 1) := b2 0 (by omega)
  have s1 : mR M w 1 = some (w + 2) := b2 1 (by omega)
  have s2 : mR M w 2 = some (w + 3) := b2 2 (by omega)
  have s3 : mR M w 3 = some (w + 4) := b2 3 (by omega)
  have s4 : mR M w 4 = some (w + 5) := b2 4 (by omega)
  have s5 : mR M w 5 = some (w + 6) := b2 5 (by omega)
  have s6 : mR M w 6 = some (w + 7) := b2 6 (by omega)
  have s7 : mR M w 7 = some (w + 8) := b2 7 (by omega)
  have o1 : okO M 14 (v + 1) := (a3 0 (by omega)).1
  have o2 : okO M 14 (v + 2) := (a3 1 (by omega)).1
  have o3 : okO M 14 (v + 3) := (a3 2 (by omega)).1
  have o4 : okO M 14 (v + 4) := (a4 0 (by omega)).1
  have o5 : okO M 14 (v + 5) := (a4 1 (by omega)).1
  have o6 : okO M 14 (v + 6) := (a4 2 (by omega)).1
  have o7 : okO M 14 (v + 7) := (a4 3 (by omega)).1
  have q1 : okO M 14 (w + 1) := (b3 0 (by omega)).1
  have q2 : okO M 14 (w + 2) := (b3 1 (by omega)).1
  have q3 : okO M 14 (w + 3) := (b3 2 (by omega)).1
  have q4 : okO M 14 (w + 4) := (b4 0 (by omega)).1
  have q5 : okO M 14 (w + 5) := (b4 1 (by omega)).1
  have q6 : okO M 14 (w + 6) := (b4 2 (by omega)).1
  have q7 : okO M 14 (w + 7) := (b4 3 (by omega)).1
  have l1 : mL M (v + 1) = 6 := (a3 0 (by omega)).2
  have l2 : mL M (v + 2) = 6 := (a3 1 (by omega)).2
  have l3 : mL M (v + 3) = 6 := (a3 2 (by omega)).2
  have l4 : mL M (v + 4) = 12 := (a4 0 (by omega)).2
  have l5 : mL M (v + 5) = 12 := (a4 1 (by omega)).2
  have l6 : mL M (v + 6) = 12 := (a4 2 (by omega)).2
  have l7 : mL M (v + 7) = 12 := (a4 3 (by omega)).2
  have m1 : mL M (w + 1) = 6 := (b3 0 (by omega)).2
  have m2 : mL M (w + 2) = 6 := (b3 1 (by omega)).2
  have m3 : mL M (w + 3) = 6 := (b3 2 (by omega)).2
  have m4 : mL M (w + 4) = 12 := (b4 0 (by omega)).2
  have m5 : mL M (w + 5) = 12 := (b4 1 (by omega)).2
  have m6 : mL M (w + 6) = 12 := (b4 2 (by omega)).2
  have m7 : mL M (w + 7) = 12 := (b4 3 (by omega)).2
  have g6 : cpok 0 6 6 := cpok_n (n := 6) (len := 6) (by omega) (by omega)
  have g12 : cpok 0 12 12 := cpok_n (n := 12) (len := 12) (by omega) (by omega)
  have eT : (cpI (cpI (cpI (cpI (cpI (cpI (cpI M (w + 1) 0 (v + 1) 0 6) (w + 2) 0 (v + 2) 0 6) (w + 3) 0 (v + 3) 0 6) (w + 4) 0 (v + 4) 0 12) (w + 5) 0 (v + 5) 0 12) (w + 6) 0 (v + 6) 0 12) (w + 7) 0 (v + 7) 0 12) = TK7 M v w := rfl
  unfold f_X10_takeFrom
  simp only [bv, mR_cpI, ok_cpI, mL_cpI, ok_cpR, ok_wIq, eq_true a1, eq_true b1', r0, r1, r2, r3, r4, r5, r6, r7, s0, s1, s2, s3, s4, s5, s6, s7, eq_true o1, eq_true o2, eq_true o3, eq_true o4, eq_true o5, eq_true o6, eq_true o7, eq_true q1, eq_true q2, eq_true q3, eq_true q4, eq_true q5, eq_true q6, eq_true q7, l1, l2, l3, l4, l5, l6, l7, m1, m2, m3, m4, m5, m6, m7, eq_true g6, eq_true g12, eq_true a5, eq_true b5, a6, b6, grd_T, Option.bind_some, eT]
  rw [grd_y (fun i hi y e => hl i y (by have c6 : (6 : Int32).toNatClampNeg = 6 := by decide
                                        omega) (by have c0 : (0 : Int32).toNatClampNeg = 0 := by decide
                                                   rw [c0, Nat.zero_add] at e
                                                   exact e))]
  obtain ⟨t1, t2, t3⟩ := TK7_v (M := M) hd
  have kw : ∀ k, mI (TK7 M v w) w k = mI M w k := fun k => t3 w k (by omega)
  have hvw : w ≠ v := by omega
  simp only [mI_cpR, mI_wI_row hvw, kw]
  have eM : wI (wI (wI (wI (wI (cpR (TK7 M v w) (w + 8) 0 (v + 8) 0 6) v 8 (mI M w 8)) v 9 (mI M w 9)) v 10 (mI M w 10)) v 11 (mI M w 11)) v 12 (mI M w 12) = TKM M v w := by
    unfold TKM
    rfl
  rw [eM]
  exact tk_end hd a1
