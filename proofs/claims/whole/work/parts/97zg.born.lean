/-! born() on both sides -/
theorem REL.st {M : Mem} (h : REL M) : ∃ A y, CST M A y ∧ KST (mI M 49) A y := by
  obtain ⟨n, mo, yr, di, v1, v2, v3, v4⟩ := h.hsv
  obtain ⟨y, hy, h54⟩ := h.2.2.1.2.1.1
  have len : ((List.range n).map (fun g => (mo g, yr g, di g))).length = n := by rw [List.length_map, List.length_range]
  have at' : ∀ g e, ((List.range n).map (fun g => (mo g, yr g, di g)))[g]? = some e → g < n ∧ e = (mo g, yr g, di g) := by
    intro g e he
    obtain ⟨hg, q⟩ := List.getElem?_eq_some_iff.mp he
    rw [len] at hg
    refine ⟨hg, ?_⟩
    rw [← q, List.getElem_map, List.getElem_range]
  refine ⟨(List.range n).map (fun g => (mo g, yr g, di g)), y, ⟨by rw [len]; exact v1, by rw [len]; exact v3, by rw [h.2.2.2.1.2.1.2.2.2.1]; exact h54, hy, fun g e he => ?_⟩, ⟨by rw [len]; exact v1, by rw [len]; exact v2, h54, hy, fun g e he => ?_⟩⟩
  · obtain ⟨hg, rfl⟩ := at' g e he
    obtain ⟨g1, g2, g3, g4, g5, g6, g7, g8, g9, g10⟩ := v4 g hg
    exact ⟨g1, g2, g3, g7, g8, g9, g10⟩
  · obtain ⟨hg, rfl⟩ := at' g e he
    obtain ⟨g1, g2, g3, g4, g5, g6, g7, g8, g9, g10⟩ := v4 g hg
    exact ⟨g1, g2, g3, g4, g5, g6⟩
/-- the state of class and reference is the same again -/
theorem REL.mk {M : Mem} (h : RUL M) {A : List (Option Nat × Nat × List Nat)} {y : Nat} (hc : CST M A y) (hk : KST (mI M 49) A y) (hm : ∃ m, m ≤ 9 ∧ mI M 49 55 = nI m) (hO : OUTS M) : REL M := by
  obtain ⟨hC, hM, kt, kl, vt, o9, o10, o12, h78, hL⟩ := h
  obtain ⟨c1, c2, c3, c4, c5⟩ := hc
  obtain ⟨k1, k2, k3, k4, k5⟩ := hk
  refine ⟨hC, hM, ⟨kt, ⟨⟨y, k4, k3⟩, hm⟩, kl, A.length, k1, k2, fun g hg => ?_⟩, ⟨vt, ⟨by rw [c2, k2], o9, o10, by rw [c3, k3], o12⟩, fun n g hn h56 hg => ?_⟩, hO⟩
  · obtain ⟨d1, d2, d3, d4, d5, d6⟩ := k5 g _ (List.getElem?_eq_getElem hg)
    refine ⟨?_, ⟨_, d2, d5⟩, _, d3, d6⟩
    rw [d4]
    cases he : A[g].1 with
    | none => exact Or.inl rfl
    | some m => exact Or.inr ⟨m, d1 m he, rfl⟩
  · have hnn : A.length = n := (neqI (by omega) (by omega)).mp (k2.symm.trans h56)
    have hg' : g < A.length := by omega
    obtain ⟨d1, d2, d3, d4, d5, d6⟩ := k5 g _ (List.getElem?_eq_getElem hg')
    obtain ⟨e1, e2, e3, e4, e5, e6, e7⟩ := c5 g _ (List.getElem?_eq_getElem hg')
    refine ⟨by rw [e4, d4], by rw [e5, d5], fun l hl hq => ?_⟩
    have hll := (num_inj d3 hl).mp (d6.symm.trans hq)
    rw [← hll]
    exact ⟨e6, e7⟩
theorem CST.add {M : Mem} {A : List (Option Nat × Nat × List Nat)} {y : Nat} (h : CST M A y) {g : Nat} (hg : g < A.length) (h12 : A.length < 12) {l : List Nat} (hl : DL l) : CST (ADDC M A.length (nI g) (nI y) (nI (rank l)) (nI (tst l))) (A ++ [(some g, y, l)]) y := by
  obtain ⟨a1, a2, a3, a4, a5⟩ := h
  have e8 : mI (ADDC M A.length (nI g) (nI y) (nI (rank l)) (nI (tst l))) 1 8 = nI (A.length + 1) := mI_wIs
  have e11 : mI (ADDC M A.length (nI g) (nI y) (nI (rank l)) (nI (tst l))) 1 11 = mI M 1 11 := by
    unfold ADDC
    rw [mI_wI_ne (by decide), mI_wI_ne (by decide), mI_wI_row (by decide), mI_wI_row (by decide), mI_wI_row (by decide), mI_wI_row (by decide)]
  have e5 : ∀ k, mI (ADDC M A.length (nI g) (nI y) (nI (rank l)) (nI (tst l))) 5 k = if k = A.length then nI g else mI M 5 k := fun k => by
    unfold ADDC
    rw [mI_wI_row (by decide), mI_wI_row (by decide), mI_wI_row (by decide), mI_wI_row (by decide), mI_wI_row (by decide)]
    by_cases q : k = A.length
    · rw [q, mI_wIs, if_pos rfl]
    · rw [mI_wI_ne q, if_neg q]
  have e6 : ∀ k, mI (ADDC M A.length (nI g) (nI y) (nI (rank l)) (nI (tst l))) 6 k = if k = A.length then nI y else mI M 6 k := fun k => by
    unfold ADDC
    rw [mI_wI_row (by decide), mI_wI_row (by decide), mI_wI_row (by decide), mI_wI_row (by decide)]
    by_cases q : k = A.length
    · rw [q, mI_wIs, if_pos rfl]
    · rw [mI_wI_ne q, if_neg q, mI_wI_row (by decide)]
  have e7 : ∀ k, mI (ADDC M A.length (nI g) (nI y) (nI (rank l)) (nI (tst l))) 7 k = if k = A.length then nI (rank l) else mI M 7 k := fun k => by
    unfold ADDC
    rw [mI_wI_row (by decide), mI_wI_row (by decide), mI_wI_row (by decide)]
    by_cases q : k = A.length
    · rw [q, mI_wIs, if_pos rfl]
    · rw [mI_wI_ne q, if_neg q, mI_wI_row (by decide), mI_wI_row (by decide)]
  have e8r : ∀ k, mI (ADDC M A.length (nI g) (nI y) (nI (rank l)) (nI (tst l))) 8 k = if k = A.length then nI (tst l) else mI M 8 k := fun k => by
    unfold ADDC
    rw [mI_wI_row (by decide), mI_wI_row (by decide)]
    by_cases q : k = A.length
    · rw [q, mI_wIs, if_pos rfl]
    · rw [mI_wI_ne q, if_neg q, mI_wI_row (by decide), mI_wI_row (by decide), mI_wI_row (by decide)]
  generalize ADDC M A.length (nI g) (nI y) (nI (rank l)) (nI (tst l)) = M1 at *
  refine ⟨by rw [List.length_append, List.length_singleton]; omega, by rw [List.length_append, List.length_singleton]; exact e8, e11.trans a3, a4, fun k e he => ?_⟩
  rw [e5, e6, e7, e8r]
  by_cases q : k = A.length
  · rw [List.getElem?_append_right (by omega), q, Nat.sub_self] at he
    cases he
    rw [if_pos q, if_pos q, if_pos q, if_pos q]
    exact ⟨fun m hm => by cases hm; omega, a4, hl, rfl, rfl, rfl, rfl⟩
  · rw [if_neg q, if_neg q, if_neg q, if_neg q]
    by_cases q2 : k < A.length
    · rw [List.getElem?_append_left q2] at he
      exact a5 k e he
    · rw [List.getElem?_eq_none (by rw [List.length_append, List.length_singleton]; omega)] at he
      cases he
theorem KST.add {K : Nat → Int32} {A : List (Option Nat × Nat × List Nat)} {y : Nat} (h : KST K A y) {g : Nat} (hg : g < A.length) (h12 : A.length < 12) {l : List Nat} (hl : DL l) : KST (KADD K A.length (nI g) (nI y) (nI (num l))) (A ++ [(some g, y, l)]) y := by
  obtain ⟨a1, a2, a3, a4, a5⟩ := h
  refine ⟨by rw [List.length_append, List.length_singleton]; omega, by rw [List.length_append, List.length_singleton]; exact KADD_56, by rw [KADD_old (by omega) (by omega)]; exact a3, a4, fun k e he => ?_⟩
  by_cases q : k = A.length
  · rw [List.getElem?_append_right (by omega), q, Nat.sub_self] at he
    cases he
    subst q
    rw [KADD_0 h12, KADD_1 h12, KADD_2 h12]
    exact ⟨fun m hm => by cases hm; omega, a4, hl, rfl, rfl, rfl⟩
  · by_cases q2 : k < A.length
    · rw [List.getElem?_append_left q2] at he
      rw [KADD_old (by omega) (by omega), KADD_old (by omega) (by omega), KADD_old (by omega) (by omega)]
      exact a5 k e he
    · rw [List.getElem?_eq_none (by rw [List.length_append, List.length_singleton]; omega)] at he
      cases he
theorem c_settle_r {M : Mem} (hC : LayC M) {r : Nat} (hr : RN r) : f_X11_settle M 0 (-(nI r)) = some (RFC M r, -(nI r)) := by
  have e := c_refuse hC hr
  have hneg : -(nI r) < 0 := by
    rcases hr with h | h | h | h | h <;> subst h <;> decide
  unfold LayC at hC
  unfold f_X11_settle
  simp only [hC, grd_T]
  first
    | rw [if_neg (show ¬ 0 ≤ -(nI r) from fun q => absurd hneg (Int32.not_lt.mpr q)), e, Option.bind_some]
    | rw [if_pos hneg, e, Option.bind_some]
theorem RUL.k {S R : Nat → Nat → Prop} {M M1 : Mem} (h : RUL M) (hF : Fw S R M M1) (hs : ∀ a k, S a k → ¬ (a = 1 ∧ (k = 9 ∨ k = 10 ∨ k = 12)) ∧ ¬ (2 ≤ a ∧ a ≤ 4) ∧ ¬ HT M a) (hr : ∀ a k, R a k → oldR a k = false ∧ a ≠ 9 ∧ (78 ≤ a → mK M a ≠ 9)) (hk : ∀ k, (k < 18 ∨ k = 55 ∨ (57 ≤ k ∧ k < 65) ∨ (66 ≤ k ∧ k < 2466) ∨ (2866 ≤ k ∧ k < 5266)) → mI M1 49 k = mI M 49 k) : RUL M1 := by
  obtain ⟨hC, hM, kt, ⟨lc, kl1, kl2, kl3⟩, vt, o9, o10, o12, h78, hL⟩ := h
  have e : ∀ a k, a < 78 → (a = 1 ∧ (k = 9 ∨ k = 10 ∨ k = 12)) ∨ (2 ≤ a ∧ a ≤ 4) → mI M1 a k = mI M a k := fun a k w1 w2 => hF.i (by omega) (fun q => by have := hs _ _ q; omega)
  have hR : ∀ a k, oldR a k = true → ¬ R a k := fun a k w q => by rw [(hr _ _ q).1] at w; cases w
  refine ⟨hC.fw h78 hF hR, hM.fw h78 hF hR, fun t ht => ?_, ⟨lc, kl1, by rw [hk 57 (by omega)]; exact kl2, by rw [hk 58 (by omega)]; exact kl3⟩, fun t ht => ?_, ?_, ?_, ?_, by have := hF.1; omega, hL.fw (by omega) hF (fun a k q => (hs a k q).2.2) (fun a k q => (hr a k q).2) (fun k w1 w2 w3 w4 w5 => hk k (by omega))⟩
  · rw [hk t (by omega), hk (6 + t) (by omega), hk (12 + t) (by omega)]
    exact kt t ht
  · rw [hk t (by omega), hk (6 + t) (by omega), hk (12 + t) (by omega), e 2 t (by decide) (by omega), e 3 t (by decide) (by omega), e 4 t (by decide) (by omega)]
    exact vt t ht
  · rw [hk 57 (by omega), e 1 9 (by decide) (by omega)]
    exact o9
  · rw [hk 58 (by omega), e 1 10 (by decide) (by omega)]
    exact o10
  · rw [hk 55 (by omega), e 1 12 (by decide) (by omega)]
    exact o12
theorem INV0.stepS {c : Nat} {M M2 : Mem} {S R : Nat → Nat → Prop} (h : INV0 c M) (hR2 : REL M2) (hq : QST M M2) (hF : Fw S R M M2) (hn : mn M2 ≤ mn M + 12) (hs : ∀ a k, S a k → a ≠ 50 ∧ a ≠ 51 ∧ a ≠ 55 ∧ ¬ HT M a) (hr : ∀ a k, R a k → a ≠ 10 ∧ ¬ HT M a) (hT : ∃ n bt, TAPE M2 n bt) (hP : SMP M2) (hL : LWS M2 9 (mI M2 49)) (hS : SCI (300 * (c + 1)) M2) : INV0 (c + 1) M2 := by
  obtain ⟨i1, i2, i3, i4, i5, i6, i7, i8⟩ := h
  have h78 := i2.1
  refine ⟨hR2, i2.q hq hF.1 hn, hT, fun i hi => ?_, i5.fw h78 hF (fun a k w => ⟨(hs a k w).1, (hs a k w).2.1, (hs a k w).2.2.2⟩) hr, hP, hL, hS⟩
  rw [hF.i (by omega) (fun q => (hs _ _ q).2.2.1 rfl)]
  exact i4 i hi
/-- what born() writes -/
def Sbn (a k : Nat) : Prop := Slk a k ∨ (a = 0 ∧ k = 12) ∨ (a = 1 ∧ (k = 8 ∨ k = 14)) ∨ (5 ≤ a ∧ a ≤ 8) ∨ a = 45 ∨ (a = 47 ∧ k ≤ 1) ∨ a = 48 ∨ (a = 49 ∧ k < 57 ∧ k ≠ 55)
theorem sbn_x : ∀ a k, Sbn a k → a < 78 ∧ ¬ (9 ≤ a ∧ a ≤ 20) ∧ ¬ (a = 1 ∧ (k = 9 ∨ k = 10 ∨ k = 12 ∨ k = 13)) ∧ ¬ (2 ≤ a ∧ a ≤ 4) ∧ ¬ (32 ≤ a ∧ a ≤ 44) ∧ a ≠ 46 ∧ a ≠ 50 ∧ a ≠ 51 ∧ ¬ (55 ≤ a ∧ a ≤ 60) ∧ a ≠ 77 ∧ ¬ (a = 0 ∧ k ≠ 12) ∧ ¬ (a = 47 ∧ (k = 12 ∨ k = 17 ∨ k = 18 ∨ k = 34 ∨ k = 46 ∨ k = 57)) ∧ a ≠ 63 ∧ a ≠ 64 := fun a k w => by
  rcases w with w | w | w | w | w | w | w | w
  · rcases w with w | w | w | w | w | w | w | w <;> omega
  all_goals omega
theorem INV0.born {c : Nat} {M M2 : Mem} (h : INV0 c M) (hF : Fw Sbn Rop M M2) (hn : mn M2 = mn M) (hz : mz M2 = mz M) (hR2 : REL M2) (hq : QST M M2) (hS : SCI (300 * (c + 1)) M2) : INV0 (c + 1) M2 ∧ QF M M2 := by
  obtain ⟨i1, i2, ⟨n, bt, t1, t2, t3, t4⟩, i4, i5, ⟨p1, p2, p3, k, p4, p5, p6, p7⟩, i7, i8⟩ := id h
  have h78 := i2.1
  have e : ∀ a k, a < 78 → ¬ Sbn a k → mI M2 a k = mI M a k := fun a k w1 w2 => hF.i (by omega) w2
  have ex : ∀ a k, a < 78 → (9 ≤ a ∧ a ≤ 20) ∨ a = 46 ∨ (55 ≤ a ∧ a ≤ 60) ∨ a = 77 ∨ (a = 0 ∧ k ≠ 12) ∨ (a = 47 ∧ (k = 12 ∨ k = 17 ∨ k = 18 ∨ k = 46 ∨ k = 57)) → mI M2 a k = mI M a k := fun a k w1 w2 => e a k w1 (fun q => by have := sbn_x a k q; omega)
  have hht : ∀ a k, Sbn a k → ¬ HT M a := fun a k w q => by have := q.1; have := sbn_x a k w; omega
  have k49 : ∀ k, 57 ≤ k ∨ k = 55 → mI M2 49 k = mI M 49 k := fun k w => e 49 k (by decide) (by unfold Sbn Slk; omega)
  refine ⟨h.stepS hR2 hq hF (by omega) (fun a k w => ⟨by have := sbn_x a k w; omega, by have := sbn_x a k w; omega, by have := sbn_x a k w; omega, hht a k w⟩) (fun a k w => ⟨by unfold Rop at w; omega, fun q => by have := q.1; unfold Rop at w; omega⟩) ⟨n, bt, t1, by rw [ex 11 4 (by decide) (by omega)]; exact t2, by rw [ex 47 17 (by decide) (by omega)]; exact t3, fun i hi => by rw [ex 12 i (by decide) (by omega), ex 56 i (by decide) (by omega)]; exact t4 i hi⟩ ⟨by rw [ex 0 13 (by decide) (by omega), ex 47 12 (by decide) (by omega)]; exact p1, by rw [ex 0 14 (by decide) (by omega), ex 47 18 (by decide) (by omega)]; exact p2, by rw [ex 0 15 (by decide) (by omega), ex 47 46 (by decide) (by omega)]; exact p3, k, p4, by rw [ex 0 11 (by decide) (by omega)]; exact p5, by rw [ex 47 57 (by decide) (by omega)]; exact p6, fun i hi => by rw [ex 46 i (by decide) (by omega), ex 77 i (by decide) (by omega)]; exact p7 i hi⟩ (i7.fw (by omega) hF hht (fun a k w => ⟨(rop_old a k w).2.1, fun q => by unfold Rop at w; omega⟩) (fun k w1 _ _ _ _ => k49 k (by omega))) hS, hF.up (fun a k w => Or.inl (by have := sbn_x a k w; omega)) (fun a k w => Or.inr (Or.inr (Or.inl w))), by omega, by omega, hq⟩
def Sb1 (a k : Nat) : Prop := (a = 1 ∧ (k = 8 ∨ k = 14)) ∨ (5 ≤ a ∧ a ≤ 8) ∨ (a = 0 ∧ k = 12)
def Sb4 (a k : Nat) : Prop := Srv a k ∨ (a = 47 ∧ k ≤ 1) ∨ (a = 49 ∧ ((18 ≤ k ∧ k < 54) ∨ k = 56))
theorem addc_fr {M : Mem} {n : Nat} {p1 p2 p3 p4 : Int32} : Fr Sb1 M (wI (ADDC M n p1 p2 p3 p4) 0 12 0) := by
  unfold ADDC
  exact ((((((Fr.rf.wI (show Sb1 5 n by unfold Sb1; omega)).wI (show Sb1 6 n by unfold Sb1; omega)).wI (show Sb1 7 n by unfold Sb1; omega)).wI (show Sb1 8 n by unfold Sb1; omega)).wI (show Sb1 1 14 by unfold Sb1; omega)).wI (show Sb1 1 8 by unfold Sb1; omega)).wI (show Sb1 0 12 by unfold Sb1; omega)
theorem addm_fr {M M3 : Mem} {n : Nat} (hn : n < 12) {p1 p2 p3 v : Int32} (h : Fr Srv M M3) : Fr Sb4 M (wI (wI (ADDM M3 n p1 p2 p3) 47 0 0) 47 1 v) := by
  have h0 : Fr Sb4 M M3 := h.up (fun a k w => Or.inl w)
  unfold ADDM
  exact (((((h0.wI (show Sb4 49 (18 + 3 * n) by unfold Sb4; omega)).wI (show Sb4 49 (18 + 3 * n + 1) by unfold Sb4; omega)).wI (show Sb4 49 (18 + 3 * n + 2) by unfold Sb4; omega)).wI (show Sb4 49 56 by unfold Sb4; omega)).wI (show Sb4 47 0 by unfold Sb4; omega)).wI (show Sb4 47 1 by unfold Sb4; omega)
theorem Sb1_bn : ∀ a k, Sb1 a k → Sbn a k := fun a k w => by
  rcases w with w | w | w
  · exact Or.inr (Or.inr (Or.inl w))
  · exact Or.inr (Or.inr (Or.inr (Or.inl w)))
  · exact Or.inr (Or.inl w)
theorem Srv_lk : ∀ a k, Srv a k → Slk a k := fun a k w => by
  rcases w with w | w | w | w | w | w
  · exact Or.inr (Or.inr (Or.inl w))
  · exact Or.inr (Or.inr (Or.inr (Or.inl w)))
  · exact Or.inr (Or.inr (Or.inr (Or.inr (Or.inl w))))
  · exact Or.inr (Or.inr (Or.inr (Or.inr (Or.inr (Or.inl w)))))
  · exact Or.inr (Or.inr (Or.inr (Or.inr (Or.inr (Or.inr (Or.inl w))))))
  · exact Or.inr (Or.inr (Or.inr (Or.inr (Or.inr (Or.inr (Or.inr w))))))
theorem Sb4_bn : ∀ a k, Sb4 a k → Sbn a k := fun a k w => by
  rcases w with w | w | ⟨w1, w2⟩
  · exact Or.inl (Srv_lk a k w)
  · exact Or.inr (Or.inr (Or.inr (Or.inr (Or.inr (Or.inl w)))))
  · exact Or.inr (Or.inr (Or.inr (Or.inr (Or.inr (Or.inr (Or.inr ⟨w1, by omega, by omega⟩))))))
theorem Sb1_x : ∀ a k, Sb1 a k → a < 78 ∧ ¬ Frr a k ∧ a ≠ 21 ∧ a ≠ 25 ∧ a ≠ 45 ∧ a ≠ 48 ∧ a ≠ 49 ∧ a ≠ 47 ∧ ¬ (a = 1 ∧ k = 13) := fun a k w => by
  unfold Sb1 at w
  unfold Frr
  omega
theorem Sb4_x : ∀ a k, Sb4 a k → 47 ≤ a ∧ a < 78 ∧ a ≠ 48 ∧ ¬ (a = 49 ∧ (k < 18 ∨ k = 54 ∨ k = 55 ∨ 57 ≤ k)) := fun a k w => by
  unfold Sb4 Srv at w
  omega
/-- the second half of a birth: the reference is born, too -/
theorem born_y {c : Nat} (hc : c < 600) {M M' M2 Mz : Mem} (h : INV0 c M) {A : List (Option Nat × Nat × List Nat)} {y g : Nat} {l : List Nat} (hks : KST (mI M 49) A y) (hcs : CST M A y) (hg : g < A.length) (h12 : A.length < 12) (hl : DL l) (hI : CGI M (300 * c + 1) M') (hF1 : Fr Sb1 M' M2) (cs1 : CST M2 (A ++ [(some g, y, l)]) y) (e14 : mI M2 1 14 = mI M' 1 14 + 1) (e12 : mI M2 0 12 = 0) (hF4 : Fr Sb4 M2 Mz) (v49 : mI Mz 49 = KADD (mI M 49) A.length (nI g) (nI y) (nI (num l))) (v0 : mI Mz 47 0 = 0) (v1 : mI Mz 47 1 = mI M2 47 1 + 1) : INV0 (c + 1) Mz ∧ QF M Mz := by
  obtain ⟨b1', b2, b3, b4, b5, b6⟩ := hI
  have h78 := h.2.1.1
  have hmood : ∃ m, m ≤ 9 ∧ mI M 49 55 = nI m := h.1.2.2.1.2.1.2
  have cs' : CST M' A y := hcs.fw h78 b1' (fun a k w => by unfold Slk at w; omega)
  obtain ⟨ru2, k2⟩ := b4.fr hF1 (fun a k w => ⟨(Sb1_x a k w).1, (Sb1_x a k w).2.1⟩)
  have k2' : mI M2 49 = mI M 49 := k2.trans b5
  have e1 : ∀ a k, a < 78 → ¬ Slk a k → mI M' a k = mI M a k := fun a k w1 w2 => b1'.i (by omega) w2
  have k49 : ∀ k, k < 18 ∨ k = 54 ∨ k = 55 ∨ 57 ≤ k → mI Mz 49 k = mI M 49 k := fun k w => by rw [v49, KADD_old (by omega) (by omega)]
  have x1 : ∀ a k, a = 45 ∨ a = 48 ∨ (a = 1 ∧ k = 13) → mI M2 a k = mI M' a k := fun a k w => hF1.i (fun q => by have := Sb1_x a k q; omega)
  have x4 : ∀ a k, a < 47 ∨ a = 48 → mI Mz a k = mI M2 a k := fun a k w => hF4.i (fun q => by have := Sb4_x a k q; omega)
  have n2 : mn M2 = mn M := hF1.1.trans b2
  have nz : mn Mz = mn M := hF4.1.trans n2
  have z2 : mz Mz = mz M := hF4.2.1.trans (hF1.2.1.trans b3)
  have ruz : RUL Mz := ru2.k (hF4.fw (R := fun _ _ => False)) (fun a k w => ⟨fun q => by have := Sb4_x a k w; omega, fun q => by have := Sb4_x a k w; omega, fun q => by have := q.1; have := Sb4_x a k w; omega⟩) (fun _ _ w => w.elim) (fun k w => by rw [k49 k (by omega), k2'])
  have csz : CST Mz (A ++ [(some g, y, l)]) y := cs1.fw (by omega) (hF4.fw (R := fun _ _ => False)) (fun a k w => ⟨fun q => by have := Sb4_x a k w; omega, fun q => by have := Sb4_x a k w; omega⟩)
  have ksz : KST (mI Mz 49) (A ++ [(some g, y, l)]) y := by
    rw [v49]
    exact hks.add hg h12 hl
  have ex : ∀ a k, a = 45 ∨ a = 48 → mI Mz a k = mI M a k := fun a k w => by rw [x4 a k (by omega), x1 a k (by omega), e1 a k (by omega) (by unfold Slk; omega)]
  have hOut : OUTS Mz := ⟨by rw [v0, x4 0 12 (by omega)]; exact e12, fun m hm => by rw [ex 45 _ (by omega), ex 48 _ (by omega)]; exact h.1.2.2.2.2.2 m hm⟩
  have hR2 : REL Mz := REL.mk ruz csz ksz (by rw [k49 55 (by omega)]; exact hmood) hOut
  have hFa1 : Fw Sbn Rop M M' := b1'.up (fun _ _ w => Or.inl w) (fun _ _ w => w)
  have hFa2 : Fw Sbn Rop M' M2 := (hF1.fw (R := Rop)).up Sb1_bn (fun _ _ w => w)
  have hFa3 : Fw Sbn Rop M2 Mz := (hF4.fw (R := Rop)).up Sb4_bn (fun _ _ w => w)
  have hag : AGK (mI M 49) (mI Mz 49) := ⟨⟨fun t ht => k49 t (by omega), k49 55 (by omega), k49 58 (by omega), fun f hf _ => ⟨k49 _ (by omega), fun j hj => ⟨k49 _ (by omega), k49 _ (by omega)⟩⟩⟩, fun k hk => k49 k (by omega)⟩
  have v13 : mI Mz 1 13 = mI M' 1 13 := by rw [x4 1 13 (by omega), x1 1 13 (by omega)]
  have v14 : mI Mz 1 14 = mI M' 1 14 + 1 := by rw [x4 1 14 (by omega), e14]
  have v47 : mI Mz 47 1 = mI M' 47 1 + 1 := by rw [v1, hF1.i (fun q => by have := Sb1_x 47 1 q; omega)]
  have u13 := e1 1 13 (by decide) (by unfold Slk; omega)
  have u14 := e1 1 14 (by decide) (by unfold Slk; omega)
  have u47 := e1 47 1 (by decide) (by unfold Slk; omega)
  have hq' : QST M' Mz := ⟨0, 1, 1, by omega, by omega, by omega, by rw [v13]; exact (Int32.add_zero _).symm, v14, v47, by rw [b5]; exact fun _ => hag, fun w => by omega, fun w => by omega⟩
  have hq : QST M Mz := ⟨0, 1, 1, by omega, by omega, by omega, by rw [v13, u13]; exact (Int32.add_zero _).symm, by rw [v14, u14]; rfl, by rw [v47, u47]; rfl, fun _ => hag, fun w => by omega, fun w => by omega⟩
  have hR' : REL M' := REL.mk b4 cs' (by rw [b5]; exact hks) (by rw [b5]; exact hmood) ⟨by rw [e1 0 12 (by decide) (by unfold Slk; omega), e1 47 0 (by decide) (by unfold Slk; omega)]; exact h.1.2.2.2.2.1, fun m hm => by rw [e1 45 _ (by decide) (by unfold Slk; omega), e1 48 _ (by decide) (by unfold Slk; omega)]; exact h.1.2.2.2.2.2 m hm⟩
  have hb' : BND c M' := by
    obtain ⟨w1, w2, w3, w4, w5⟩ := h.2.1
    exact ⟨by omega, by omega, by rw [u13]; exact w3, by rw [u14]; exact w4, by rw [u47]; exact w5⟩
  have hFs1 : Fw (fun a k => Sb1 a k ∨ Sb4 a k) (fun _ _ => False) M' M2 := (hF1.fw (R := fun _ _ => False)).up (fun _ _ w => Or.inl w) (fun _ _ w => w)
  have hFs2 : Fw (fun a k => Sb1 a k ∨ Sb4 a k) (fun _ _ => False) M2 Mz := (hF4.fw (R := fun _ _ => False)).up (fun _ _ w => Or.inr w) (fun _ _ w => w)
  have hSz : SCI (300 * (c + 1)) Mz := b6.q hc (by omega) hb' hR' hR2 hq' (hFs1.tr hFs2) (fun a k w => w.elim (fun q => by have := Sb1_x a k q; exact ⟨by omega, by omega, fun z => by have := z.1; omega⟩) (fun q => by have := Sb4_x a k q; exact ⟨by omega, by omega, fun z => by have := z.1; omega⟩)) (fun _ _ w => w.elim)
  exact h.born ((hFa1.tr hFa2).tr hFa3) nz z2 hR2 hq hSz
theorem both_born {c : Nat} (hc : c < 600) {M : Mem} (h : INV0 c M) (p1 p2 p3 p4 : Int32) : CALL c M (fun M => f_X11_born M 0 p1 p2 p3 p4) (fun M => f_X12_born M 47 p1 p2 p3 p4) := by
  obtain ⟨m1, s1⟩ := h.mid
  have hru := m1.rul
  have h78 := m1.2.1
  obtain ⟨A, y, hcs, hks⟩ := h.1.st
  obtain ⟨⟨M1, x⟩, f1, hq1⟩ := c_give hru s1 (by omega) hcs p1 p2 p3 p4
  have y0 : okO M 11 0 := by
    have := h.1.1
    unfold LayC at this
    exact this.1
  have ec : f_X11_born M 0 p1 p2 p3 p4 = Option.bind (f_X11_settle M1 0 x) (fun q7 => some (q7.1, q7.2)) := by
    unfold f_X11_born
    rw [grd_y y0, f1, Option.bind_some]
  have hmood : ∃ m, m ≤ 9 ∧ mI M 49 55 = nI m := h.1.2.2.1.2.1.2
  cases ho : gbO (mI M 49) A y p1 p2 p3 p4 with
  | inl r =>
    rw [ho] at hq1
    obtain ⟨x1, ⟨b1', b2, b3, b4, b5, b6⟩, hr⟩ := hq1
    simp only at x1 b1' b2 b3 b4 b5 b6
    rw [x1, c_settle_r b4.1 hr, Option.bind_some] at ec
    have hF1 : Fr (fun a k => (a = 0 ∧ k = 12) ∨ a = 45) M1 (RFC M1 r) := fr_rfc Fr.rf (Or.inl ⟨rfl, rfl⟩) (fun k => Or.inr rfl)
    obtain ⟨ru2, k2⟩ := b4.fr hF1 (fun a k w => by unfold Frr; omega)
    have k2' : mI (RFC M1 r) 49 = mI M 49 := k2.trans b5
    obtain ⟨⟨Mb, x2⟩, f2, hq2⟩ := r_bears ru2 (by rw [k2']; exact hks) p1 p2 p3 p4
    rw [k2', ho] at hq2
    obtain ⟨x3, hF2⟩ := hq2
    simp only at x3 hF2
    have yb : okO (RFC M1 r) 12 47 := by
      have := ru2.2.1
      unfold LayM at this
      exact this.1
    have er : f_X12_born (RFC M1 r) 47 p1 p2 p3 p4 = some (RFM Mb r, -(nI r)) := by
      have hneg : ¬ 0 ≤ -(nI r) := by
        rcases hr with q | q | q | q | q <;> subst q <;> decide
      unfold f_X12_born
      rw [grd_y yb, f2, Option.bind_some]
      show (if 0 ≤ x2 then _ else Option.bind (f_X12_refuses Mb 47 x2) _) = _
      rw [x3, if_neg hneg, r_refuses (ru2.2.1.fr hF2) hr, Option.bind_some]
    refine ⟨_, _, _, ec, er, ?_⟩
    have hF3 : Fr (fun a k => (a = 0 ∧ k = 12) ∨ a = 45 ∨ Srv a k ∨ (a = 47 ∧ k = 0) ∨ a = 48) M1 (RFM Mb r) := fr_rfm ((hF1.up (fun a k w => by omega)).tr (hF2.up (fun a k w => Or.inr (Or.inr (Or.inl w))))) (Or.inr (Or.inr (Or.inr (Or.inl ⟨rfl, rfl⟩)))) (fun k => Or.inr (Or.inr (Or.inr (Or.inr rfl))))
    have hFa1 : Fw Sbn Rop M M1 := b1'.up (fun _ _ w => Or.inl w) (fun _ _ w => w)
    have hFa2 : Fw Sbn Rop M1 (RFM Mb r) := (hF3.fw (R := Rop)).up (fun a k w => by
      rcases w with w | w | w | w | w
      · exact Or.inr (Or.inl w)
      · exact Or.inr (Or.inr (Or.inr (Or.inr (Or.inl w))))
      · exact Or.inl (Srv_lk a k w)
      · exact Or.inr (Or.inr (Or.inr (Or.inr (Or.inr (Or.inl ⟨w.1, by omega⟩)))))
      · exact Or.inr (Or.inr (Or.inr (Or.inr (Or.inr (Or.inr (Or.inl w))))))) (fun _ _ w => w)
    have hFa : Fw Sbn Rop M (RFM Mb r) := hFa1.tr hFa2
    obtain ⟨ru3, k3⟩ := b4.fr hF3 (fun a k w => by unfold Srv at w; unfold Frr; omega)
    have k3' : mI (RFM Mb r) 49 = mI M 49 := k3.trans b5
    have cs1 : CST M1 A y := hcs.fw h78 b1' (fun a k w => by unfold Slk at w; omega)
    have cs3 : CST (RFM Mb r) A y := cs1.fw (by omega) (hF3.fw (R := fun _ _ => False)) (fun a k w => by unfold Srv at w; omega)
    have eb : ∀ a k, a < 47 ∨ a = 48 → mI Mb a k = mI (RFC M1 r) a k := fun a k w => hF2.i (by unfold Srv; omega)
    have e1 : ∀ a k, a < 78 → ¬ Slk a k → mI M1 a k = mI M a k := fun a k w1 w2 => b1'.i (by omega) w2
    have hOut : OUTS (RFM Mb r) := h.1.2.2.2.2.rf (Y := M1) hr (fun k => e1 45 k (by decide) (by unfold Slk; omega)) (fun k => eb 45 k (by omega)) (eb 0 12 (by omega)) (fun k => by rw [eb 48 k (by omega), rfc_v.1 48 k (by decide) (by decide), e1 48 k (by decide) (by unfold Slk; omega)])
    have hR2 : REL (RFM Mb r) := REL.mk ru3 cs3 (by rw [k3']; exact hks) (by rw [k3']; exact hmood) hOut
    have v13 : ∀ k, k = 13 ∨ k = 14 → mI (RFM Mb r) 1 k = mI M 1 k := fun k w => by rw [hF3.i (by unfold Srv; omega), e1 1 k (by decide) (by unfold Slk; omega)]
    have v47 : mI (RFM Mb r) 47 1 = mI M 47 1 := by rw [hF3.i (by unfold Srv; omega), e1 47 1 (by decide) (by unfold Slk; omega)]
    refine h.born hFa (by rw [hF3.1]; exact b2) (by rw [hF3.2.1]; exact b3) hR2 ⟨0, 0, 0, by omega, by omega, by omega, by rw [v13 13 (by omega)]; exact (Int32.add_zero _).symm, by rw [v13 14 (by omega)]; exact (Int32.add_zero _).symm, by rw [v47]; exact (Int32.add_zero _).symm, by rw [k3']; exact fun _ => AGK.rf, by rw [k3']; exact fun _ => ⟨AGK.rf, YHK.rf⟩, by rw [k3']; exact fun _ => ⟨AGK.rf, rfl⟩⟩ ((b6.fr2 (by omega) hF3 (fun a k w => by unfold Srv at w; omega)).mono (by omega))
  | inr l =>
    rw [ho] at hq1
    obtain ⟨x1, M', g, rfl, hg, ⟨b1', b2, b3, b4, b5, b6⟩, hl, h12, x2⟩ := hq1
    simp only at x1 x2
    have hn12 : A.length ≤ 12 := by omega
    have hF1 : Fr Sb1 M' (wI (ADDC M' A.length (nI g) (nI y) (nI (rank l)) (nI (tst l))) 0 12 0) := addc_fr
    have cs' : CST M' A y := hcs.fw h78 b1' (fun a k w => by unfold Slk at w; omega)
    have hCa : LayC (ADDC M' A.length (nI g) (nI y) (nI (rank l)) (nI (tst l))) := b4.1
    have cs1 : CST (wI (ADDC M' A.length (nI g) (nI y) (nI (rank l)) (nI (tst l))) 0 12 0) (A ++ [(some g, y, l)]) y := (cs'.add hg h12 hl).fw (show 78 ≤ mn M' by omega) (Fw.rf.wI (S := fun a k => a = 0 ∧ k = 12) (R := fun _ _ => False) ⟨rfl, rfl⟩) (fun a k w => by omega)
    have e14 : mI (wI (ADDC M' A.length (nI g) (nI y) (nI (rank l)) (nI (tst l))) 0 12 0) 1 14 = mI M' 1 14 + 1 := by
      unfold ADDC
      rw [mI_wI_row (by decide), mI_wI_ne (by decide), mI_wIs]
    have e12 : mI (wI (ADDC M' A.length (nI g) (nI y) (nI (rank l)) (nI (tst l))) 0 12 0) 0 12 = 0 := mI_wIs
    rw [x1, x2, c_settle_y hCa (by omega), Option.bind_some] at ec
    generalize wI (ADDC M' A.length (nI g) (nI y) (nI (rank l)) (nI (tst l))) 0 12 0 = M2 at *
    obtain ⟨ru2, k2⟩ := b4.fr hF1 (fun a k w => ⟨(Sb1_x a k w).1, (Sb1_x a k w).2.1⟩)
    have k2' : mI M2 49 = mI M 49 := k2.trans b5
    obtain ⟨⟨Mb, x3⟩, f2, hq2⟩ := r_bears ru2 (by rw [k2']; exact hks) (nI g) p2 p3 p4
    rw [k2', ho] at hq2
    obtain ⟨x4, M3, hF3, x5⟩ := hq2
    simp only at x4 x5
    subst x4 x5
    have yb : okO M2 12 47 := by
      have := ru2.2.1
      unfold LayM at this
      exact this.1
    have hM3 : LayM M3 := ru2.2.1.fr hF3
    have hMb : LayM (ADDM M3 A.length (nI g) (nI y) (nI (num l))) := hM3
    have er : f_X12_born M2 47 (nI g) p2 p3 p4 = some (wI (wI (ADDM M3 A.length (nI g) (nI y) (nI (num l))) 47 0 0) 47 1 (mI (ADDM M3 A.length (nI g) (nI y) (nI (num l))) 47 1 + 1), nI A.length) := by
      unfold f_X12_born
      rw [grd_y yb, f2, Option.bind_some]
      show (if 0 ≤ nI A.length then Option.bind (f_X12_good (ADDM M3 A.length (nI g) (nI y) (nI (num l))) 47 (nI A.length)) _ else _) = _
      rw [if_pos (by rw [show (0 : Int32) = nI 0 from rfl, nleI (by omega) (by omega)]; omega), r_good hMb, Option.bind_some]
    refine ⟨_, _, _, ec, er, ?_⟩
    have v49 : mI (wI (wI (ADDM M3 A.length (nI g) (nI y) (nI (num l))) 47 0 0) 47 1 (mI (ADDM M3 A.length (nI g) (nI y) (nI (num l))) 47 1 + 1)) 49 = KADD (mI M 49) A.length (nI g) (nI y) (nI (num l)) := by
      rw [mI_wI_row (by decide), mI_wI_row (by decide)]
      funext k
      rw [addm_49]
      congr 1
      rw [← k2']
      exact funext (fun k => hF3.i (by unfold Srv; omega))
    have v0 : mI (wI (wI (ADDM M3 A.length (nI g) (nI y) (nI (num l))) 47 0 0) 47 1 (mI (ADDM M3 A.length (nI g) (nI y) (nI (num l))) 47 1 + 1)) 47 0 = 0 := by rw [mI_wI_ne (by decide), mI_wIs]
    have v1 : mI (wI (wI (ADDM M3 A.length (nI g) (nI y) (nI (num l))) 47 0 0) 47 1 (mI (ADDM M3 A.length (nI g) (nI y) (nI (num l))) 47 1 + 1)) 47 1 = mI M2 47 1 + 1 := by
      rw [mI_wIs]
      unfold ADDM
      rw [mI_wI_row (by decide), mI_wI_row (by decide), mI_wI_row (by decide), mI_wI_row (by decide), hF3.i (by unfold Srv; omega)]
    exact born_y hc h hks hcs hg h12 hl ⟨b1', b2, b3, b4, b5, b6⟩ hF1 cs1 e14 e12 (addm_fr h12 hF3) v49 v0 v1
