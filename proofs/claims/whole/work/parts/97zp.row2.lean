/-! row(): the class -/
noncomputable def rwC1 (a0 : Nat) : Mem × Int32 × Int32 × Int32 × Int32 → Option ((Mem × Int32 × Int32 × Int32 × Int32) ⊕ (Mem × Int32 × Int32)) := (fun s4 => Option.bind (mR s4.1 a0 2) (fun r13 => grd (okO s4.1 7 r13) (if (mI s4.1 r13 4) < s4.2.2.2.2 then (some (.inr (s4.1, s4.2.1, s4.2.2.1))) else (Option.bind (mR s4.1 a0 2) (fun r15 => grd (okO s4.1 7 r15) (Option.bind (f_X7_byteAt s4.1 r15 s4.2.2.2.2) (fun q17 => bv (fun (s21 : Mem × Int32 × Int32 × Int32) => bv (s4.2.2.2.2 + 1 : Int32) (fun x25 => some (.inl (s21.1, s21.2.1, s21.2.2.1, s21.2.2.2, x25)))) (fun j20 => if q17 = 0 then (bv (fun (s27 : Mem × Int32 × Int32) => bv (s4.2.2.2.2 + 1 : Int32) (fun x31 => j20 (s27.1, s27.2.1, s27.2.2, x31))) (fun j26 => if s4.2.2.2.2 ≤ s4.2.2.2.1 then (j26 (s4.1, s4.2.1, s4.2.2.1)) else (Option.bind (mR s4.1 a0 2) (fun r32 => grd (okO s4.1 7 r32) (Option.bind (f_X7_dishAt s4.1 r32 s4.2.2.2.1 s4.2.2.2.2) (fun q34 => bv (fun (s38 : Mem × Int32) => bv (fun (s43 : Int32) => bv (s4.2.1 + s43 : Int32) (fun x46 => bv (fun (s48 : Int32) => bv (s4.2.2.1 + s48 : Int32) (fun x51 => j26 (s38.1, x46, x51))) (fun j47 => if s38.2 = 0 then (j47 1) else (j47 0)))) (fun j42 => if s38.2 = 0 then (j42 0) else (j42 1))) (fun j37 => bv (fun (s53 : Mem) => j37 (s53, 0)) (fun j52 => if q34 = (-1) then (j52 s4.1) else (Option.bind (mR s4.1 a0 0) (fun r57 => Option.bind (mR s4.1 a0 0) (fun r58 => grd (okO s4.1 10 r58) (grd (okO s4.1 10 r57) (Option.bind (f_X10_add s4.1 r57 (-1) (mI s4.1 r58 11) q34) (fun q61 => if q61.2 < 0 then (j52 q61.1) else (j37 (q61.1, 1)))))))))))))))) else (j20 (s4.1, s4.2.1, s4.2.2.1, s4.2.2.2.1))))))))))
theorem crow_eq {M : Mem} {a0 : Nat} : f_X11_row M a0 = grd (okO M 11 a0) (Option.bind (mR M a0 2) (fun r2 => grd (okO M 7 r2) (if (mI M r2 4) = 0 then (Option.bind (f_X11_refuse M a0 (-6)) (fun q82 => some (q82.1, q82.2))) else (Option.bind (loopO (rwC1 a0) (M, 0, 0, 0, 0)) (fun (x11 : Mem × Int32 × Int32) => Option.bind (mR x11.1 a0 2) (fun r67 => grd (okO x11.1 7 r67) (bv (wI x11.1 r67 4 0) (fun M69 => bv (wI M69 a0 13 x11.2.2) (fun M73 => Option.bind (f_X11_accept M73 a0 x11.2.1) (fun q77 => some (q77.1, q77.2))))))))))) := rfl
noncomputable def rwR1 (x2 : Int32) (a0 : Nat) : Mem × Int32 × Int32 → Option ((Mem × Int32 × Int32) ⊕ (Mem × Int32)) := (fun s11 => if x2 ≤ s11.2.2 then (some (.inr (s11.1, s11.2.1))) else (Option.bind (loopO (riB s11 x2 a0) (s11.2.2, 1, 0)) (fun (x26 : Int32 × Int32 × Int32) => bv (fun (s54 : Mem × Int32) => bv (x26.1 + 1 : Int32) (fun x58 => some (.inl (s54.1, s54.2, x58)))) (fun j53 => if x26.1 ≤ s11.2.2 then (j53 (s11.1, s11.2.1)) else (bv (fun (s60 : Int32) => bv (fun (s64 : Mem) => bv (fun (s69 : Int32) => bv (s11.2.1 + s69 : Int32) (fun x72 => bv (fun (s74 : Int32) => bv (wI s64 a0 12 ((mI s64 a0 12) + s74)) (fun M77 => j53 (M77, x72))) (fun j73 => if s60 = 0 then (j73 1) else (j73 0)))) (fun j68 => if s60 = 0 then (j68 0) else (j68 1))) (fun j63 => if s60 = 0 then (j63 s11.1) else (Option.bind (mR s11.1 a0 3) (fun r81 => grd (okO s11.1 14 r81) (grd (vp_in 54 (mL s11.1 r81)) (Option.bind (f_X12_adds s11.1 a0 (-1) (mI s11.1 r81 (54 : Int32).toNatClampNeg) x26.2.2) (fun q84 => j63 q84))))))) (fun j59 => bv (fun (s90 : Unit) => j59 0) (fun j89 => if x26.2.1 = 0 then (j89 ()) else (Option.bind (mR s11.1 a0 3) (fun r93 => grd (okO s11.1 14 r93) (grd (vp_in 56 (mL s11.1 r93)) (if 12 ≤ (mI s11.1 r93 (56 : Int32).toNatClampNeg) then (j89 ()) else (j59 1))))))))))))
theorem rrow_eq {M : Mem} {a0 : Nat} : f_X12_row M a0 = grd (okO M 12 a0) (bv (mI M a0 17 : Int32) (fun x2 => bv (wI M a0 17 0) (fun M3 => if x2 = 0 then (Option.bind (f_X12_refuses M3 a0 (-6)) (fun q102 => some (q102.1, q102.2))) else (bv (wI M3 a0 12 0) (fun M7 => Option.bind (loopO (rwR1 x2 a0) (M7, 0, 0)) (fun (x18 : Mem × Int32) => Option.bind (f_X12_good x18.1 a0 x18.2) (fun q97 => some (q97.1, q97.2)))))))) := rfl
def rwU (bt : Nat → Nat) (y : Nat) (st : List (Option Nat × Nat × List Nat) × Nat × Nat) (a b : Nat) : List (Option Nat × Nat × List Nat) × Nat × Nat := if b ≤ a then st else match dOf bt a b with
  | some d => if st.1.length < 12 then (st.1 ++ [(none, y, d)], st.2.1 + 1, st.2.2) else (st.1, st.2.1, st.2.2 + 1)
  | none => (st.1, st.2.1, st.2.2 + 1)
def rwS (bt : Nat → Nat) (n y : Nat) : Nat → Nat → List (Option Nat × Nat × List Nat) × Nat × Nat → List (Option Nat × Nat × List Nat) × Nat × Nat
  | 0, _, st => st
  | f + 1, a, st => if n ≤ a then st else rwS bt n y f (sE bt n a + 1) (rwU bt y st a (sE bt n a))
theorem rwS_more {bt : Nat → Nat} {n y : Nat} : ∀ f a st, n ≤ a + f → rwS bt n y (f + 1) a st = rwS bt n y f a st := by
  intro f
  induction f with
  | zero =>
    intro a st h
    show (if n ≤ a then st else _) = st
    rw [if_pos (by omega)]
  | succ f ih =>
    intro a st h
    show (if n ≤ a then st else rwS bt n y (f + 1) (sE bt n a + 1) (rwU bt y st a (sE bt n a))) = if n ≤ a then st else rwS bt n y f (sE bt n a + 1) (rwU bt y st a (sE bt n a))
    by_cases w : n ≤ a
    · rw [if_pos w, if_pos w]
    · rw [if_neg w, if_neg w]
      have := (sE_v (bt := bt) (n := n) (a := a) (by omega)).1
      exact ih _ _ (by omega)
theorem rwS_end {bt : Nat → Nat} {n y : Nat} : ∀ f a st, n ≤ a → rwS bt n y f a st = st := by
  intro f a st h
  cases f with
  | zero => rfl
  | succ f =>
    show (if n ≤ a then st else _) = st
    rw [if_pos h]
theorem rwS_go {bt : Nat → Nat} {n y f a b : Nat} {st : List (Option Nat × Nat × List Nat) × Nat × Nat} (hf : n ≤ a + f) (ha : a < n) (hb : sE bt n a = b) : rwS bt n y f a st = rwS bt n y f (b + 1) (rwU bt y st a b) := by
  have hab := (sE_v (bt := bt) (n := n) (a := a) (by omega)).1
  rw [← rwS_more f a st hf]
  show (if n ≤ a then st else rwS bt n y f (sE bt n a + 1) (rwU bt y st a (sE bt n a))) = _
  rw [if_neg (by omega), hb]
theorem CST.addN {M : Mem} {A : List (Option Nat × Nat × List Nat)} {y : Nat} (h : CST M A y) (h12 : A.length < 12) {l : List Nat} (hl : DL l) : CST (ADDC M A.length (-1) (nI y) (nI (rank l)) (nI (tst l))) (A ++ [(none, y, l)]) y := by
  obtain ⟨a1, a2, a3, a4, a5⟩ := h
  have e8 : mI (ADDC M A.length (-1) (nI y) (nI (rank l)) (nI (tst l))) 1 8 = nI (A.length + 1) := mI_wIs
  have e11 : mI (ADDC M A.length (-1) (nI y) (nI (rank l)) (nI (tst l))) 1 11 = mI M 1 11 := by
    unfold ADDC
    rw [mI_wI_ne (by decide), mI_wI_ne (by decide), mI_wI_row (by decide), mI_wI_row (by decide), mI_wI_row (by decide), mI_wI_row (by decide)]
  have e5 : ∀ k, mI (ADDC M A.length (-1) (nI y) (nI (rank l)) (nI (tst l))) 5 k = if k = A.length then -1 else mI M 5 k := fun k => by
    unfold ADDC
    rw [mI_wI_row (by decide), mI_wI_row (by decide), mI_wI_row (by decide), mI_wI_row (by decide), mI_wI_row (by decide)]
    by_cases q : k = A.length
    · rw [q, mI_wIs, if_pos rfl]
    · rw [mI_wI_ne q, if_neg q]
  have e6 : ∀ k, mI (ADDC M A.length (-1) (nI y) (nI (rank l)) (nI (tst l))) 6 k = if k = A.length then nI y else mI M 6 k := fun k => by
    unfold ADDC
    rw [mI_wI_row (by decide), mI_wI_row (by decide), mI_wI_row (by decide), mI_wI_row (by decide)]
    by_cases q : k = A.length
    · rw [q, mI_wIs, if_pos rfl]
    · rw [mI_wI_ne q, if_neg q, mI_wI_row (by decide)]
  have e7 : ∀ k, mI (ADDC M A.length (-1) (nI y) (nI (rank l)) (nI (tst l))) 7 k = if k = A.length then nI (rank l) else mI M 7 k := fun k => by
    unfold ADDC
    rw [mI_wI_row (by decide), mI_wI_row (by decide), mI_wI_row (by decide)]
    by_cases q : k = A.length
    · rw [q, mI_wIs, if_pos rfl]
    · rw [mI_wI_ne q, if_neg q, mI_wI_row (by decide), mI_wI_row (by decide)]
  have e8r : ∀ k, mI (ADDC M A.length (-1) (nI y) (nI (rank l)) (nI (tst l))) 8 k = if k = A.length then nI (tst l) else mI M 8 k := fun k => by
    unfold ADDC
    rw [mI_wI_row (by decide), mI_wI_row (by decide)]
    by_cases q : k = A.length
    · rw [q, mI_wIs, if_pos rfl]
    · rw [mI_wI_ne q, if_neg q, mI_wI_row (by decide), mI_wI_row (by decide), mI_wI_row (by decide)]
  generalize ADDC M A.length (-1) (nI y) (nI (rank l)) (nI (tst l)) = M1 at *
  refine ⟨by rw [List.length_append, List.length_singleton]; omega, by rw [List.length_append, List.length_singleton]; exact e8, e11.trans a3, a4, fun k e he => ?_⟩
  rw [e5, e6, e7, e8r]
  by_cases q : k = A.length
  · rw [List.getElem?_append_right (by omega), q, Nat.sub_self] at he
    cases he
    rw [if_pos q, if_pos q, if_pos q, if_pos q]
    exact ⟨fun m hm => (by cases hm), a4, hl, rfl, rfl, rfl, rfl⟩
  · rw [if_neg q, if_neg q, if_neg q, if_neg q]
    by_cases q2 : k < A.length
    · rw [List.getElem?_append_left q2] at he
      exact a5 k e he
    · rw [List.getElem?_eq_none (by rw [List.length_append, List.length_singleton]; omega)] at he
      cases he
theorem KST.addN {K : Nat → Int32} {A : List (Option Nat × Nat × List Nat)} {y : Nat} (h : KST K A y) (h12 : A.length < 12) {l : List Nat} (hl : DL l) : KST (KADD K A.length (-1) (nI y) (nI (num l))) (A ++ [(none, y, l)]) y := by
  obtain ⟨a1, a2, a3, a4, a5⟩ := h
  refine ⟨by rw [List.length_append, List.length_singleton]; omega, by rw [List.length_append, List.length_singleton]; exact KADD_56, by rw [KADD_old (by omega) (by omega)]; exact a3, a4, fun k e he => ?_⟩
  by_cases q : k = A.length
  · rw [List.getElem?_append_right (by omega), q, Nat.sub_self] at he
    cases he
    subst q
    rw [KADD_0 h12, KADD_1 h12, KADD_2 h12]
    exact ⟨fun m hm => (by cases hm), a4, hl, rfl, rfl, rfl⟩
  · by_cases q2 : k < A.length
    · rw [List.getElem?_append_left q2] at he
      rw [KADD_old (by omega) (by omega), KADD_old (by omega) (by omega), KADD_old (by omega) (by omega)]
      exact a5 k e he
    · rw [List.getElem?_eq_none (by rw [List.length_append, List.length_singleton]; omega)] at he
      cases he
theorem dOf_DL {bt : Nat → Nat} {a b : Nat} {d : List Nat} (h : dOf bt a b = some d) : DL d := by
  unfold dOf at h
  split at h
  · rename_i w
    cases h
    exact sgl_DL w.1 (okB_iff.mp w.2)
  · cases h
def Sro (a k : Nat) : Prop := (a = 1 ∧ (k = 8 ∨ k = 14)) ∨ (5 ≤ a ∧ a ≤ 8)
def CRI (M : Mem) (n0 y : Nat) (st : List (Option Nat × Nat × List Nat) × Nat × Nat) (M' : Mem) : Prop := Fr Sro M M' ∧ CST M' st.1 y ∧ n0 ≤ st.1.length ∧ mI M' 1 14 = mI M 1 14 + nI (st.1.length - n0)
theorem addc_ro {M M' : Mem} {n : Nat} {p1 p2 p3 p4 : Int32} (h : Fr Sro M M') : Fr Sro M (ADDC M' n p1 p2 p3 p4) := by
  unfold ADDC
  exact (((((h.wI (show Sro 5 n by unfold Sro; omega)).wI (show Sro 6 n by unfold Sro; omega)).wI (show Sro 7 n by unfold Sro; omega)).wI (show Sro 8 n by unfold Sro; omega)).wI (show Sro 1 14 by unfold Sro; omega)).wI (show Sro 1 8 by unfold Sro; omega)
theorem addc_14 {M : Mem} {n : Nat} {p1 p2 p3 p4 : Int32} : mI (ADDC M n p1 p2 p3 p4) 1 14 = mI M 1 14 + 1 := by
  unfold ADDC
  rw [mI_wI_ne (by decide), mI_wIs]
theorem c_row_L {M : Mem} (hC : LayC M) {n : Nat} {bt : Nat → Nat} (ht : TAPC M n bt) {A : List (Option Nat × Nat × List Nat)} {y : Nat} (hc : CST M A y) : TT (loopO (rwC1 0) (M, 0, 0, 0, 0)) (fun x => CRI M A.length y (rwS bt n y (n + 1) 0 (A, 0, 0)) x.1 ∧ x.2.1 = nI (rwS bt n y (n + 1) 0 (A, 0, 0)).2.1 ∧ x.2.2 = nI (rwS bt n y (n + 1) 0 (A, 0, 0)).2.2) := by
  have h400 := ht.1
  refine TT_for (n + 1) (fun k s => s.2.2.2.2 = nI k ∧ ∃ a st, s.2.2.2.1 = nI a ∧ a ≤ k ∧ (k = n + 1 → a = n + 1) ∧ (∀ i, a ≤ i → i < k → bt i ≠ 0) ∧ CRI M A.length y st s.1 ∧ s.2.1 = nI st.2.1 ∧ s.2.2.1 = nI st.2.2 ∧ rwS bt n y (n + 1) a st = rwS bt n y (n + 1) 0 (A, 0, 0)) ?_ (Nat.zero_le _) ⟨rfl, 0, (A, 0, 0), rfl, Nat.le_refl _, fun q => by omega, fun i h1 h2 => by omega, ⟨Fr.rf, hc, Nat.le_refl _, by rw [Nat.sub_self]; exact (Int32.add_zero _).symm⟩, rfl, rfl, rfl⟩
  rintro k ⟨M1, ca, lo, sa, ix⟩ hk ⟨q1, a, st, q2, q3, q4, q5, ⟨r1, r2, r3, r4⟩, q7, q8, q9⟩
  simp only at q1 q2 r1 r2 r4 q7 q8
  subst q1 q2 q7 q8
  have hC1 := hC.fr r1
  have hC12 := hC1
  have ht1 : TAPC M1 n bt := ⟨h400, by rw [r1.i (by unfold Sro; omega)]; exact ht.2.1, fun i hi => by rw [r1.i (by unfold Sro; omega)]; exact ht.2.2 i hi⟩
  unfold LayC at hC12
  unfold rwC1
  simp only [hC12, grd_T, Option.bind_some, bv]
  rw [ht1.2.1]
  by_cases w : k < n + 1
  · rw [if_neg (fun q => by have := (nltI (by omega) (by omega)).mp q; omega), c_byteC hC1 ht1 (by omega), Option.bind_some, nsucc]
    -- nothing ends here
    by_cases w0 : k < n ∧ bt k ≠ 0
    · have hbt := (ht.2.2 k w0.1).1
      rw [if_pos w0.1, if_neg (fun (q : nI (bt k) = 0) => w0.2 ((neqI (by omega) (by omega)).mp (show nI (bt k) = nI 0 from q))), TT_some]
      refine ⟨w, rfl, a, st, rfl, by omega, fun q => by omega, fun i h1 h2 => ?_, ⟨r1, r2, r3, r4⟩, rfl, rfl, q9⟩
      by_cases e : i = k
      · rw [e]; exact w0.2
      · exact q5 i h1 (by omega)
    · have hz : (if k < n then nI (bt k) else 0) = 0 := by
        by_cases w1 : k < n
        · rw [if_pos w1, Classical.byContradiction (fun q => w0 ⟨w1, q⟩)]
          rfl
        · rw [if_neg w1]
      rw [if_pos hz]
      have hsE : sE bt n a = k := sE_un (by omega) q3 (by omega) q5 (fun g => Classical.byContradiction (fun q => w0 ⟨g, q⟩))
      -- how it goes on
      have tail : ∀ (M2 : Mem) st2, CRI M A.length y st2 M2 → rwS bt n y (n + 1) (k + 1) st2 = rwS bt n y (n + 1) 0 (A, 0, 0) → TT (some (Sum.inl (M2, nI st2.2.1, nI st2.2.2, nI (k + 1), nI (k + 1)))) (fun (r : (Mem × Int32 × Int32 × Int32 × Int32) ⊕ (Mem × Int32 × Int32)) => r.elim (fun s' => k < n + 1 ∧ s'.2.2.2.2 = nI (k + 1) ∧ ∃ a st, s'.2.2.2.1 = nI a ∧ a ≤ k + 1 ∧ (k + 1 = n + 1 → a = n + 1) ∧ (∀ i, a ≤ i → i < k + 1 → bt i ≠ 0) ∧ CRI M A.length y st s'.1 ∧ s'.2.1 = nI st.2.1 ∧ s'.2.2.1 = nI st.2.2 ∧ rwS bt n y (n + 1) a st = rwS bt n y (n + 1) 0 (A, 0, 0)) (fun x => CRI M A.length y (rwS bt n y (n + 1) 0 (A, 0, 0)) x.1 ∧ x.2.1 = nI (rwS bt n y (n + 1) 0 (A, 0, 0)).2.1 ∧ x.2.2 = nI (rwS bt n y (n + 1) 0 (A, 0, 0)).2.2)) := by
        intro M2 st2 g1 g2
        rw [TT_some]
        exact ⟨w, rfl, k + 1, st2, rfl, by omega, fun q => q, fun i h1 h2 => by omega, g1, rfl, rfl, g2⟩
      by_cases wa : k ≤ a
      · have ea : a = k := by omega
        rw [if_pos ((nleI (by omega) (by omega)).mpr (by omega))]
        refine tail M1 st ⟨r1, r2, r3, r4⟩ ?_
        rw [← q9]
        by_cases wn : n ≤ a
        · rw [rwS_end _ _ _ (by omega), rwS_end _ _ _ wn]
        · rw [rwS_go (f := n + 1) (a := a) (by omega) (by omega) hsE]
          congr 1
          unfold rwU
          rw [if_pos (by omega)]
      · rw [if_neg (fun q => by have := (nleI (by omega) (by omega)).mp q; omega)]
        have hgo : rwS bt n y (n + 1) (k + 1) (rwU bt y st a k) = rwS bt n y (n + 1) 0 (A, 0, 0) := by
          rw [← q9, rwS_go (f := n + 1) (a := a) (by omega) (by omega) hsE]
        rw [c_dishAt hC1 ht1 (by omega) (by omega) q5, Option.bind_some]
        unfold rwU at hgo
        rw [if_neg (by omega)] at hgo
        cases hd : dOf bt a k with
        | none =>
          rw [hd] at hgo
          rw [if_pos (show rkO none = -1 from rfl)]
          simp only [if_true]
          rw [show (nI st.2.1 + 0 : Int32) = nI st.2.1 from Int32.add_zero _, nsucc]
          exact tail M1 (st.1, st.2.1, st.2.2 + 1) ⟨r1, r2, r3, r4⟩ hgo
        | some d =>
          have hdl := dOf_DL hd
          rw [hd] at hgo
          simp only at hgo
          rw [if_neg (show ¬ rkO (some d) = -1 from rank_ne hdl), show rkO (some d) = nI (rank d) from rfl, r2.2.2.1]
          by_cases w12 : st.1.length < 12
          · rw [if_pos w12] at hgo
            rw [c_add hC1 w12 r2.2.1 hdl, Option.bind_some]
            simp only
            rw [if_neg (fun q => by rw [show (0 : Int32) = nI 0 from rfl] at q; have := (nltI (by omega) (by omega)).mp q; omega), if_neg (show ¬ (1 : Int32) = 0 by decide), if_neg (show ¬ (1 : Int32) = 0 by decide), show (nI st.2.2 + 0 : Int32) = nI st.2.2 from Int32.add_zero _, nsucc]
            refine tail _ _ ⟨addc_ro r1, r2.addN w12 hdl, ?_, ?_⟩ hgo
            · show _ ≤ (st.1 ++ _).length
              rw [List.length_append]
              omega
            · show _ = mI M 1 14 + nI ((st.1 ++ _).length - A.length)
              rw [addc_14, r4, List.length_append, List.length_singleton, Int32.add_assoc, nsucc]
              congr 2
              omega
          · rw [if_neg w12] at hgo
            have e12 : st.1.length = 12 := by have := r2.1; omega
            rw [c_add_no hC1 (by rw [r2.2.1, e12]), Option.bind_some]
            simp only
            rw [if_pos (by decide)]
            simp only [if_true]
            rw [show (nI st.2.1 + 0 : Int32) = nI st.2.1 from Int32.add_zero _, nsucc]
            exact tail M1 (st.1, st.2.1, st.2.2 + 1) ⟨r1, r2, r3, r4⟩ hgo
  · have ek : k = n + 1 := by omega
    have ea := q4 ek
    rw [if_pos ((nltI (by omega) (by omega)).mpr (by omega)), TT_some]
    rw [ea, rwS_end _ _ _ (by omega)] at q9
    subst q9
    exact ⟨⟨r1, r2, r3, r4⟩, rfl, rfl⟩
