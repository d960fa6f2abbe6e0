/-! TERMS and SUMS of the reference -/
theorem modes {M M1 M2 : Mem} {live : Bool} {B k k2 : Nat} {v0 vy : Option Int} {v w : Int64} (hb : mI M 47 28 = 0 ∨ mI M 47 28 = 1) (h0 : ∀ x, v0 = some x → S32 x) (h1 : RG M live B k v0 (M1, v)) {Mx : Mem} (hx : mI Mx 47 28 = mI M1 47 28) (h2 : RG Mx live B k2 vy (M2, w)) : (∃ a b, live = true ∧ mI M 47 28 = 0 ∧ v0 = some a ∧ vy = some b ∧ v = jj a ∧ w = jj b ∧ mI M2 47 28 = 0) ∨ (∃ a, live = true ∧ mI M 47 28 = 0 ∧ (v0 = none ∨ vy = none) ∧ S32 a ∧ v = jj a ∧ w = jj 0 ∧ mI M2 47 28 = 1) ∨ (¬ (live = true ∧ mI M 47 28 = 0) ∧ v = jj 0 ∧ w = jj 0 ∧ mI M2 47 28 = mI M 47 28) := by
  have n10 : ¬ (1 : Int32) = 0 := by decide
  obtain ⟨-, -, c1⟩ := h1
  obtain ⟨-, -, c2⟩ := h2
  unfold RQ at c1 c2
  simp only at c1 c2
  rw [hx] at c2
  by_cases w0 : live = true ∧ mI M 47 28 = 0
  · rw [if_pos w0] at c1
    cases v0 with
    | none =>
      obtain ⟨e1, e2⟩ := c1
      rw [if_neg (fun q => by rw [e2] at q; exact n10 q.2), e2] at c2
      exact Or.inr (Or.inl ⟨0, w0.1, w0.2, Or.inl rfl, ⟨by decide, by decide⟩, e1, c2.1, c2.2⟩)
    | some a =>
      obtain ⟨e1, e2⟩ := c1
      rw [if_pos ⟨w0.1, e2⟩] at c2
      cases vy with
      | none => exact Or.inr (Or.inl ⟨a, w0.1, w0.2, Or.inr rfl, h0 a rfl, e1, c2.1, c2.2⟩)
      | some b => exact Or.inl ⟨a, b, w0.1, w0.2, rfl, rfl, e1, c2.1, c2.2⟩
  · rw [if_neg w0] at c1
    rw [if_neg (fun q => w0 ⟨q.1, by rw [← c1.2]; exact q.2⟩), c1.2] at c2
    exact Or.inr (Or.inr ⟨w0, c1.1, c2.1, c2.2⟩)
noncomputable def tmB (g_X12_partOf : Mem → Nat → Int32 → Option (Mem × Int64)) (p1 : Int32) : Mem × Int64 → Option ((Mem × Int64) ⊕ (Mem × Int64)) := (fun s7 => Option.bind (f_X12_codeAt s7.1 47 (mI s7.1 47 26)) (fun q16 => Option.bind (f_X12_sign 42) (fun q19 => bv (fun (s23 : Unit) => Option.bind (f_X12_codeAt s7.1 47 (mI s7.1 47 26)) (fun q26 => bv (wI s7.1 47 26 ((mI s7.1 47 26) + 1)) (fun M29 => Option.bind (g_X12_partOf M29 47 p1) (fun q33 => Option.bind (f_X12_sign 42) (fun q38 => bv (fun (s42 : Mem × Int64) => Option.bind (f_X12_sign 42) (fun q46 => bv (fun (s50 : Int64) => Option.bind (f_X12_bounded s42.1 47 s50 p1) (fun q53 => some (.inl (q53.1, q53.2)))) (fun j49 => if q26 = q46 then (j49 (s7.2 * s42.2)) else (Option.bind (f_X12_sign 47) (fun q58 => if q26 = q58 then (grd (¬ s42.2 = 0) (j49 (s7.2 / s42.2))) else (grd (¬ s42.2 = 0) (j49 (lr s7.2 s42.2)))))))) (fun j41 => if q26 = q38 then (j41 (q33.1, q33.2)) else (if (lg_cmp q33.2 0) = 0 then (bv (fun (s64 : Int32) => grd (pb s64) (bv (wI q33.1 47 28 s64) (fun M67 => j41 (M67, 1)))) (fun j63 => bv (fun (s73 : Unit) => j63 1) (fun j72 => if (mI q33.1 47 28) = 0 then (if p1 = 0 then (j63 0) else (j72 ())) else (j72 ())))) else (j41 (q33.1, q33.2))))))))) (fun j22 => if q16 = q19 then (j22 ()) else (Option.bind (f_X12_codeAt s7.1 47 (mI s7.1 47 26)) (fun q76 => Option.bind (f_X12_sign 47) (fun q79 => if q76 = q79 then (j22 ()) else (Option.bind (f_X12_codeAt s7.1 47 (mI s7.1 47 26)) (fun q82 => Option.bind (f_X12_sign 37) (fun q85 => if q82 = q85 then (j22 ()) else (some (.inr (s7.1, s7.2)))))))))))))
noncomputable def smB (g_X12_termOf : Mem → Nat → Int32 → Option (Mem × Int64)) (p1 : Int32) : Mem × Int64 → Option ((Mem × Int64) ⊕ (Mem × Int64)) := (fun s7 => Option.bind (f_X12_codeAt s7.1 47 (mI s7.1 47 26)) (fun q16 => Option.bind (f_X12_sign 43) (fun q19 => bv (fun (s23 : Unit) => Option.bind (f_X12_codeAt s7.1 47 (mI s7.1 47 26)) (fun q26 => Option.bind (f_X12_sign 43) (fun q29 => bv (fun (s33 : Int32) => bv (wI s7.1 47 26 ((mI s7.1 47 26) + 1)) (fun M36 => Option.bind (g_X12_termOf M36 47 p1) (fun q40 => bv (fun (s46 : Int64) => Option.bind (f_X12_bounded q40.1 47 s46 p1) (fun q49 => some (.inl (q49.1, q49.2)))) (fun j45 => if s33 = 0 then (j45 (s7.2 - q40.2)) else (j45 (s7.2 + q40.2)))))) (fun j32 => if q26 = q29 then (j32 1) else (j32 0))))) (fun j22 => if q16 = q19 then (j22 ()) else (Option.bind (f_X12_codeAt s7.1 47 (mI s7.1 47 26)) (fun q54 => Option.bind (f_X12_sign 45) (fun q57 => if q54 = q57 then (j22 ()) else (some (.inr (s7.1, s7.2))))))))))
theorem tm_eq {g : Mem → Nat → Int32 → Option (Mem × Int64)} {M : Mem} {p : Int32} (hM : LayM M) : b_X12_termOf g M 47 p = Option.bind (g M 47 p) (fun q2 => Option.bind (loopO (tmB g p) (q2.1, q2.2)) (fun x => some (x.1, x.2))) := grd_y (by unfold LayM at hM; exact hM.1)
theorem sm_eq {g : Mem → Nat → Int32 → Option (Mem × Int64)} {M : Mem} {p : Int32} (hM : LayM M) : b_X12_sumOf g M 47 p = Option.bind (g M 47 p) (fun q2 => Option.bind (loopO (smB g p) (q2.1, q2.2)) (fun x => some (x.1, x.2))) := grd_y (by unfold LayM at hM; exact hM.1)
section
variable {T : Nat → Nat} {len : Nat} {ord : Bool}
theorem R64_add {a b : Int} (ha : S32 a) (hb : S32 b) : R64 (a + b) ∧ R64 (a - b) := by
  have := ha.1
  have := ha.2
  have := hb.1
  have := hb.2
  exact ⟨⟨by omega, by omega⟩, ⟨by omega, by omega⟩⟩
theorem S32_0 : S32 0 := ⟨by decide, by decide⟩
theorem ap3 (a b : Int) : ap 3 a b = bnd (a + b) := rfl
theorem ap4 (a b : Int) : ap 4 a b = bnd (a - b) := rfl
theorem ap5 (a b : Int) : ap 5 a b = bnd (a * b) := rfl
theorem ap6 (a b : Int) : ap 6 a b = if b = 0 then none else bnd (a.tdiv b) := by
  unfold ap bnd
  by_cases h : b = 0 <;> simp [h]
theorem ap7 (a b : Int) : ap 7 a b = if b = 0 then none else bnd (a.tmod b) := by
  unfold ap bnd
  by_cases h : b = 0 <;> simp [h]
theorem opS_or (t : Nat) : (t = 43 ∧ opS t = some 3) ∨ (t = 45 ∧ opS t = some 4) ∨ (t ≠ 43 ∧ t ≠ 45 ∧ opS t = none) := by
  unfold opS
  by_cases h : t = 43
  · exact Or.inl ⟨h, if_pos h⟩
  · by_cases h2 : t = 45
    · exact Or.inr (Or.inl ⟨h2, by rw [if_neg h, if_pos h2]⟩)
    · exact Or.inr (Or.inr ⟨h, h2, by rw [if_neg h, if_neg h2]⟩)
theorem opT_or (t : Nat) : (t = 42 ∧ opT t = some 5) ∨ (t = 47 ∧ opT t = some 6) ∨ (t = 37 ∧ opT t = some 7) ∨ (t ≠ 42 ∧ t ≠ 47 ∧ t ≠ 37 ∧ opT t = none) := by
  unfold opT
  by_cases h : t = 42
  · exact Or.inl ⟨h, if_pos h⟩
  · by_cases h2 : t = 47
    · exact Or.inr (Or.inl ⟨h2, by rw [if_neg h, if_pos h2]⟩)
    · by_cases h3 : t = 37
      · exact Or.inr (Or.inr (Or.inl ⟨h3, by rw [if_neg h, if_neg h2, if_pos h3]⟩))
      · exact Or.inr (Or.inr (Or.inr ⟨h, h2, h3, by rw [if_neg h, if_neg h2, if_neg h3]⟩))
theorem sg (c : Nat) (h : c < 256) {t : Nat} : (nI (rc t) = 100 + nI c) ↔ t = c := by
  have := rc_le t
  rw [show (100 : Int32) = nI 100 from rfl, nadd, neqI (by omega) (by omega), rc_byte h]
theorem BS_sum (hT : ∀ j, len ≤ j → T j = 256) {F : Mem → Nat → Int32 → Option (Mem × Int64)} : BSTEP (fun live => smB F (b1 live)) F opS T len ord := by
  intro M B W live k v0 s hE hb hk h0 hR
  obtain ⟨M1, v⟩ := s
  have hR0 := hR
  obtain ⟨hF, hgo, -⟩ := hR
  simp only at hF hgo
  have hca := r_codeAt hT (hE.fr hF) hk
  have c43 : (nI (rc (T k)) = 100 + 43) ↔ T k = 43 := sg 43 (by decide)
  have c45 : (nI (rc (T k)) = 100 + 45) ↔ T k = 45 := sg 45 (by decide)
  refine ⟨fun h => ?_, fun o k2 valy h hvb hr => ?_⟩
  · rcases opS_or (T k) with ⟨e, e2⟩ | ⟨e, e2⟩ | ⟨e1, e2, -⟩
    · rw [e2] at h; cases h
    · rw [e2] at h; cases h
    · unfold smB f_X12_sign
      simp only [hgo, hca, Option.bind_some, bv]
      rw [if_neg (fun w => e1 (c43.mp w)), if_neg (fun w => e2 (c45.mp w))]
  · have hx28 : mI (wI M1 47 26 (nI (B + (k + 1)))) 47 28 = mI M1 47 28 := mI_wI_ne (by decide)
    have hF1 : Fr Sgo M (wI M1 47 26 (nI (B + (k + 1)))) := hF.wI Sgo26
    have hb1 : mI (wI M1 47 26 (nI (B + (k + 1)))) 47 28 = 0 ∨ mI (wI M1 47 26 (nI (B + (k + 1)))) 47 28 = 1 := by
      rw [hx28]
      obtain ⟨-, -, c1⟩ := hR0
      unfold RQ at c1
      simp only at c1
      split at c1
      · cases v0 with
        | none => exact Or.inr c1.2
        | some a => exact Or.inl c1.2
      · rw [c1.2]; exact hb
    have main : ∀ gg : Int64 → Int64 → Int64, ((gg = fun x y => x + y) ∧ o = 3) ∨ ((gg = fun x y => x - y) ∧ o = 4) → TT (Option.bind (F (wI M1 47 26 (nI (B + k) + 1)) 47 (b1 live)) (fun q40 => Option.bind (f_X12_bounded q40.1 47 (gg v q40.2) (b1 live)) (fun q49 => (some (.inl (q49.1, q49.2)) : Option ((Mem × Int64) ⊕ (Mem × Int64)))))) (fun r => ∃ s', r = .inl s' ∧ RG M live B k2 (v0.bind (fun a => (valy W).bind (fun b => ap o a b))) s') := by
      intro gg hgg
      have hz : ∀ a b, S32 a → S32 b → ∃ z, gg (jj a) (jj b) = jj z ∧ R64 z ∧ ap o a b = bnd z ∧ (a = 0 → b = 0 → z = 0) := by
        intro a b ha hbb
        obtain ⟨ra, rs⟩ := R64_add ha hbb
        rcases hgg with ⟨h1, h2⟩ | ⟨h1, h2⟩
        · exact ⟨a + b, by rw [h1]; exact jj_add a b, ra, by rw [h2]; rfl, fun e1 e2 => by omega⟩
        · exact ⟨a - b, by rw [h1]; exact jj_sub a b, rs, by rw [h2]; rfl, fun e1 e2 => by omega⟩
      rw [nsucc, TT_bind]
      refine (hr _ B W (hE.fr hF1) mI_wIs hb1 live).mono ?_
      rintro ⟨M2, w⟩ hq
      have hmd := modes hb h0 hR0 hx28 hq
      obtain ⟨q1, q2, -⟩ := hq
      simp only at q1 q2 ⊢
      have fin : ∃ q, f_X12_bounded M2 47 (gg v w) (b1 live) = some q ∧ RG M live B k2 (v0.bind (fun a => (valy W).bind (fun b => ap o a b))) q := by
        rcases hmd with ⟨a, b, l1, l2, l3, l4, l5, l6, l7⟩ | ⟨a, l1, l2, l3, l4, l5, l6, l7⟩ | ⟨l1, l2, l3, l4⟩
        · obtain ⟨z, z1, z2, z3, -⟩ := hz a b (h0 a l3) (hvb W b l4)
          rw [l5, l6, l3, l4, z1]
          exact tm_fin hE.1 (hF1.tr q1) q2 (Or.inl l7) z2 (Or.inl ⟨l1, l2, l7, z3⟩)
        · obtain ⟨z, z1, z2, -, -⟩ := hz a 0 l4 S32_0
          have hn : (v0.bind (fun a => (valy W).bind (fun b => ap o a b))) = none := by
            rcases l3 with l3 | l3
            · rw [l3]; rfl
            · rw [l3]; cases v0 <;> rfl
          rw [l5, l6, hn, z1]
          exact tm_fin hE.1 (hF1.tr q1) q2 (Or.inr l7) z2 (Or.inr (Or.inl ⟨l7, fun _ _ => rfl, fun w => absurd ⟨l1, l2⟩ w⟩))
        · obtain ⟨z, z1, z2, -, z4⟩ := hz 0 0 S32_0 S32_0
          rw [l2, l3, z1]
          exact tm_fin hE.1 (hF1.tr q1) q2 (by rw [l4]; exact hb) z2 (Or.inr (Or.inr ⟨l1, l4, z4 rfl rfl⟩))
      obtain ⟨q, e1, e2⟩ := fin
      rw [e1, Option.bind_some, TT_some]
      exact ⟨q, rfl, e2⟩
    rcases opS_or (T k) with ⟨e, e2⟩ | ⟨e, e2⟩ | ⟨e1, e2, e3⟩
    · rw [e2] at h
      cases h
      unfold smB f_X12_sign
      simp only [hgo, hca, Option.bind_some, bv]
      simp only [if_pos (c43.mpr e), show ¬ (1 : Int32) = 0 by decide, if_false]
      exact main (fun x y => x + y) (Or.inl ⟨rfl, rfl⟩)
    · rw [e2] at h
      cases h
      unfold smB f_X12_sign
      simp only [hgo, hca, Option.bind_some, bv]
      have n43 : ¬ nI (rc (T k)) = 100 + 43 := fun w => by have := c43.mp w; omega
      simp only [if_neg n43, if_pos (c45.mpr e), if_true]
      exact main (fun x y => x - y) (Or.inr ⟨rfl, rfl⟩)
    · rw [e3] at h; cases h
theorem BS_term (hT : ∀ j, len ≤ j → T j = 256) {F : Mem → Nat → Int32 → Option (Mem × Int64)} : BSTEP (fun live => tmB F (b1 live)) F opT T len ord := by
  intro M B W live k v0 s hE hb hk h0 hR
  obtain ⟨M1, v⟩ := s
  have hR0 := hR
  obtain ⟨hF, hgo, -⟩ := hR
  simp only at hF hgo
  have hca := r_codeAt hT (hE.fr hF) hk
  have c42 : (nI (rc (T k)) = 100 + 42) ↔ T k = 42 := sg 42 (by decide)
  have c47 : (nI (rc (T k)) = 100 + 47) ↔ T k = 47 := sg 47 (by decide)
  have c37 : (nI (rc (T k)) = 100 + 37) ↔ T k = 37 := sg 37 (by decide)
  refine ⟨fun h => ?_, fun o k2 valy h hvb hr => ?_⟩
  · rcases opT_or (T k) with ⟨e, e2⟩ | ⟨e, e2⟩ | ⟨e, e2⟩ | ⟨e1, e2, e3, -⟩
    · rw [e2] at h; cases h
    · rw [e2] at h; cases h
    · rw [e2] at h; cases h
    · unfold tmB f_X12_sign
      simp only [hgo, hca, Option.bind_some, bv]
      rw [if_neg (fun w => e1 (c42.mp w)), if_neg (fun w => e2 (c47.mp w)), if_neg (fun w => e3 (c37.mp w))]
  · have hx28 : mI (wI M1 47 26 (nI (B + (k + 1)))) 47 28 = mI M1 47 28 := mI_wI_ne (by decide)
    have hF1 : Fr Sgo M (wI M1 47 26 (nI (B + (k + 1)))) := hF.wI Sgo26
    have hb1 : mI (wI M1 47 26 (nI (B + (k + 1)))) 47 28 = 0 ∨ mI (wI M1 47 26 (nI (B + (k + 1)))) 47 28 = 1 := by
      rw [hx28]
      obtain ⟨-, -, c1⟩ := hR0
      unfold RQ at c1
      simp only at c1
      split at c1
      · cases v0 with
        | none => exact Or.inr c1.2
        | some a => exact Or.inl c1.2
      · rw [c1.2]; exact hb
    have hn0 : ∀ a, (v0 = none ∨ valy W = none) → (v0.bind (fun a => (valy W).bind (fun b => ap o a b))) = a → a = none := by
      intro a l3 e
      rw [← e]
      rcases l3 with l3 | l3
      · rw [l3]; rfl
      · rw [l3]; cases v0 <;> rfl
    have fin : ∀ M2 w (gg : Int64 → Int64 → Int64), RG (wI M1 47 26 (nI (B + (k + 1)))) live B k2 (valy W) (M2, w) → ((gg = fun x y => x * y) ∧ o = 5) → ∃ q, f_X12_bounded M2 47 (gg v w) (b1 live) = some q ∧ RG M live B k2 (v0.bind (fun a => (valy W).bind (fun b => ap o a b))) q := by
      rintro M2 w gg hq ⟨rfl, rfl⟩
      have hmd := modes hb h0 hR0 hx28 hq
      obtain ⟨q1, q2, -⟩ := hq
      simp only at q1 q2 ⊢
      rcases hmd with ⟨a, b, l1, l2, l3, l4, l5, l6, l7⟩ | ⟨a, l1, l2, l3, l4, l5, l6, l7⟩ | ⟨l1, l2, l3, l4⟩
      · rw [l5, l6, l3, l4, jj_mul]
        exact tm_fin hE.1 (hF1.tr q1) q2 (Or.inl l7) (mul_S (h0 a l3) (hvb W b l4)) (Or.inl ⟨l1, l2, l7, rfl⟩)
      · rw [l5, l6, hn0 _ l3 rfl, jj_mul]
        exact tm_fin hE.1 (hF1.tr q1) q2 (Or.inr l7) (mul_S l4 S32_0) (Or.inr (Or.inl ⟨l7, fun _ _ => rfl, fun w => absurd ⟨l1, l2⟩ w⟩))
      · rw [l2, l3, jj_mul]
        exact tm_fin hE.1 (hF1.tr q1) q2 (by rw [l4]; exact hb) R64_0 (Or.inr (Or.inr ⟨l1, l4, rfl⟩))
    have finD : ∀ M2 w (gg : Int64 → Int64 → Int64), RG (wI M1 47 26 (nI (B + (k + 1)))) live B k2 (valy W) (M2, w) → ((gg = fun x y => x / y) ∧ o = 6) ∨ ((gg = fun x y => lr x y) ∧ o = 7) → (lg_cmp w 0 = 0 → ∃ s64, s64 = (if mI M2 47 28 = 0 then (if b1 live = 0 then (0 : Int32) else 1) else 1) ∧ ∃ q, f_X12_bounded (wI M2 47 28 s64) 47 (gg v 1) (b1 live) = some q ∧ RG M live B k2 (v0.bind (fun a => (valy W).bind (fun b => ap o a b))) q) ∧ (¬ lg_cmp w 0 = 0 → ¬ w = 0 ∧ ∃ q, f_X12_bounded M2 47 (gg v w) (b1 live) = some q ∧ RG M live B k2 (v0.bind (fun a => (valy W).bind (fun b => ap o a b))) q) := by
      intro M2 w gg hq hgg
      have hmd := modes hb h0 hR0 hx28 hq
      obtain ⟨q1, q2, -⟩ := hq
      simp only at q1 q2 ⊢
      have hz : ∀ a b, S32 a → S32 b → ∃ z, gg (jj a) (jj b) = jj z ∧ R64 z ∧ (b ≠ 0 → ap o a b = bnd z) ∧ (b = 0 → ap o a b = none) ∧ (a = 0 → b = 1 → z = 0) := by
        intro a b ha hbb
        rcases hgg with ⟨h1, h2⟩ | ⟨h1, h2⟩
        · refine ⟨a.tdiv b, by rw [h1]; exact jj_div ha hbb, (tdiv_abs a b ha).r, fun h => by rw [h2, ap6, if_neg h], fun h => by rw [h2, ap6, if_pos h], fun e1 e2 => by rw [e1, e2]; rfl⟩
        · refine ⟨a.tmod b, by rw [h1]; exact jj_rem ha hbb, (tmod_abs a b ha).r, fun h => by rw [h2, ap7, if_neg h], fun h => by rw [h2, ap7, if_pos h], fun e1 e2 => by rw [e1, e2]; rfl⟩
      have S1 : S32 1 := ⟨by decide, by decide⟩
      have g28 : ∀ x : Int32, mI (wI M2 47 26 x) 47 28 = mI M2 47 28 := fun x => mI_wI_ne (by decide)
      have f28 : ∀ x, Fr Sgo M (wI M2 47 28 x) := fun x => (hF1.tr q1).wI Sgo28
      have go28 : ∀ x, mI (wI M2 47 28 x) 47 26 = nI (B + k2) := fun x => by rw [mI_wI_ne (by decide)]; exact q2
      rcases hmd with ⟨a, b, l1, l2, l3, l4, l5, l6, l7⟩ | ⟨a, l1, l2, l3, l4, l5, l6, l7⟩ | ⟨l1, l2, l3, l4⟩
      · have hbb := hvb W b l4
        have e0 := lgc0 hbb.r R64_0
        rw [l6, l5, l3, l4]
        refine ⟨fun h => ?_, fun h => ?_⟩
        · have hb0 := e0.mp h
          obtain ⟨z, z1, z2, -, -, -⟩ := hz a 1 (h0 a l3) S1
          obtain ⟨-, -, -, -, y4, -⟩ := hz a b (h0 a l3) hbb
          refine ⟨1, by rw [if_pos l7, l1, if_neg (show ¬ b1 true = 0 by decide)], ?_⟩
          rw [show (1 : Int64) = jj 1 from rfl, z1]
          exact tm_fin hE.1 (f28 1) (go28 1) (Or.inr mI_wIs) z2 (Or.inr (Or.inl ⟨mI_wIs, fun _ _ => y4 hb0, fun w => absurd ⟨l1, l2⟩ w⟩))
        · have hb0 : ¬ b = 0 := fun w => h (e0.mpr w)
          obtain ⟨z, z1, z2, z3, -, -⟩ := hz a b (h0 a l3) hbb
          rw [z1]
          exact ⟨fun w => hb0 ((jj_inj hbb.r R64_0).mp w), tm_fin hE.1 (hF1.tr q1) q2 (Or.inl l7) z2 (Or.inl ⟨l1, l2, l7, z3 hb0⟩)⟩
      · rw [l6, l5, hn0 _ l3 rfl]
        refine ⟨fun h => ?_, fun h => absurd ((lgc0 R64_0 R64_0).mpr rfl) h⟩
        obtain ⟨z, z1, z2, -, -, -⟩ := hz a 1 l4 S1
        refine ⟨1, by rw [if_neg (by rw [l7]; decide)], ?_⟩
        rw [show (1 : Int64) = jj 1 from rfl, z1]
        exact tm_fin hE.1 (f28 1) (go28 1) (Or.inr mI_wIs) z2 (Or.inr (Or.inl ⟨mI_wIs, fun _ _ => rfl, fun w => absurd ⟨l1, l2⟩ w⟩))
      · rw [l3, l2]
        refine ⟨fun h => ?_, fun h => absurd ((lgc0 R64_0 R64_0).mpr rfl) h⟩
        obtain ⟨z, z1, z2, -, -, z5⟩ := hz 0 1 S32_0 S1
        have hs : (if mI M2 47 28 = 0 then (if b1 live = 0 then (0 : Int32) else 1) else 1) = mI M 47 28 := by
          rw [l4]
          rcases hb with hb | hb
          · rw [hb, if_pos rfl]
            cases live with
            | false => rfl
            | true => exact absurd ⟨rfl, hb⟩ l1
          · rw [hb, if_neg (by decide)]
        refine ⟨_, rfl, ?_⟩
        rw [hs, show (1 : Int64) = jj 1 from rfl, z1]
        exact tm_fin hE.1 (f28 _) (go28 _) (by rw [mI_wIs]; exact hb) z2 (Or.inr (Or.inr ⟨l1, mI_wIs, z5 rfl rfl⟩))
    have pb01 : ∀ (c1 c2 : Prop) [Decidable c1] [Decidable c2], pb (if c1 then (if c2 then (0 : Int32) else 1) else 1) := by
      intro c1 c2 i1 i2
      split
      · split
        · exact ⟨rfl, rfl⟩
        · exact ⟨rfl, rfl⟩
      · exact ⟨rfl, rfl⟩
    have dv : ∀ gg : Int64 → Int64 → Int64, ((gg = fun x y => x / y) ∧ o = 6) ∨ ((gg = fun x y => lr x y) ∧ o = 7) → TT (Option.bind (F (wI M1 47 26 (nI (B + k) + 1)) 47 (b1 live)) (fun q33 => if lg_cmp q33.2 0 = 0 then (if mI q33.1 47 28 = 0 then (if b1 live = 0 then grd (pb 0) (grd (¬ (1 : Int64) = 0) (Option.bind (f_X12_bounded (wI q33.1 47 28 0) 47 (gg v 1) (b1 live)) (fun q53 => (some (.inl (q53.1, q53.2)) : Option ((Mem × Int64) ⊕ (Mem × Int64)))))) else grd (pb 1) (grd (¬ (1 : Int64) = 0) (Option.bind (f_X12_bounded (wI q33.1 47 28 1) 47 (gg v 1) (b1 live)) (fun q53 => some (.inl (q53.1, q53.2)))))) else grd (pb 1) (grd (¬ (1 : Int64) = 0) (Option.bind (f_X12_bounded (wI q33.1 47 28 1) 47 (gg v 1) (b1 live)) (fun q53 => some (.inl (q53.1, q53.2)))))) else grd (¬ q33.2 = 0) (Option.bind (f_X12_bounded q33.1 47 (gg v q33.2) (b1 live)) (fun q53 => some (.inl (q53.1, q53.2)))))) (fun r => ∃ s', r = .inl s' ∧ RG M live B k2 (v0.bind (fun a => (valy W).bind (fun b => ap o a b))) s') := by
      intro gg hgg
      rw [nsucc, TT_bind]
      refine (hr _ B W (hE.fr hF1) mI_wIs hb1 live).mono ?_
      rintro ⟨M2, w⟩ hq
      obtain ⟨fA, fB⟩ := finD M2 w gg hq hgg
      simp only
      rw [TT_if]
      refine ⟨fun h => ?_, fun h => ?_⟩
      · obtain ⟨s64, e0, q, e1, e2⟩ := fA h
        have n1 : ¬ (1 : Int64) = 0 := by decide
        by_cases w1 : mI M2 47 28 = 0
        · rw [if_pos w1] at e0 ⊢
          by_cases w2 : b1 live = 0
          · rw [if_pos w2] at e0 ⊢
            rw [e0] at e1
            rw [grd_y ⟨rfl, rfl⟩, grd_y n1, e1, Option.bind_some, TT_some]
            exact ⟨q, rfl, e2⟩
          · rw [if_neg w2] at e0 ⊢
            rw [e0] at e1
            rw [grd_y ⟨rfl, rfl⟩, grd_y n1, e1, Option.bind_some, TT_some]
            exact ⟨q, rfl, e2⟩
        · rw [if_neg w1] at e0 ⊢
          rw [e0] at e1
          rw [grd_y ⟨rfl, rfl⟩, grd_y n1, e1, Option.bind_some, TT_some]
          exact ⟨q, rfl, e2⟩
      · obtain ⟨e0, q, e1, e2⟩ := fB h
        rw [grd_y e0, e1, Option.bind_some, TT_some]
        exact ⟨q, rfl, e2⟩
    rcases opT_or (T k) with ⟨e, e2⟩ | ⟨e, e2⟩ | ⟨e, e2⟩ | ⟨e1, e2, e3, e4⟩
    · rw [e2] at h
      cases h
      unfold tmB f_X12_sign
      simp only [hgo, hca, Option.bind_some, bv, if_pos (c42.mpr e)]
      rw [nsucc, TT_bind]
      refine (hr _ B W (hE.fr hF1) mI_wIs hb1 live).mono ?_
      rintro ⟨M2, w⟩ hq
      obtain ⟨q, e1, e2⟩ := fin M2 w (fun x y => x * y) hq ⟨rfl, rfl⟩
      simp only at e1 ⊢
      rw [e1, Option.bind_some, TT_some]
      exact ⟨q, rfl, e2⟩
    · rw [e2] at h
      cases h
      have n42 : ¬ nI (rc (T k)) = 100 + 42 := fun w => by have := c42.mp w; omega
      unfold tmB f_X12_sign
      simp only [hgo, hca, Option.bind_some, bv, if_neg n42, if_pos (c47.mpr e)]
      exact dv (fun x y => x / y) (Or.inl ⟨rfl, rfl⟩)
    · rw [e2] at h
      cases h
      have n42 : ¬ nI (rc (T k)) = 100 + 42 := fun w => by have := c42.mp w; omega
      have n47 : ¬ nI (rc (T k)) = 100 + 47 := fun w => by have := c47.mp w; omega
      unfold tmB f_X12_sign
      simp only [hgo, hca, Option.bind_some, bv, if_neg n42, if_neg n47, if_pos (c37.mpr e)]
      exact dv (fun x y => lr x y) (Or.inr ⟨rfl, rfl⟩)
    · rw [e4] at h; cases h
end
