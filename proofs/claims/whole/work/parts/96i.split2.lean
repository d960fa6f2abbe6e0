/-! the reference cuts the tokens, whole -/
noncomputable def spJ (M1 : Mem) (x18 sk s31 : Int32) : Option ((Mem × Int32) ⊕ Mem) := Option.bind (mR M1 47 21) (fun r34 => grd (okO M1 14 r34) (grd (vp_in (mI M1 47 22) (mL M1 r34)) (bv (wI M1 r34 (mI M1 47 22).toNatClampNeg sk) (fun M37 => Option.bind (mR M37 47 20) (fun r41 => grd (okO M37 14 r41) (grd (vp_in (mI M37 47 22) (mL M37 r41)) (bv (wI M37 r41 (mI M37 47 22).toNatClampNeg 0) (fun M44 => Option.bind (mR M44 47 19) (fun r48 => Option.bind (f_X12_isSmall x18) (fun q49 => bv (fun (s53 : Int32) => grd (okO M44 14 r48) (grd (vp_in (mI M44 47 22) (mL M44 r48)) (bv (wI M44 r48 (mI M44 47 22).toNatClampNeg s53) (fun M58 => Option.bind (loopO (vlB x18 s31) (M58, sk)) (fun (x69 : Mem) => bv (wI x69 47 22 ((mI x69 47 22) + 1)) (fun M99 => some (.inl (M99, s31)))))))) (fun j52 => if q49 = 0 then (Option.bind (f_X12_isDigit x18) (fun q103 => if q103 = 0 then (j52 (100 + (x18 &&& 255))) else (j52 50))) else (Option.bind (f_X12_wordOf M44 47 sk s31) (fun q106 => j52 q106)))))))))))))
noncomputable def spB (p1 : Int32) : Mem × Int32 → Option ((Mem × Int32) ⊕ Mem) := (fun s6 => if p1 ≤ s6.2 then (some (.inr s6.1)) else (Option.bind (mR s6.1 47 15) (fun r15 => grd (okO s6.1 13 r15) (grd (vp_in s6.2 (mL s6.1 r15)) (bv (mI s6.1 r15 s6.2.toNatClampNeg : Int32) (fun x18 => if x18 = 32 then (bv (s6.2 + 1 : Int32) (fun x139 => some (.inl (s6.1, x139)))) else (bv (s6.2 + 1 : Int32) (fun x19 => Option.bind (f_X12_isSmall x18) (fun q20 => bv (fun (s24 : Int32) => Option.bind (f_X12_isDigit x18) (fun q27 => bv (fun (s31 : Int32) => Option.bind (mR s6.1 47 21) (fun r34 => grd (okO s6.1 14 r34) (grd (vp_in (mI s6.1 47 22) (mL s6.1 r34)) (bv (wI s6.1 r34 (mI s6.1 47 22).toNatClampNeg s6.2) (fun M37 => Option.bind (mR M37 47 20) (fun r41 => grd (okO M37 14 r41) (grd (vp_in (mI M37 47 22) (mL M37 r41)) (bv (wI M37 r41 (mI M37 47 22).toNatClampNeg 0) (fun M44 => Option.bind (mR M44 47 19) (fun r48 => Option.bind (f_X12_isSmall x18) (fun q49 => bv (fun (s53 : Int32) => grd (okO M44 14 r48) (grd (vp_in (mI M44 47 22) (mL M44 r48)) (bv (wI M44 r48 (mI M44 47 22).toNatClampNeg s53) (fun M58 => Option.bind (loopO (σ := Mem × Int32) (ρ := Mem) (fun s62 => if s31 ≤ s62.2 then (some (.inr s62.1)) else (Option.bind (f_X12_isDigit x18) (fun q71 => if q71 = 0 then (some (.inr s62.1)) else (Option.bind (mR s62.1 47 20) (fun r74 => Option.bind (mR s62.1 47 20) (fun r75 => grd (okO s62.1 14 r75) (grd (vp_in (mI s62.1 47 22) (mL s62.1 r75)) (bv (fun (s79 : Int32) => grd (okO s62.1 14 r74) (grd (vp_in (mI s62.1 47 22) (mL s62.1 r74)) (bv (wI s62.1 r74 (mI s62.1 47 22).toNatClampNeg s79) (fun M84 => bv (s62.2 + 1 : Int32) (fun x88 => some (.inl (M84, x88))))))) (fun j78 => if (mI s62.1 r75 (mI s62.1 47 22).toNatClampNeg) ≤ 1000000 then (Option.bind (mR s62.1 47 20) (fun r89 => grd (okO s62.1 14 r89) (grd (vp_in (mI s62.1 47 22) (mL s62.1 r89)) (Option.bind (mR s62.1 47 15) (fun r92 => grd (okO s62.1 13 r92) (grd (vp_in s62.2 (mL s62.1 r92)) (j78 (((10 * (mI s62.1 r89 (mI s62.1 47 22).toNatClampNeg)) + (mI s62.1 r92 s62.2.toNatClampNeg)) - 48)))))))) else (Option.bind (mR s62.1 47 20) (fun r95 => grd (okO s62.1 14 r95) (grd (vp_in (mI s62.1 47 22) (mL s62.1 r95)) (j78 (mI s62.1 r95 (mI s62.1 47 22).toNatClampNeg)))))))))))))) (M58, s6.2)) (fun (x69 : Mem) => bv (wI x69 47 22 ((mI x69 47 22) + 1)) (fun M99 => some (.inl (M99, s31)))))))) (fun j52 => if q49 = 0 then (Option.bind (f_X12_isDigit x18) (fun q103 => if q103 = 0 then (j52 (100 + (x18 &&& 255))) else (j52 50))) else (Option.bind (f_X12_wordOf M44 47 s6.2 s31) (fun q106 => j52 q106)))))))))))))) (fun j30 => if q27 = 0 then (j30 s24) else (Option.bind (loopO (σ := Int32) (ρ := Int32) (fun s109 => if p1 ≤ s109 then (some (.inr s109)) else (Option.bind (mR s6.1 47 15) (fun r117 => grd (okO s6.1 13 r117) (grd (vp_in s109 (mL s6.1 r117)) (Option.bind (f_X12_isDigit (mI s6.1 r117 s109.toNatClampNeg)) (fun q120 => if q120 = 0 then (some (.inr s109)) else (bv (s109 + 1 : Int32) (fun x123 => some (.inl x123))))))))) s24) (fun (x115 : Int32) => j30 x115))))) (fun j23 => if q20 = 0 then (j23 x19) else (Option.bind (loopO (σ := Int32) (ρ := Int32) (fun s124 => if p1 ≤ s124 then (some (.inr s124)) else (Option.bind (mR s6.1 47 15) (fun r132 => grd (okO s6.1 13 r132) (grd (vp_in s124 (mL s6.1 r132)) (Option.bind (f_X12_isSmall (mI s6.1 r132 s124.toNatClampNeg)) (fun q135 => if q135 = 0 then (some (.inr s124)) else (bv (s124 + 1 : Int32) (fun x138 => some (.inl x138))))))))) x19) (fun (x130 : Int32) => j23 x130))))))))))))
theorem spB_eq {p1 : Int32} {s6 : Mem × Int32} : spB p1 s6 = if p1 ≤ s6.2 then (some (.inr s6.1)) else (Option.bind (mR s6.1 47 15) (fun r15 => grd (okO s6.1 13 r15) (grd (vp_in s6.2 (mL s6.1 r15)) (bv (mI s6.1 r15 s6.2.toNatClampNeg : Int32) (fun x18 => if x18 = 32 then (bv (s6.2 + 1 : Int32) (fun x139 => some (.inl (s6.1, x139)))) else (bv (s6.2 + 1 : Int32) (fun x19 => Option.bind (f_X12_isSmall x18) (fun q20 => bv (fun (s24 : Int32) => Option.bind (f_X12_isDigit x18) (fun q27 => bv (fun (s31 : Int32) => spJ s6.1 x18 s6.2 s31) (fun j30 => if q27 = 0 then (j30 s24) else (Option.bind (loopO (σ := Int32) (ρ := Int32) (fun s109 => if p1 ≤ s109 then (some (.inr s109)) else (Option.bind (mR s6.1 47 15) (fun r117 => grd (okO s6.1 13 r117) (grd (vp_in s109 (mL s6.1 r117)) (Option.bind (f_X12_isDigit (mI s6.1 r117 s109.toNatClampNeg)) (fun q120 => if q120 = 0 then (some (.inr s109)) else (bv (s109 + 1 : Int32) (fun x123 => some (.inl x123))))))))) s24) (fun (x115 : Int32) => j30 x115))))) (fun j23 => if q20 = 0 then (j23 x19) else (Option.bind (loopO (σ := Int32) (ρ := Int32) (fun s124 => if p1 ≤ s124 then (some (.inr s124)) else (Option.bind (mR s6.1 47 15) (fun r132 => grd (okO s6.1 13 r132) (grd (vp_in s124 (mL s6.1 r132)) (Option.bind (f_X12_isSmall (mI s6.1 r132 s124.toNatClampNeg)) (fun q135 => if q135 = 0 then (some (.inr s124)) else (bv (s124 + 1 : Int32) (fun x138 => some (.inl x138))))))))) x19) (fun (x130 : Int32) => j23 x130))))))))))) := rfl
section
variable {M : Mem} {n : Nat} {bt : Nat → Nat}
theorem sp_step (hM : LayM M) (ht : TAPR M n bt) {k : Nat} (hk : k < n) (h32 : bt k ≠ 32) : spB (nI n) (M, nI k) = spJ M (sgB (bt k)) (nI k) (nI (endT bt n k)) := by
  have h400 := ht.1
  have hb := ht.2.2.2 k hk
  have hM2 := hM
  unfold LayM at hM2
  have rs := TT.is (r_run1 hM ht (kd := 0) (ff := f_X12_isSmall) sg_small n (k + 1) (by omega) (by omega))
  have rd := TT.is (r_run1 hM ht (kd := 1) (ff := f_X12_isDigit) sg_digit n (k + 1) (by omega) (by omega))
  rw [spB_eq]
  simp only [hM2, grd_T, Option.bind_some, bv] at rs rd ⊢
  rw [if_neg (fun w => by have := (nleI (by omega) (by omega)).mp w; omega), grd_y ((nvp (by omega)).mpr (by omega)), nclampI (by omega), hb.2.2, if_neg (fun w => h32 ((sg_32 _ hb.1).mp w)), sg_small _ hb.1, sg_digit _ hb.1, nsucc]
  simp only [Option.bind_some]
  unfold endT
  have n10 : ¬ b1 true = 0 := by decide
  have y0 : b1 false = 0 := rfl
  rcases kd_cases (bt k) with e | e | e
  · have d1 : decide (kdB (bt k) = 0) = true := decide_eq_true e
    have d2 : decide (kdB (bt k) = 1) = false := decide_eq_false (by omega)
    simp only [d1, d2, n10, y0, if_true, if_false]
    rw [rs, Option.bind_some, if_neg (by omega), e]
  · have d1 : decide (kdB (bt k) = 0) = false := decide_eq_false (by omega)
    have d2 : decide (kdB (bt k) = 1) = true := decide_eq_true e
    simp only [d1, d2, n10, y0, if_true, if_false]
    rw [rd, Option.bind_some, if_neg (by omega), e]
  · have d1 : decide (kdB (bt k) = 0) = false := decide_eq_false (by omega)
    have d2 : decide (kdB (bt k) = 1) = false := decide_eq_false (by omega)
    simp only [d1, d2, y0, if_true]
    rw [if_pos e]
theorem sp_blank (hM : LayM M) (ht : TAPR M n bt) {k : Nat} (hk : k < n) (h32 : bt k = 32) : spB (nI n) (M, nI k) = some (.inl (M, nI (k + 1))) := by
  have h400 := ht.1
  have hb := ht.2.2.2 k hk
  have hM2 := hM
  unfold LayM at hM2
  rw [spB_eq]
  simp only [hM2, grd_T, Option.bind_some, bv]
  rw [if_neg (fun w => by have := (nleI (by omega) (by omega)).mp w; omega), grd_y ((nvp (by omega)).mpr (by omega)), nclampI (by omega), hb.2.2, if_pos ((sg_32 _ hb.1).mpr h32), nsucc]
/-- a token more -/
theorem sp_J (hM : LayM M) (hR : RWB M) (ht : TAPR M n bt) {k t : Nat} (hk : k < n) (h22 : mI M 47 22 = nI t) (ht4 : t < 400) : TT (spJ M (sgB (bt k)) (nI k) (nI (endT bt n k))) (fun r => ∃ M', r = .inl (M', nI (endT bt n k)) ∧ Fr Ssp M M' ∧ mI M' 47 22 = nI (t + 1) ∧ mI M' 58 t = nI (rc (tokC bt n k)) ∧ mI M' 60 t = nI k ∧ (kdB (bt k) = 1 → mI M' 59 t = nI (nmR bt k (endT bt n k - k))) ∧ ∀ j, j ≠ t → mI M' 58 j = mI M 58 j ∧ mI M' 59 j = mI M 59 j ∧ mI M' 60 j = mI M 60 j) := by
  have h400 := ht.1
  have hb := ht.2.2.2 k hk
  have he := endT_le (bt := bt) hk
  have hM2 := hM
  unfold LayM at hM2
  have g4 : ∀ {z : Option ((Mem × Int32) ⊕ Mem)}, grd (vp_in (nI t) 401) z = z := grd_y ((nvp (by omega)).mpr (by omega))
  unfold spJ
  simp only [hM2, grd_T, Option.bind_some, bv, mR_wI, ok_wI, mL_wI, h22, g4, mI_wI_row (show (47 : Nat) ≠ 60 by decide), mI_wI_row (show (47 : Nat) ≠ 59 by decide), sg_small _ hb.1, sg_digit _ hb.1]
  rw [nclampI (a := t) (by omega)]
  generalize hM1 : wI (wI M 60 t (nI k)) 59 t 0 = M1
  have hF1 : Fr Ssp M M1 := by rw [← hM1]; exact (Fr.rf.wI (Or.inr (Or.inr (Or.inl rfl)))).wI (Or.inr (Or.inl rfl))
  have ht1 := ht.fr hF1 ssp_t
  have hR1 : RWB M1 := fun i hi => by rw [hF1.i (by unfold Ssp; omega)]; exact hR i hi
  -- with the code
  have main : ∀ s53 : Int32, s53 = nI (rc (tokC bt n k)) → TT (Option.bind (loopO (vlB (sgB (bt k)) (nI (endT bt n k))) (wI M1 58 t s53, nI k)) (fun x69 => (some (.inl (wI x69 47 22 (mI x69 47 22 + 1), nI (endT bt n k))) : Option ((Mem × Int32) ⊕ Mem)))) (fun r => ∃ M', r = .inl (M', nI (endT bt n k)) ∧ Fr Ssp M M' ∧ mI M' 47 22 = nI (t + 1) ∧ mI M' 58 t = nI (rc (tokC bt n k)) ∧ mI M' 60 t = nI k ∧ (kdB (bt k) = 1 → mI M' 59 t = nI (nmR bt k (endT bt n k - k))) ∧ ∀ j, j ≠ t → mI M' 58 j = mI M 58 j ∧ mI M' 59 j = mI M 59 j ∧ mI M' 60 j = mI M 60 j) := by
    rintro s53 rfl
    have hF2 : Fr Ssp M (wI M1 58 t (nI (rc (tokC bt n k)))) := hF1.wI (Or.inl rfl)
    have k58 : mI (wI M1 58 t (nI (rc (tokC bt n k)))) 58 t = nI (rc (tokC bt n k)) := mI_wIs
    have k59 : mI (wI M1 58 t (nI (rc (tokC bt n k)))) 59 t = 0 := by rw [mI_wI_row (by decide), ← hM1, mI_wIs]
    have k60 : mI (wI M1 58 t (nI (rc (tokC bt n k)))) 60 t = nI k := by rw [mI_wI_row (by decide), ← hM1, mI_wI_row (by decide), mI_wIs]
    have kk : ∀ j, j ≠ t → mI (wI M1 58 t (nI (rc (tokC bt n k)))) 58 j = mI M 58 j ∧ mI (wI M1 58 t (nI (rc (tokC bt n k)))) 59 j = mI M 59 j ∧ mI (wI M1 58 t (nI (rc (tokC bt n k)))) 60 j = mI M 60 j := by
      intro j hj
      rw [mI_wI_ne hj, mI_wI_row (b := 59) (by decide), mI_wI_row (b := 60) (by decide), ← hM1, mI_wI_row (b := 58) (by decide), mI_wI_row (b := 58) (by decide), mI_wI_ne hj, mI_wI_row (b := 59) (by decide), mI_wI_row (b := 60) (by decide), mI_wI_ne hj]
      exact ⟨rfl, rfl, rfl⟩
    have h22' : mI (wI M1 58 t (nI (rc (tokC bt n k)))) 47 22 = nI t := by
      rw [mI_wI_row (by decide), ← hM1, mI_wI_row (by decide), mI_wI_row (by decide)]
      exact h22
    generalize wI M1 58 t (nI (rc (tokC bt n k))) = M2 at *
    rw [TT_bind]
    refine (r_value (hM.fr hF2) (ht.fr hF2 ssp_t) (Nat.le_of_lt he.1) he.2 h22' (by omega) k59 hb.1).mono ?_
    rintro M3 ⟨hF3, hv⟩
    have e3 : ∀ a j, ¬ (a = 59 ∧ j = t) → mI M3 a j = mI M2 a j := fun a j h => hF3.i h
    rw [TT_some]
    refine ⟨_, rfl, (hF2.tr (hF3.up (fun a k w => Or.inr (Or.inl w.1)))).wI (Or.inr (Or.inr (Or.inr ⟨rfl, rfl⟩))), by rw [mI_wIs, e3 47 22 (by omega), h22', nsucc], by rw [mI_wI_row (by decide), e3 58 t (by omega), k58], by rw [mI_wI_row (by decide), e3 60 t (by omega), k60], fun e => ?_, fun j hj => ?_⟩
    · rw [mI_wI_row (by decide)]
      exact hv e (fun i h1 h2 => kd_dig (by rw [endT_kd h1 h2]; exact e))
    · rw [mI_wI_row (b := 58) (by decide), mI_wI_row (b := 59) (by decide), mI_wI_row (b := 60) (by decide), e3 58 j (by omega), e3 59 j (by omega), e3 60 j (by omega)]
      exact kk j hj
  rcases kd_cases (bt k) with e | e | e
  · have d1 : decide (kdB (bt k) = 0) = true := decide_eq_true e
    rw [d1, if_neg (show ¬ b1 true = 0 by decide), r_wordOf (hM.fr hF1) hR1 ht1 (Nat.le_of_lt he.1) he.2, Option.bind_some]
    refine main _ ?_
    unfold tokC
    rw [e, if_neg (by decide), if_pos rfl, wTok_rc]
  · have d1 : decide (kdB (bt k) = 0) = false := decide_eq_false (by omega)
    have d2 : decide (kdB (bt k) = 1) = true := decide_eq_true e
    rw [d1, d2, if_pos (show b1 false = 0 from rfl), if_neg (show ¬ b1 true = 0 by decide)]
    refine main _ ?_
    unfold tokC
    rw [e, if_neg (by decide), if_neg (by decide), rc_num.mpr (by omega)]
    rfl
  · have d1 : decide (kdB (bt k) = 0) = false := decide_eq_false (by omega)
    have d2 : decide (kdB (bt k) = 1) = false := decide_eq_false (by omega)
    rw [d1, d2, if_pos (show b1 false = 0 from rfl), if_pos (show b1 false = 0 from rfl), sg_255 _ hb.1, show (100 : Int32) = nI 100 from rfl, nadd]
    refine main _ ?_
    unfold tokC
    rw [e, if_pos rfl, (rc_byte hb.1).mpr rfl]
theorem r_splits (hM : LayM M) (hR : RWB M) (ht : TAPR M n bt) : TT (f_X12_splits M 47 (nI n)) (fun M' => Fr Ssp M M' ∧ mI M' 47 22 = nI (tkL bt n) ∧ ∀ j, j ≤ tkL bt n → SPT M' bt n j) := by
  have h400 := ht.1
  have hb : ∀ i, i < n → bt i < 256 := fun i hi => (ht.2.2.2 i hi).1
  have hM2 := hM
  unfold LayM at hM2
  have e0 : f_X12_splits M 47 (nI n) = Option.bind (loopO (spB (nI n)) (wI M 47 22 0, 0)) (fun (x13 : Mem) => Option.bind (mR x13 47 21) (fun r141 => grd (okO x13 14 r141) (grd (vp_in (mI x13 47 22) (mL x13 r141)) (bv (wI x13 r141 (mI x13 47 22).toNatClampNeg (nI n)) (fun M144 => Option.bind (mR M144 47 19) (fun r148 => grd (okO M144 14 r148) (grd (vp_in (mI M144 47 22) (mL M144 r148)) (bv (wI M144 r148 (mI M144 47 22).toNatClampNeg 0) (fun M151 => Option.bind (mR M151 47 20) (fun r155 => grd (okO M151 14 r155) (grd (vp_in (mI M151 47 22) (mL M151 r155)) (bv (wI M151 r155 (mI M151 47 22).toNatClampNeg 0) (fun M158 => some M158))))))))))))) := grd_y hM2.1
  rw [e0, TT_bind]
  refine TT.mono (Q := fun M1 => Fr Ssp M M1 ∧ mI M1 47 22 = nI (tkL bt n) ∧ ∀ j, j < tkL bt n → SPT M1 bt n j) ?_ ?_
  · refine TT_loop (fun s => ∃ (pre : List (Nat × Nat)) (k : Nat), pre ++ cutA bt n k = cutA bt n 0 ∧ s.2 = nI k ∧ k ≤ n ∧ pre.length ≤ k ∧ Fr Ssp M s.1 ∧ mI s.1 47 22 = nI pre.length ∧ ∀ j, j < pre.length → SPT s.1 bt n j) (fun s => n - s.2.toNatClampNeg) ?_ _ ⟨[], 0, rfl, rfl, by omega, by simp, Fr.rf.wI (Or.inr (Or.inr (Or.inr ⟨rfl, rfl⟩))), mI_wIs, fun j hj => by cases hj⟩
    rintro ⟨M1, x⟩ ⟨pre, k, hpre, hx, hk, hpk, hF, h22, hrow⟩
    simp only at hx hF h22 hrow
    subst hx
    have hM1 := hM.fr hF
    have ht1 := ht.fr hF ssp_t
    have hR1 : RWB M1 := fun i hi => by rw [hF.i (by unfold Ssp; omega)]; exact hR i hi
    by_cases q : n ≤ k
    · obtain rfl : k = n := by omega
      rw [cutA_end (Nat.le_refl _), List.append_nil] at hpre
      have e : tkL bt k = pre.length := by unfold tkL; rw [hpre]
      have e1 : spB (nI k) (M1, nI k) = some (.inr M1) := by
        rw [spB_eq]
        simp only
        rw [if_pos ((nleI (by omega) (by omega)).mpr (Nat.le_refl _))]
      rw [e1, TT_some]
      exact ⟨hF, by rw [e]; exact h22, fun j hj => hrow j (by rw [← e]; exact hj)⟩
    · have hkn : k < n := by omega
      have he := endT_le (bt := bt) hkn
      by_cases q2 : bt k = 32
      · have e2 : endT bt n k = k + 1 := by
          unfold endT
          rw [if_pos (kd_32 q2)]
        rw [sp_blank hM1 ht1 hkn q2, TT_some]
        refine ⟨⟨pre, k + 1, by rw [← e2, ← cutA_blank hkn q2]; exact hpre, rfl, by omega, by omega, hF, h22, hrow⟩, ?_⟩
        simp only
        rw [nclampI (by omega), nclampI (by omega)]
        omega
      · rw [sp_step hM1 ht1 hkn q2]
        refine (sp_J hM1 hR1 ht1 hkn h22 (by omega)).mono ?_
        rintro _ ⟨M2, rfl, a1, a2, a3, a4, a5, a6⟩
        have hg : (cutA bt n 0)[pre.length]? = some (tokC bt n k, k) := by
          rw [← hpre, cutA_tok hkn q2, List.getElem?_append_right (Nat.le_refl _), Nat.sub_self]
          rfl
        have eT : tkT bt n pre.length = tokC bt n k := by unfold tkT; rw [hg]; rfl
        have eP : tkP bt n pre.length = k := by unfold tkP; rw [hg]; rfl
        refine ⟨⟨pre ++ [(tokC bt n k, k)], endT bt n k, by rw [← hpre, cutA_tok hkn q2]; simp, rfl, he.2, by rw [List.length_append, List.length_singleton]; omega, hF.tr a1, by rw [List.length_append, List.length_singleton]; exact a2, fun j hj => ?_⟩, ?_⟩
        · rw [List.length_append, List.length_singleton] at hj
          by_cases w : j = pre.length
          · subst w
            refine ⟨by rw [a3, eT], by rw [a4, eP], fun h1000 => ?_⟩
            rw [eT] at h1000 ⊢
            have kd1 : kdB (bt k) = 1 := by
              have hbk := hb k hkn
              unfold tokC at h1000
              rcases kd_cases (bt k) with e | e | e
              · rw [e, if_neg (by decide), if_pos rfl] at h1000
                have := wTok_lt (slB bt k (endT bt n k))
                omega
              · exact e
              · rw [e, if_pos rfl] at h1000
                omega
            have et : tokC bt n k = 1000 + nmC bt k (endT bt n k - k) := by
              unfold tokC
              rw [kd1, if_neg (by decide), if_neg (by decide)]
            obtain ⟨n1, n2⟩ := nm_eq (bt := bt) (a := k) (m := endT bt n k - k) (fun i hi => kd_dig (by rw [endT_kd (n := n) (k := k) (i := k + i) (by omega) (by omega)]; exact kd1))
            exact ⟨nmR bt k (endT bt n k - k), by omega, a5 kd1, fun h => by omega, fun h => by omega⟩
          · obtain ⟨b1', b2, b3⟩ := a6 j w
            unfold SPT
            rw [b1', b2, b3]
            exact hrow j (by omega)
        · simp only
          rw [nclampI (by omega), nclampI (by omega)]
          omega
  · rintro M1 ⟨hF, h22, hrow⟩
    have hM1 := hM.fr hF
    have hle := tkL_le (bt := bt) (n := n)
    unfold LayM at hM1
    have g4 : ∀ {z : Option Mem}, grd (vp_in (nI (tkL bt n)) 401) z = z := grd_y ((nvp (by omega)).mpr (by omega))
    simp only [hM1, grd_T, Option.bind_some, bv, mR_wI, ok_wI, mL_wI, h22, g4, mI_wI_row (show (47 : Nat) ≠ 60 by decide), mI_wI_row (show (47 : Nat) ≠ 58 by decide)]
    rw [nclampI (by omega), TT_some]
    have hFF : Fr Ssp M (wI (wI (wI M1 60 (tkL bt n) (nI n)) 58 (tkL bt n) 0) 59 (tkL bt n) 0) := ((hF.wI (Or.inr (Or.inr (Or.inl rfl)))).wI (Or.inl rfl)).wI (Or.inr (Or.inl rfl))
    refine ⟨hFF, by rw [mI_wI_row (by decide), mI_wI_row (by decide), mI_wI_row (by decide)]; exact h22, fun j hj => ?_⟩
    unfold SPT
    rw [mI_wI_row (b := 58) (by decide), mI_wI_row (b := 60) (by decide), mI_wI_row (b := 60) (by decide)]
    by_cases w : j = tkL bt n
    · subst w
      rw [mI_wIs, mI_wIs, tkT_end (Nat.le_refl _)]
      refine ⟨by rw [rc_256]; rfl, ?_, fun h => by omega⟩
      unfold tkP
      rw [List.getElem?_eq_none (show (cutA bt n 0).length ≤ tkL bt n from Nat.le_refl _)]
      rfl
    · have := hrow j (by omega)
      unfold SPT at this
      simp only [mI_wI_ne w]
      exact this
end
