/-! back() on both sides -/
noncomputable def bkB (p1 : Int32) (a0 : Nat) : Mem × Int32 → Option ((Mem × Int32) ⊕ (Mem)) := (fun s8 => if 5666 ≤ s8.2 then (some (.inr s8.1)) else (Option.bind (mR s8.1 a0 3) (fun r17 => Option.bind (mR s8.1 a0 4) (fun r18 => grd (okO s8.1 14 r18) (grd (vp_in ((5666 * p1) + s8.2) (mL s8.1 r18)) (grd (okO s8.1 14 r17) (grd (vp_in s8.2 (mL s8.1 r17)) (bv (wI s8.1 r17 s8.2.toNatClampNeg (mI s8.1 r18 ((5666 * p1) + s8.2).toNatClampNeg)) (fun M23 => bv (s8.2 + 1 : Int32) (fun x27 => some (.inl (M23, x27))))))))))))
noncomputable def imB (p1 : Int32) (a0 : Nat) : Mem × Int32 → Option ((Mem × Int32) ⊕ (Mem)) := (fun s4 => if 5666 ≤ s4.2 then (some (.inr s4.1)) else (grd (okO s4.1 12 a0) (Option.bind (mR s4.1 a0 4) (fun r13 => Option.bind (mR s4.1 a0 3) (fun r14 => grd (okO s4.1 14 r14) (grd (vp_in s4.2 (mL s4.1 r14)) (grd (okO s4.1 14 r13) (grd (vp_in ((5666 * p1) + s4.2) (mL s4.1 r13)) (bv (wI s4.1 r13 ((5666 * p1) + s4.2).toNatClampNeg (mI s4.1 r14 s4.2.toNatClampNeg)) (fun M19 => bv (s4.2 + 1 : Int32) (fun x23 => some (.inl (M19, x23)))))))))))))
theorem rback_eq {M : Mem} {p1 : Int32} : f_X12_back M 47 p1 = Option.bind (f_X12_lies p1 0 1) (fun q1 => if q1 = 0 then (grd (okO M 12 47) (Option.bind (f_X12_refuses M 47 (-1)) (fun q40 => some (q40.1, q40.2)))) else (grd (okO M 12 47) (Option.bind (mR M 47 5) (fun r5 => grd (okO M 17 r5) (grd (vp_in p1 (mL M r5)) (if (mI M r5 p1.toNatClampNeg) = 0 then (Option.bind (f_X12_refuses M 47 (-2)) (fun q34 => some (q34.1, q34.2))) else (Option.bind (loopO (bkB p1 47) (M, 0)) (fun (x15 : Mem) => Option.bind (f_X12_good x15 47 0) (fun q29 => some (q29.1, q29.2)))))))))) := rfl
theorem rimage_eq {M : Mem} {p1 : Int32} : f_X12_image M 47 p1 = Option.bind (f_X12_lies p1 0 1) (fun q1 => if q1 = 0 then (grd (okO M 12 47) (Option.bind (f_X12_refuses M 47 (-1)) (fun q38 => some (q38.1, q38.2)))) else (Option.bind (loopO (imB p1 47) (M, 0)) (fun (x10 : Mem) => grd (okO x10 12 47) (Option.bind (mR x10 47 5) (fun r25 => grd (okO x10 17 r25) (grd (vp_in p1 (mL x10 r25)) (bv (wI x10 r25 p1.toNatClampNeg (vp_nar .boolean 1)) (fun M28 => Option.bind (f_X12_good M28 47 0) (fun q32 => some (q32.1, q32.2)))))))))) := rfl
def S49 (a _k : Nat) : Prop := a = 49
theorem r_back_L {M : Mem} (hM : LayM M) {k : Nat} (hk : k < 2) : TT (loopO (bkB (nI k) 47) (M, 0)) (fun M1 => Fr S49 M M1 ∧ ∀ i, i < 5666 → mI M1 49 i = IMK M k i) := by
  refine TT_for 5666 (fun j s => s.2 = nI j ∧ Fr S49 M s.1 ∧ ∀ i, i < j → mI s.1 49 i = IMK M k i) ?_ (Nat.zero_le _) ⟨rfl, Fr.rf, fun i hi => by omega⟩
  rintro j ⟨M1, i⟩ hj ⟨q1, q2, q3⟩
  simp only at q1 q2 q3
  subst q1
  unfold bkB
  simp only
  by_cases w : j < 5666
  · have hM1 := hM.fr q2
    unfold LayM at hM1
    have e5 : (5666 : Int32) * nI k + nI j = nI (5666 * k + j) := by rw [show (5666 : Int32) = nI 5666 from rfl, nmul, nadd]
    rw [if_neg (fun q => by rw [show (5666 : Int32) = nI 5666 from rfl] at q; have := (nleI (by omega) (by omega)).mp q; omega)]
    simp only [hM1, grd_T, Option.bind_some, bv]
    rw [e5, grd_y ((nvp (a := 5666 * k + j) (by omega)).mpr (by omega)), grd_y ((nvp (a := j) (by omega)).mpr (by omega)), nclampI (a := j) (by omega), nclampI (a := 5666 * k + j) (by omega), q2.i (a := 50) (by unfold S49; omega), nsucc, TT_some]
    refine ⟨w, rfl, q2.wI rfl, fun i hi => ?_⟩
    show mI (wI M1 49 j _) 49 i = _
    by_cases e : i = j
    · subst e
      rw [mI_wIs]
      rfl
    · rw [mI_wI_ne e]
      exact q3 i (by omega)
  · have ej : j = 5666 := by omega
    subst ej
    rw [if_pos (by decide), TT_some]
    exact ⟨q2, q3⟩
def S50 (k a i : Nat) : Prop := a = 50 ∧ 5666 * k ≤ i ∧ i < 5666 * k + 5666
theorem r_image_L {M : Mem} (hM : LayM M) {k : Nat} (hk : k < 2) : TT (loopO (imB (nI k) 47) (M, 0)) (fun M1 => Fr (S50 k) M M1 ∧ ∀ i, i < 5666 → IMK M1 k i = mI M 49 i) := by
  refine TT_for 5666 (fun j s => s.2 = nI j ∧ Fr (S50 k) M s.1 ∧ ∀ i, i < j → IMK s.1 k i = mI M 49 i) ?_ (Nat.zero_le _) ⟨rfl, Fr.rf, fun i hi => by omega⟩
  rintro j ⟨M1, i⟩ hj ⟨q1, q2, q3⟩
  simp only at q1 q2 q3
  subst q1
  unfold imB
  simp only
  by_cases w : j < 5666
  · have hM1 := hM.fr q2
    unfold LayM at hM1
    have e5 : (5666 : Int32) * nI k + nI j = nI (5666 * k + j) := by rw [show (5666 : Int32) = nI 5666 from rfl, nmul, nadd]
    rw [if_neg (fun q => by rw [show (5666 : Int32) = nI 5666 from rfl] at q; have := (nleI (by omega) (by omega)).mp q; omega)]
    simp only [hM1, grd_T, Option.bind_some, bv]
    rw [e5, grd_y ((nvp (a := j) (by omega)).mpr (by omega)), grd_y ((nvp (a := 5666 * k + j) (by omega)).mpr (by omega)), nclampI (a := 5666 * k + j) (by omega), nclampI (a := j) (by omega), q2.i (a := 49) (by unfold S50; omega), nsucc, TT_some]
    refine ⟨w, rfl, q2.wI ⟨rfl, by omega, by omega⟩, fun i hi => ?_⟩
    show mI (wI M1 50 (5666 * k + j) _) 50 (5666 * k + i) = _
    by_cases e : i = j
    · subst e
      rw [mI_wIs]
    · rw [mI_wI_ne (by omega)]
      exact q3 i (by omega)
  · have ej : j = 5666 := by omega
    subst ej
    rw [if_pos (by decide), TT_some]
    exact ⟨q2, q3⟩
/-- kept rows that agree -/
def KE (K K' : Nat → Int32) : Prop := ∀ i, i < 5666 → K' i = K i
theorem KOK.ke {K K' : Nat → Int32} (h : KOK K) (e : KE K K') : KOK K' := by
  obtain ⟨kt, ⟨km1, km2⟩, ⟨c, k1, k2, k3⟩, n, n1, n2, n3⟩ := h
  refine ⟨fun t ht => ?_, ⟨by rw [e 54 (by omega)]; exact km1, by rw [e 55 (by omega)]; exact km2⟩, ⟨c, k1, by rw [e 57 (by omega)]; exact k2, by rw [e 58 (by omega)]; exact k3⟩, n, n1, by rw [e 56 (by omega)]; exact n2, fun g hg => ?_⟩
  · rw [e t (by omega), e (6 + t) (by omega), e (12 + t) (by omega)]
    exact kt t ht
  · rw [e _ (by omega), e _ (by omega), e _ (by omega)]
    exact n3 g hg
theorem LWS.ke {M : Mem} {ar : Nat} {K K' : Nat → Int32} (h : LWS M ar K) (e : KE K K') : LWS M ar K' := by
  refine ⟨h.1, fun c g hc hk hg => ?_⟩
  rw [e 57 (by omega)] at hk
  obtain ⟨tx, sms, t1, t2, T, len, ⟨p1, p2⟩, p3, p4, p5, p6⟩ := h.2 c g hc hk hg
  refine ⟨tx, sms, t1, t2, T, len, ⟨by rw [e _ (by omega)]; exact p1, fun j hj => ?_⟩, p3, p4, p5, p6⟩
  rw [e _ (by omega), e _ (by omega)]
  exact p2 j hj
/-- a Valley's values are those of another, told by a kept row -/
theorem CVs.cp {M M1 : Mem} {v w : Nat} {K K' : Nat → Int32} (hk : KOK K) (e : KE K K') (ht : CVt M (w + 1) (w + 2) (w + 3) K) (ho : CVo M w K) (hh : CVh M (w + 4) (w + 5) (w + 6) (w + 7) K) (c1 : ∀ j k, 1 ≤ j → j ≤ 3 → k < 6 → mI M1 (v + j) k = mI M (w + j) k) (c2 : ∀ j k, 4 ≤ j → j ≤ 7 → k < 12 → mI M1 (v + j) k = mI M (w + j) k) (c3 : ∀ k, 8 ≤ k → k ≤ 12 → mI M1 v k = mI M w k) : CVt M1 (v + 1) (v + 2) (v + 3) K' ∧ CVo M1 v K' ∧ CVh M1 (v + 4) (v + 5) (v + 6) (v + 7) K' := by
  refine ⟨fun t ht' => ?_, ?_, fun n g h1 h2 h3 => ?_⟩
  · rw [c1 1 t (by omega) (by omega) ht', c1 2 t (by omega) (by omega) ht', c1 3 t (by omega) (by omega) ht', e t (by omega), e (6 + t) (by omega), e (12 + t) (by omega)]
    exact ht t ht'
  · obtain ⟨o1, o2, o3, o4, o5⟩ := ho
    unfold CVo
    rw [c3 8 (by omega) (by omega), c3 9 (by omega) (by omega), c3 10 (by omega) (by omega), c3 11 (by omega) (by omega), c3 12 (by omega) (by omega), e 56 (by omega), e 57 (by omega), e 58 (by omega), e 54 (by omega), e 55 (by omega)]
    exact ⟨o1, o2, o3, o4, o5⟩
  · rw [e 56 (by omega)] at h2
    rw [c2 4 g (by omega) (by omega) (by omega), c2 5 g (by omega) (by omega) (by omega), c2 6 g (by omega) (by omega) (by omega), c2 7 g (by omega) (by omega) (by omega), e _ (by omega), e _ (by omega), e _ (by omega)]
    exact hh n g h1 h2 h3
