/-! the reference lays all changes out -/
noncomputable def nx1 (s6 : Mem × Int32) (a0 : Nat) : Mem × Int32 → Option ((Mem × Int32) ⊕ (Mem)) := (fun s33 => if (mI s33.1 a0 11) ≤ s33.2 then (some (.inr s33.1)) else (Option.bind (mR s33.1 a0 32) (fun r42 => Option.bind (mR s33.1 a0 9) (fun r43 => grd (okO s33.1 14 r43) (grd (vp_in s33.2 (mL s33.1 r43)) (Option.bind (f_X12_placeOf (mI s33.1 r43 s33.2.toNatClampNeg)) (fun q46 => grd (okO s33.1 14 r42) (grd (vp_in ((46 * s6.2) + s33.2) (mL s33.1 r42)) (bv (wI s33.1 r42 ((46 * s6.2) + s33.2).toNatClampNeg q46) (fun M51 => bv (s33.2 + 1 : Int32) (fun x55 => some (.inl (M51, x55)))))))))))))
noncomputable def nx0 (a0 : Nat) : Mem × Int32 → Option ((Mem × Int32) ⊕ (Mem)) := (fun s6 => if 9331 ≤ s6.2 then (some (.inr s6.1)) else (Option.bind (f_X12_dishAt s6.2) (fun q15 => Option.bind (mR s6.1 a0 3) (fun r18 => grd (okO s6.1 14 r18) (grd (vp_in 54 (mL s6.1 r18)) (Option.bind (f_X12_lists s6.1 a0 q15 (mI s6.1 r18 (54 : Int32).toNatClampNeg) 0) (fun q21 => Option.bind (mR q21 a0 33) (fun r26 => grd (okO q21 14 r26) (grd (vp_in s6.2 (mL q21 r26)) (bv (wI q21 r26 s6.2.toNatClampNeg (mI q21 a0 11)) (fun M29 => Option.bind (loopO (nx1 s6 a0) (M29, 0)) (fun (x40 : Mem) => bv (s6.2 + 1 : Int32) (fun x57 => some (.inl (x40, x57)))))))))))))))
theorem laysNext_eq {M : Mem} {a0 : Nat} : f_X12_laysNext M a0 = grd (okO M 12 a0) (if (mI M a0 34) = (mI M a0 1) then (some M) else (bv (wI M a0 34 (mI M a0 1)) (fun M2 => Option.bind (loopO (nx0 a0) (M2, 0)) (fun (x13 : Mem) => some x13)))) := rfl
/-- the changes of all DISHES stand in the rows 63 and 64 -/
def NXP (M : Mem) (K : Nat → Int32) (y p : Nat) : Prop := mI M 64 p = nI (EDG K y (dR p)).length ∧ ∀ i c, (EDG K y (dR p))[i]? = some c → mI M 63 (46 * p + i) = nI (rank c.1)
def S63 (a _k : Nat) : Prop := a = 63
def Snx (a k : Nat) : Prop := Srv a k ∨ a = 63 ∨ a = 64 ∨ (a = 47 ∧ k = 34)
theorem NXP.fr {S : Nat → Nat → Prop} {M M1 : Mem} {K : Nat → Int32} {y p : Nat} (h : NXP M K y p) (hF : Fr S M M1) (h1 : ¬ S 64 p) (h2 : ∀ i, i < 46 → ¬ S 63 (46 * p + i)) (hl : (EDG K y (dR p)).length ≤ 45) : NXP M1 K y p := by
  refine ⟨by rw [hF.i h1]; exact h.1, fun i c hc => ?_⟩
  obtain ⟨hi, _⟩ := List.getElem?_eq_some_iff.mp hc
  rw [hF.i (h2 i (by omega))]
  exact h.2 i c hc
theorem r_nx1 {M0 M : Mem} (hM : LayM M) {L : List (List Nat × Nat)} (hL : LSTS 0 M L) (hlen : L.length ≤ 45) (hd : ∀ c ∈ L, DL c.1) {p : Nat} (hp : p < 9331) : TT (loopO (nx1 (M0, nI p) 47) (M, 0)) (fun M1 => Fr (fun a k => a = 63 ∧ 46 * p ≤ k ∧ k < 46 * p + 46) M M1 ∧ ∀ i c, L[i]? = some c → mI M1 63 (46 * p + i) = nI (rank c.1)) := by
  obtain ⟨l1, l3⟩ := hL
  refine TT_for L.length (fun k s => s.2 = nI k ∧ Fr (fun a k => a = 63 ∧ 46 * p ≤ k ∧ k < 46 * p + 46) M s.1 ∧ ∀ i c, i < k → L[i]? = some c → mI s.1 63 (46 * p + i) = nI (rank c.1)) ?_ (Nat.zero_le _) ⟨rfl, Fr.rf, fun i c hi => by omega⟩
  rintro k ⟨M2, i⟩ hk ⟨q1, q2, q3⟩
  simp only at q1 q2 q3
  subst q1
  have hM2 := hM.fr q2
  unfold LayM at hM2
  unfold nx1
  simp only [hM2, grd_T, Option.bind_some, bv]
  rw [q2.i (by omega), l1]
  by_cases w : k < L.length
  · have ek := List.getElem?_eq_getElem w
    have d1 := hd _ (List.getElem_mem w)
    have e46 : (46 : Int32) * nI p + nI k = nI (46 * p + k) := by rw [show (46 : Int32) = nI 46 from rfl, nmul, nadd]
    rw [if_neg (fun q => by have := (nleI (by omega) (by omega)).mp q; omega), grd_y ((nvp (a := k) (by omega)).mpr (by omega)), nclampI (a := k) (by omega), q2.i (a := 53) (by omega), (l3 k _ ek).1, p_placeOf d1, Option.bind_some, e46, grd_y ((nvp (a := 46 * p + k) (by omega)).mpr (by omega)), nclampI (a := 46 * p + k) (by omega), nsucc, TT_some]
    refine ⟨w, rfl, q2.wI ⟨rfl, by omega, by omega⟩, fun i c hi hc => ?_⟩
    show mI (wI M2 63 (46 * p + k) _) 63 (46 * p + i) = _
    by_cases e : i = k
    · subst e
      rw [ek] at hc
      cases hc
      rw [mI_wIs]
    · rw [mI_wI_ne (by omega)]
      exact q3 i c (by omega) hc
  · rw [if_pos ((nleI (by omega) (by omega)).mpr (by omega)), TT_some]
    refine ⟨q2, fun i c hc => q3 i c ?_ hc⟩
    obtain ⟨hi, _⟩ := List.getElem?_eq_some_iff.mp hc
    omega
theorem r_nx0 {M M0 : Mem} {y : Nat} (hy : y ≤ 999) (h54 : mI M 49 54 = nI y) (hF0 : Fr Snx M M0) (hm0 : MID M0) (k0 : mI M0 49 = mI M 49) : TT (loopO (nx0 47) (M0, 0)) (fun M1 => Fr Snx M M1 ∧ MID M1 ∧ mI M1 49 = mI M 49 ∧ mI M1 47 34 = mI M0 47 34 ∧ ∀ p, p < 9331 → NXP M1 (mI M 49) y p) := by
  refine TT_for 9331 (fun k s => s.2 = nI k ∧ Fr Snx M s.1 ∧ MID s.1 ∧ mI s.1 49 = mI M 49 ∧ mI s.1 47 34 = mI M0 47 34 ∧ ∀ p, p < k → NXP s.1 (mI M 49) y p) ?_ (Nat.zero_le _) ⟨rfl, hF0, hm0, k0, rfl, fun p hp => by omega⟩
  rintro k ⟨M1, i⟩ hk ⟨q1, q2, q3, q4, q5, q6⟩
  simp only at q1 q2 q3 q4 q5 q6
  subst q1
  unfold nx0
  by_cases w : k < 9331
  · have kt : KTH (mI M 49) := by
      have := q3.1.2.2.1.1
      rw [q4] at this
      exact this
    have hM1 := q3.1.2.1
    unfold LayM at hM1
    have c54 : (54 : Int32).toNatClampNeg = 54 := by decide
    have g54 : vp_in 54 5666 := show vp_in (nI 54) 5666 from (nvp (by omega)).mpr (by omega)
    obtain ⟨dl, dr⟩ := dR_v w
    simp only [hM1, grd_T, Option.bind_some, bv, c54]
    rw [if_neg (fun q => by rw [show (9331 : Int32) = nI 9331 from rfl] at q; have := (nleI (by omega) (by omega)).mp q; omega), dR_at w, Option.bind_some, grd_y g54, q4, h54, TT_bind]
    refine (r_listsK q3 dl hy).mono ?_
    rintro M2 ⟨m2, k2, f2, l2⟩
    rw [q4] at l2
    have hlen := EDG_len (K := mI M 49) (y := y) dl
    have hdl : ∀ cc, cc ∈ EDG (mI M 49) y (dR k) → DL cc.1 := fun cc q => (EDG_DL kt dl q).1
    have hM3 := m2.1.2.1
    unfold LayM at hM3
    simp only [hM3, grd_T, Option.bind_some]
    rw [grd_y ((nvp (a := k) (by omega)).mpr (by omega)), nclampI (a := k) (by omega), l2.1]
    have f3 : Fr (fun a j => a = 64 ∧ j = k) M2 (wI M2 64 k (nI (EDG (mI M 49) y (dR k)).length)) := Fr.rf.wI ⟨rfl, rfl⟩
    have v64 : mI (wI M2 64 k (nI (EDG (mI M 49) y (dR k)).length)) 64 k = nI (EDG (mI M 49) y (dR k)).length := mI_wIs
    obtain ⟨m3, k3⟩ := m2.fr f3 (fun a j w => by unfold Frl; omega)
    have l3 : LSTS 0 (wI M2 64 k (nI (EDG (mI M 49) y (dR k)).length)) (EDG (mI M 49) y (dR k)) := ⟨by rw [f3.i (by omega)]; exact l2.1, fun j c hc => by rw [f3.i (by omega), f3.i (by omega)]; exact l2.2 j c hc⟩
    generalize wI M2 64 k (nI (EDG (mI M 49) y (dR k)).length) = M3 at *
    rw [TT_bind]
    refine (r_nx1 m3.1.2.1 l3 hlen hdl w).mono ?_
    rintro M4 ⟨f4, j4⟩
    rw [nsucc, TT_some]
    obtain ⟨m4, k4⟩ := m3.fr f4 (fun a j w => by unfold Frl; omega)
    have g2 : Fr Snx M M2 := q2.tr (f2.up (fun a j w => Or.inl (Sls_rv a j w)))
    have g3 : Fr Snx M M3 := g2.tr (f3.up (fun a j w => Or.inr (Or.inr (Or.inl w.1))))
    have g4 : Fr Snx M M4 := g3.tr (f4.up (fun a j w => Or.inr (Or.inl w.1)))
    refine ⟨w, rfl, g4, m4, by rw [k4, k3, k2, q4], ?_, fun p hp => ?_⟩
    · rw [f4.i (by omega), f3.i (by omega), f2.i (by rw [Sls_iff]; omega)]
      exact q5
    · by_cases e : p = k
      · subst e
        exact ⟨by rw [f4.i (by omega)]; exact v64, j4⟩
      · have hlp := EDG_len (K := mI M 49) (y := y) (dR_v (show p < 9331 by omega)).1
        exact (((q6 p (by omega)).fr f2 (by rw [Sls_iff]; omega) (fun i _ => by rw [Sls_iff]; omega) hlp).fr f3 (by omega) (fun i _ => by omega) hlp).fr f4 (by omega) (fun i hi => by omega) hlp
  · have ek : k = 9331 := by omega
    subst ek
    simp only
    rw [if_pos (by decide), TT_some]
    exact ⟨q2, q3, q4, q5, q6⟩
/-- what the reference keeps of all changes is right, or stale -/
def NXC (M : Mem) : Prop := mI M 47 34 = -1 ∨ ∃ nb ve y, mI M 47 34 = nI nb ∧ mI M 47 1 = nI ve ∧ nb ≤ ve ∧ ve < 2147483648 ∧ mI M 49 54 = nI y ∧ y ≤ 999 ∧ (nb = ve → ∀ p, p < 9331 → NXP M (mI M 49) y p)
theorem r_laysNext {M : Mem} (h : MID M) (hx : NXC M) {y ve : Nat} (hy : y ≤ 999) (h54 : mI M 49 54 = nI y) (hv : mI M 47 1 = nI ve) (hve : ve < 2147483648) : TT (f_X12_laysNext M 47) (fun M1 => Fr Snx M M1 ∧ MID M1 ∧ mI M1 49 = mI M 49 ∧ NXC M1 ∧ ∀ p, p < 9331 → NXP M1 (mI M 49) y p) := by
  have o47 : okO M 12 47 := by
    have := h.1.2.1
    unfold LayM at this
    exact this.1
  rw [laysNext_eq, grd_y o47]
  by_cases w : mI M 47 34 = mI M 47 1
  · rw [if_pos w, TT_some]
    refine ⟨Fr.rf, h, rfl, hx, ?_⟩
    rcases hx with q | ⟨nb, ve', y', a1, a2, a3, a4, a5, a6, a7⟩
    · rw [w, hv] at q
      exact absurd q (neg1_nI hve)
    · have ey : y' = y := (neqI (by omega) (by omega)).mp (a5.symm.trans h54)
      subst ey
      exact a7 ((neqI (by omega) (by omega)).mp (a1.symm.trans (w.trans a2)))
  · rw [if_neg w]
    simp only [bv]
    have f1 : Fr Snx M (wI M 47 34 (mI M 47 1)) := Fr.rf.wI (Or.inr (Or.inr (Or.inr ⟨rfl, rfl⟩)))
    have f1' : Fr (fun a j => a = 47 ∧ j = 34) M (wI M 47 34 (mI M 47 1)) := Fr.rf.wI ⟨rfl, rfl⟩
    have v34 : mI (wI M 47 34 (mI M 47 1)) 47 34 = nI ve := by rw [mI_wIs]; exact hv
    obtain ⟨m1, k1⟩ := h.fr f1' (fun a j w => by unfold Frl; omega)
    generalize wI M 47 34 (mI M 47 1) = M1 at *
    rw [TT_bind]
    refine (r_nx0 hy h54 f1 m1 k1).mono ?_
    rintro M2 ⟨a1, a2, a3, a4, a5⟩
    rw [TT_some]
    refine ⟨a1, a2, a3, Or.inr ⟨ve, ve, y, by rw [a4]; exact v34, ?_, Nat.le_refl _, hve, by rw [a3]; exact h54, hy, fun _ => by rw [a3]; exact a5⟩, a5⟩
    rw [a1.i (by unfold Snx Srv; omega)]
    exact hv
/-- a call that leaves the rows 63 and 64 alone -/
theorem NXC.q {c : Nat} (hc6 : c < 600) {M M2 : Mem} {S R : Nat → Nat → Prop} (h : NXC M) (hR : REL M) (hR2 : REL M2) (hb : BND c M) (hq : QST M M2) (hF : Fw S R M M2) (hs : ∀ a k, S a k → a ≠ 63 ∧ a ≠ 64 ∧ ¬ (a = 47 ∧ k = 34)) : NXC M2 := by
  have h78 := hb.1
  obtain ⟨d1, d2, d3, e1, e2, e3, e4, e5, e6, e7, e8, e9⟩ := hq
  have ei : ∀ a k, a < 78 → (a = 63 ∨ a = 64 ∨ (a = 47 ∧ k = 34)) → mI M2 a k = mI M a k := fun a k w1 w2 => hF.i (by omega) (fun q => by have := hs _ _ q; omega)
  rcases h with q | ⟨nb, ve, y, a1, a2, a3, a4, a5, a6, a7⟩
  · exact Or.inl (by rw [ei 47 34 (by decide) (by omega)]; exact q)
  · obtain ⟨y2, hy2, h542⟩ := hR2.2.2.1.2.1.1
    obtain ⟨ve', u1, u2⟩ := hb.2.2.2.2
    have ev : ve = ve' := (neqI (by omega) (by omega)).mp (a2.symm.trans u1)
    refine Or.inr ⟨nb, ve + d3, y2, by rw [ei 47 34 (by decide) (by omega)]; exact a1, by rw [e6, a2, nadd], by omega, by omega, h542, hy2, fun w => ?_⟩
    have hd : d3 = 0 := by omega
    obtain ⟨g1, g2⟩ := e9 hd
    have ey : y2 = y := (neqI (by omega) (by omega)).mp (h542.symm.trans (g2.trans a5))
    subst ey
    intro p hp
    have hd1 := (dR_v hp).1
    have hE : EDG (mI M2 49) y2 (dR p) = EDG (mI M 49) y2 (dR p) := EDG_ag hR.2.2.1.1 hR.2.2.1.2.2.1 g1 hd1
    obtain ⟨b1', b2⟩ := a7 (by omega) p hp
    unfold NXP
    rw [hE]
    refine ⟨by rw [ei 64 p (by decide) (by omega)]; exact b1', fun i cc hcc => ?_⟩
    rw [ei 63 _ (by decide) (by omega)]
    exact b2 i cc hcc
theorem NXC.qf {c : Nat} (hc6 : c < 600) {M M2 : Mem} (h : NXC M) (hI : INV0 c M) (hI2 : INV0 (c + 1) M2) (hq : QF M M2) : NXC M2 := by
  refine h.q hc6 hI.1 hI2.1 hI.2.1 hq.2.2.2 hq.1 (fun a k w => ?_)
  rcases w with w | w
  · omega
  · have := w.1
    omega
theorem NXC.ch {c : Nat} (hc6 : c < 600) {M M2 : Mem} (h : NXC M) (hI : INV0 c M) (hq : CHQ c M M2) : NXC M2 := by
  obtain ⟨q1, q2, q3, q4, q5, q6⟩ := hq
  refine h.q hc6 hI.1 q1.1 hI.2.1 q2 q4 (fun a k w => ?_)
  rcases sod_x a k w with u | u
  · omega
  · omega
