/-! STEPS in a YEAR: the reference -/
noncomputable def si0 (a0 : Nat) : Mem × Int32 → Option ((Mem × Int32) ⊕ (Mem)) := (fun s1 => if 9331 ≤ s1.2 then (some (.inr s1.1)) else (grd (okO s1.1 12 a0) (Option.bind (mR s1.1 a0 35) (fun r10 => grd (okO s1.1 14 r10) (grd (vp_in s1.2 (mL s1.1 r10)) (bv (wI s1.1 r10 s1.2.toNatClampNeg 1000000) (fun M13 => bv (s1.2 + 1 : Int32) (fun x17 => some (.inl (M13, x17))))))))))
noncomputable def si2 (a0 : Nat) (hd : Int32) : Mem × Int32 × Int32 → Option ((Mem × Int32 × Int32) ⊕ (Mem × Int32)) := (fun s65 => if (mI s65.1 a0 11) ≤ s65.2.2 then (some (.inr (s65.1, s65.2.1))) else (Option.bind (mR s65.1 a0 9) (fun r74 => grd (okO s65.1 14 r74) (grd (vp_in s65.2.2 (mL s65.1 r74)) (Option.bind (f_X12_placeOf (mI s65.1 r74 s65.2.2.toNatClampNeg)) (fun q77 => Option.bind (mR s65.1 a0 35) (fun r80 => grd (okO s65.1 14 r80) (grd (vp_in q77 (mL s65.1 r80)) (bv (fun (s84 : Mem × Int32) => bv (s65.2.2 + 1 : Int32) (fun x88 => some (.inl (s84.1, s84.2, x88)))) (fun j83 => if 1000000 ≤ (mI s65.1 r80 q77.toNatClampNeg) then (Option.bind (mR s65.1 a0 35) (fun r89 => Option.bind (mR s65.1 a0 35) (fun r90 => Option.bind (mR s65.1 a0 36) (fun r91 => grd (okO s65.1 14 r91) (grd (vp_in hd (mL s65.1 r91)) (grd (okO s65.1 14 r90) (grd (vp_in (mI s65.1 r91 hd.toNatClampNeg) (mL s65.1 r90)) (grd (okO s65.1 14 r89) (grd (vp_in q77 (mL s65.1 r89)) (bv (wI s65.1 r89 q77.toNatClampNeg ((mI s65.1 r90 (mI s65.1 r91 hd.toNatClampNeg).toNatClampNeg) + 1)) (fun M98 => Option.bind (mR M98 a0 36) (fun r102 => grd (okO M98 14 r102) (grd (vp_in s65.2.1 (mL M98 r102)) (bv (wI M98 r102 s65.2.1.toNatClampNeg q77) (fun M105 => bv (s65.2.1 + 1 : Int32) (fun x109 => j83 (M105, x109))))))))))))))))) else (j83 (s65.1, s65.2.1))))))))))))
noncomputable def si1 (a0 : Nat) (q39 p3 : Int32) : Mem × Int32 × Int32 → Option ((Mem × Int32 × Int32) ⊕ (Mem)) := (fun s42 => if s42.2.1 ≤ s42.2.2 then (some (.inr s42.1)) else (Option.bind (mR s42.1 a0 35) (fun r51 => grd (okO s42.1 14 r51) (grd (vp_in q39 (mL s42.1 r51)) (if (mI s42.1 r51 q39.toNatClampNeg) = 1000000 then (Option.bind (mR s42.1 a0 36) (fun r54 => grd (okO s42.1 14 r54) (grd (vp_in s42.2.2 (mL s42.1 r54)) (Option.bind (f_X12_dishAt (mI s42.1 r54 s42.2.2.toNatClampNeg)) (fun q57 => Option.bind (f_X12_lists s42.1 a0 q57 p3 0) (fun q60 => Option.bind (loopO (si2 a0 s42.2.2) (q60, s42.2.1, 0)) (fun (x72 : Mem × Int32) => bv (s42.2.2 + 1 : Int32) (fun x111 => some (.inl (x72.1, x72.2, x111)))))))))) else (some (.inr s42.1)))))))
theorem stepsIn_eq {M : Mem} {a0 : Nat} {p1 p2 p3 : Int32} : f_X12_stepsIn M a0 p1 p2 p3 = Option.bind (loopO (si0 a0) (M, 0)) (fun (x7 : Mem) => grd (okO x7 12 a0) (Option.bind (mR x7 a0 35) (fun r19 => Option.bind (f_X12_placeOf p1) (fun q20 => grd (okO x7 14 r19) (grd (vp_in q20 (mL x7 r19)) (bv (wI x7 r19 q20.toNatClampNeg 0) (fun M25 => Option.bind (mR M25 a0 36) (fun r29 => Option.bind (f_X12_placeOf p1) (fun q30 => grd (okO M25 14 r29) (grd (vp_in 0 (mL M25 r29)) (bv (wI M25 r29 (0 : Int32).toNatClampNeg q30) (fun M35 => Option.bind (f_X12_placeOf p2) (fun q39 => Option.bind (loopO (si1 a0 q39 p3) (M35, 1, 0)) (fun (x49 : Mem) => Option.bind (mR x49 a0 35) (fun r113 => grd (okO x49 14 r113) (grd (vp_in q39 (mL x49 r113)) (if (mI x49 r113 q39.toNatClampNeg) = 1000000 then (some (x49, (-1))) else (Option.bind (mR x49 a0 35) (fun r116 => grd (okO x49 14 r116) (grd (vp_in q39 (mL x49 r116)) (some (x49, mI x49 r116 q39.toNatClampNeg)))))))))))))))))))))) := rfl
theorem r_si0 {M : Mem} (h : LayM M) : TT (loopO (si0 47) (M, 0)) (fun M1 => Fr (fun a _ => a = 65) M M1 ∧ ∀ k, k < 9331 → mI M1 65 k = nI 1000000) := by
  obtain ⟨l0, l1, l2, l3, -⟩ := lyF h
  refine TT_for 9331 (fun k s => ∃ M', s = (M', nI k) ∧ Fr (fun a _ => a = 65) M M' ∧ ∀ j, j < k → mI M' 65 j = nI 1000000) ?_ (Nat.zero_le _) ⟨M, rfl, Fr.rf, fun j hj => by omega⟩
  rintro k s hk ⟨M', rfl, hF, hv⟩
  unfold si0
  simp only
  by_cases w : k = 9331
  · rw [if_pos ((le9331 hk).mpr w), TT_some]
    subst w
    exact ⟨hF, hv⟩
  · rw [if_neg (fun q => w ((le9331 hk).mp q)), grd_y (okO_fr hF l0), hF.2.2.2.2.1, l1, Option.bind_some, grd_y (okO_fr hF l2), hF.2.2.2.1, l3, grd_y ((nvp (by omega)).mpr (by omega)), TT_bv, TT_bv, TT_some, nclampI (by omega)]
    refine ⟨by omega, _, by rw [nsucc], hF.wI rfl, fun j hj => ?_⟩
    rw [mI_wI]
    by_cases q : j = k
    · rw [if_pos ⟨rfl, q⟩]
      rfl
    · rw [if_neg (fun z => q z.2)]
      exact hv j (by omega)
theorem r_si2 {K : Nat → Int32} {y a k p e : Nat} {M0 M : Mem} {Q0 : List Nat} {D0 : Nat → Option Nat} (hM : LayM M0) (hk : KTH K) (hp : p < 9331) (hL : LSTS 0 M0 (EDG K y (dR p))) (h : RBS K y a k p e M0 M Q0 D0) : TT (loopO (si2 47 (nI k)) (M, nI Q0.length, 0)) (fun z => ∃ M1 Q D, z = (M1, nI Q.length) ∧ RBS K y a k p e M0 M1 Q D ∧ ∀ r, adjK K y p r → r ∈ Q) := by
  obtain ⟨dl, dr⟩ := dR_v hp
  have hlen := EDG_len (K := K) (y := y) dl
  refine TT_for (EDG K y (dR p)).length (fun i s => ∃ M' Q D, s = (M', nI Q.length, nI i) ∧ RBS K y a k p e M0 M' Q D ∧ ∀ j c, j < i → (EDG K y (dR p))[j]? = some c → rank c.1 ∈ Q) ?_ (Nat.zero_le _) ⟨M, Q0, D0, rfl, h, fun j c hj => by omega⟩
  rintro i s hi ⟨M', Q, D, rfl, hb, hf⟩
  obtain ⟨f, ⟨c1, c2, c3⟩, b, b2, b3⟩ := id hb
  have hM' := hM.fr f
  obtain ⟨l0, l1, l2, l3, l4, l5, l6⟩ := lyF hM'
  obtain ⟨n1, n2, n3⟩ := lyL hM'
  have e11 : mI M' 47 11 = nI (EDG K y (dR p)).length := by
    rw [f.i (by unfold Sfq; omega)]
    exact hL.1
  have hkl := b.2.2.2.2.2.2.2.1
  have hql := b.ql c3
  have hkl2 := (List.getElem?_eq_some_iff.mp b2).1
  unfold si2
  simp only
  rw [e11]
  by_cases w : i = (EDG K y (dR p)).length
  · rw [if_pos ((nleI (by omega) (by omega)).mpr (by omega)), TT_some]
    refine ⟨M', Q, D, rfl, hb, fun r hr => ?_⟩
    obtain ⟨_, c, hc, e1⟩ := hr
    obtain ⟨j, hj, ej⟩ := List.getElem_of_mem hc
    rw [← e1]
    exact hf j c (by omega) (by rw [List.getElem?_eq_getElem hj, ej])
  · have hlt : i < (EDG K y (dR p)).length := by omega
    rw [if_neg (fun q => w (by have := (nleI (by omega) (by omega)).mp q; omega))]
    have hc := List.getElem?_eq_getElem hlt
    have hcm := List.getElem_mem hlt
    generalize (EDG K y (dR p))[i] = c at hc hcm
    have hdc := (EDG_DL hk dl hcm).1
    have hrl := rank_lt hdc
    have e53 : mI M' 53 i = nI (num c.1) := by
      rw [f.i (by unfold Sfq; omega)]
      exact (hL.2 i c hc).1
    have hadj : adjK K y p (rank c.1) := ⟨hp, c, hcm, rfl⟩
    have hDd : ∀ d, D (rank c.1) = some d → d < 9331 := fun d q => b.dlt c3 q
    have hed := b.dlt c3 b3
    rw [n1, Option.bind_some, grd_y n2, n3, grd_y ((nvp (by omega)).mpr (by omega)), nclampI (a := i) (by omega), e53, p_placeOf hdc, Option.bind_some, l1, Option.bind_some, grd_y l2, l3, grd_y ((nvp (by omega)).mpr hrl), TT_bv, nclampI (a := rank c.1) (by omega), c1 _ hrl]
    have fin : ∀ M2 Q2 D2, RBS K y a k p e M0 M2 Q2 D2 → (∀ r, r ∈ Q → r ∈ Q2) → rank c.1 ∈ Q2 → TT (some (Sum.inl (M2, nI Q2.length, nI i + 1)) : Option ((Mem × Int32 × Int32) ⊕ (Mem × Int32))) (fun r => r.elim (fun s' => i < (EDG K y (dR p)).length ∧ ∃ M' Q D, s' = (M', nI Q.length, nI (i + 1)) ∧ RBS K y a k p e M0 M' Q D ∧ ∀ j c, j < i + 1 → (EDG K y (dR p))[j]? = some c → rank c.1 ∈ Q) (fun z => ∃ M1 Q D, z = (M1, nI Q.length) ∧ RBS K y a k p e M0 M1 Q D ∧ ∀ r, adjK K y p r → r ∈ Q)) := fun M2 Q2 D2 q1 q2 q3 => by
      rw [TT_some]
      refine ⟨hlt, M2, Q2, D2, by rw [nsucc], q1, fun j c' hj hc' => ?_⟩
      by_cases z : j = i
      · subst z
        rw [hc] at hc'
        cases hc'
        exact q3
      · exact q2 _ (hf j c' (by omega) hc')
    by_cases w2 : D (rank c.1) = none
    · rw [if_pos ((fI_far hDd).mpr w2)]
      obtain ⟨g1, g2⟩ := hb.add hrl w2 hadj
      rw [Option.bind_some, Option.bind_some, l4, Option.bind_some, grd_y l5, l6, grd_y ((nvp (by omega)).mpr (by omega)), nclampI (a := k) (by omega), c2 k p b2, grd_y l2, l3, grd_y ((nvp (by omega)).mpr hp), grd_y l2, grd_y ((nvp (by omega)).mpr hrl), nclampI (a := p) (by omega), c1 p hp, b3, show fI (some e) + 1 = nI (e + 1) from nsucc e, TT_bv, mR_wI, l4, Option.bind_some, ok_wI, grd_y l5, mL_wI, l6, grd_y ((nvp (by omega)).mpr g1), nclampI (a := Q.length) (by omega), TT_bv, TT_bv]
      have := fin _ _ _ g2 (fun r hr => List.mem_append_left _ hr) (List.mem_append_right _ (List.mem_singleton.mpr rfl))
      rw [List.length_append, List.length_singleton] at this
      rw [nsucc Q.length]
      exact this
    · rw [if_neg (fun q => w2 ((fI_far hDd).mp q))]
      exact fin M' Q D hb (fun _ q => q) (hb.mem.mp w2)
def Ssi (a k : Nat) : Prop := Srv a k ∨ a = 65 ∨ a = 66
theorem r_si1 {K : Nat → Int32} {y a g : Nat} {M : Mem} {D0 : Nat → Option Nat} (hM : MID M) (hK : mI M 49 = K) (hy : y ≤ 999) (hg : g < 9331) (ha : a < 9331) (h0 : RTC M [a] D0) (hb0 : BFS (adjK K y) a [a] 0 D0) : TT (loopO (si1 47 (nI g) (nI y)) (M, 1, 0)) (fun M1 => ∃ Q D, Fr Ssi M M1 ∧ MID M1 ∧ RTC M1 Q D ∧ (∀ d, D g = some d → d < 9331) ∧ ∀ d, D g = some d ↔ isD (adjK K y) a g d) := by
  refine TT_for 9331 (fun k s => ∃ M' Q D, s = (M', nI Q.length, nI k) ∧ Fr Ssi M M' ∧ MID M' ∧ mI M' 49 = K ∧ RTC M' Q D ∧ BFS (adjK K y) a Q k D) ?_ (Nat.zero_le _) ⟨M, [a], D0, rfl, Fr.rf, hM, hK, h0, hb0⟩
  rintro k s hk9 ⟨M', Q, D, rfl, f, m, k1, c, b⟩
  obtain ⟨l0, l1, l2, l3, l4, l5, l6⟩ := lyF m.1.2.1
  have hql := b.ql c.2.2
  have hkq := b.2.2.2.2.2.2.2.1
  have hkt : KTH K := by rw [← k1]; exact m.kth
  have hdl : ∀ d, D g = some d → d < 9331 := fun d q => b.dlt c.2.2 q
  unfold si1
  simp only
  by_cases w : k = Q.length
  · rw [if_pos ((nleI (by omega) (by omega)).mpr (by omega)), TT_some]
    subst w
    exact ⟨Q, D, f, m, c, hdl, b.full g⟩
  · have hlt : k < Q.length := by omega
    rw [if_neg (fun q => w (by have := (nleI (by omega) (by omega)).mp q; omega)), l1, Option.bind_some, grd_y l2, l3, grd_y ((nvp (by omega)).mpr hg), nclampI (a := g) (by omega), c.1 g hg]
    by_cases w2 : D g = none
    · have hto := List.getElem?_eq_getElem hlt
      have hmem := List.getElem_mem hlt
      generalize Q[k] = p at hto hmem
      have hp := c.2.2 p hmem
      obtain ⟨e, he⟩ := (b.2.1 p).mp hmem
      rw [if_pos ((fI_eq hdl).mpr w2), l4, Option.bind_some, grd_y l5, l6, grd_y ((nvp (by omega)).mpr (by omega)), nclampI (a := k) (by omega), c.2.1 k p hto, dR_at hp, Option.bind_some, TT_bind]
      refine (r_listsK m (dR_v hp).1 hy).mono ?_
      rintro M1 ⟨m1, kk1, f1, ls1⟩
      rw [k1] at ls1
      have c1 : RTC M1 Q D := ⟨fun p hp => by rw [f1.i (by rw [Sls_iff]; omega)]; exact c.1 p hp, fun i p hi => by rw [f1.i (by rw [Sls_iff]; omega)]; exact c.2.1 i p hi, c.2.2⟩
      rw [TT_bind]
      refine (r_si2 m1.1.2.1 hkt hp ls1 ⟨Fr.rf, c1, b, hto, he⟩).mono ?_
      rintro z ⟨M2, Q1, D1, rfl, ⟨g1, g2, g3, g4, g5⟩, g6⟩
      rw [TT_bv, TT_some]
      obtain ⟨m2, kk2⟩ := m1.fr g1 (fun a k w => by unfold Sfq at w; unfold Frl; omega)
      exact ⟨by omega, M2, Q1, D1, by rw [nsucc], (f.tr (f1.up (fun a k w => Or.inl (Sls_rv a k w)))).tr (g1.up (fun a k w => Or.inr w)), m2, by rw [kk2, kk1, k1], g2, g3.next g4 g6⟩
    · rw [if_neg (fun q => w2 ((fI_eq hdl).mp q)), TT_some]
      refine ⟨Q, D, f, m, c, hdl, fun d => ⟨b.2.2.2.1 g d, fun hi => ?_⟩⟩
      cases hD : D g with
      | none => exact absurd hD w2
      | some v => rw [isD_un (b.2.2.2.1 g v hD) hi]
theorem r_stepsIn {M : Mem} (h : MID M) {y : Nat} (hy : y ≤ 999) {l1 l2 : List Nat} (d1 : DL l1) (d2 : DL l2) : TT (f_X12_stepsIn M 47 (nI (num l1)) (nI (num l2)) (nI y)) (fun q => Fr Ssi M q.1 ∧ ∃ o, q.2 = oI o ∧ ∀ d, o = some d ↔ isD (adjK (mI M 49) y) (rank l1) (rank l2) d) := by
  have r1 := rank_lt d1
  have r2 := rank_lt d2
  rw [stepsIn_eq, TT_bind]
  refine (r_si0 h.1.2.1).mono ?_
  rintro M2 ⟨f2, v2⟩
  have hM2 := h.1.2.1.fr f2
  obtain ⟨l0, la, lb, lc, ld, le, lf⟩ := lyF hM2
  have c0 : (0 : Int32).toNatClampNeg = 0 := by decide
  rw [grd_y l0, la, Option.bind_some, p_placeOf d1, Option.bind_some, grd_y lb, lc, grd_y ((nvp (by omega)).mpr r1), nclampI (by omega), TT_bv, mR_wI, ld, Option.bind_some, Option.bind_some, ok_wI, grd_y le, mL_wI, lf, grd_y (show vp_in 0 9331 from (nvp (a := 0) (by omega)).mpr (by omega)), c0, TT_bv, p_placeOf d2, Option.bind_some, TT_bind]
  have f3 : Fr Sfq M2 (wI (wI M2 65 (rank l1) 0) 66 0 (nI (rank l1))) := (Fr.rf.wI (Or.inl rfl)).wI (Or.inr rfl)
  have c3 := RTC.start r1 v2 rfl
  generalize wI (wI M2 65 (rank l1) 0) 66 0 (nI (rank l1)) = M3 at f3 c3
  have f13 : Fr Sfq M M3 := (f2.up (fun a k w => Or.inl w)).tr f3
  obtain ⟨m3, k3⟩ := h.fr f13 (fun a k w => by unfold Sfq at w; unfold Frl; omega)
  refine (r_si1 m3 k3 hy r2 r1 c3 (BFS.start (if_pos rfl) (fun p hp => if_neg hp))).mono ?_
  rintro M4 ⟨Q, D, f4, m4, c4, e4, d4⟩
  obtain ⟨l0', la', lb', lc', -⟩ := lyF m4.1.2.1
  rw [la', Option.bind_some, grd_y lb', lc', grd_y ((nvp (by omega)).mpr r2), nclampI (by omega), c4.1 _ r2, Option.bind_some, grd_y lb', lc', grd_y ((nvp (by omega)).mpr r2), c4.1 _ r2, fI_val e4, TT_some]
  exact ⟨(f13.up (fun a k w => Or.inr w)).tr f4, D (rank l2), rfl, d4⟩
