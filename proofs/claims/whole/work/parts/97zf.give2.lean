/-! being born: the class -/
def CGI (M : Mem) (B : Nat) (M' : Mem) : Prop := Fw Slk Rop M M' ∧ mn M' = mn M ∧ mz M' = mz M ∧ RUL M' ∧ mI M' 49 = mI M 49 ∧ SCI B M'
def cgQ (M : Mem) (B : Nat) (A : List (Option Nat × Nat × List Nat)) (y : Nat) (p1 : Int32) (o : Nat ⊕ List Nat) (q : Mem × Int32) : Prop := match o with
  | .inl r => q.2 = -(nI r) ∧ CGI M B q.1 ∧ RN r
  | .inr l => q.2 = nI A.length ∧ ∃ M' g, p1 = nI g ∧ g < A.length ∧ CGI M B M' ∧ DL l ∧ A.length < 12 ∧ q.1 = ADDC M' A.length p1 (nI y) (nI (rank l)) (nI (tst l))
theorem CST.fw {S R : Nat → Nat → Prop} {M M' : Mem} {A : List (Option Nat × Nat × List Nat)} {y : Nat} (h : CST M A y) (h78 : 78 ≤ mn M) (hF : Fw S R M M') (hs : ∀ a k, S a k → ¬ (a = 1 ∧ (k = 8 ∨ k = 11)) ∧ ¬ (5 ≤ a ∧ a ≤ 8)) : CST M' A y := by
  have e : ∀ a k, (a = 1 ∧ (k = 8 ∨ k = 11)) ∨ (5 ≤ a ∧ a ≤ 8) → mI M' a k = mI M a k := fun a k w => hF.i (by omega) (fun q => by have := hs a k q; omega)
  obtain ⟨a1, a2, a3, a4, a5⟩ := h
  refine ⟨a1, by rw [e 1 8 (by omega)]; exact a2, by rw [e 1 11 (by omega)]; exact a3, a4, fun g x hx => ?_⟩
  rw [e 5 g (by omega), e 6 g (by omega), e 7 g (by omega), e 8 g (by omega)]
  exact a5 g x hx
theorem c_give {B y : Nat} {M : Mem} (h : RUL M) (hS : SCI B M) (hB : B < 16777000) {A : List (Option Nat × Nat × List Nat)} (hc : CST M A y) (p1 p2 p3 p4 : Int32) : TT (f_X11_giveBirth M 0 p1 p2 p3 p4) (cgQ M (B + 1) A y p1 (gbO (mI M 49) A y p1 p2 p3 p4)) := by
  have hC2 := h.1
  have hC := h.1
  have h78 := h.2.2.2.2.2.2.2.2.1
  have hself : CGI M (B + 1) M := ⟨Fw.rf, rfl, rfl, h, rfl, hS.mono (by omega)⟩
  obtain ⟨c1, c2, c3, c4, c5⟩ := id hc
  have hh := c_hasHouse hC c1 c2 p1
  unfold LayC at hC2
  unfold f_X11_giveBirth gbO
  rw [c_isChange, Option.bind_some]
  by_cases w1 : (0 ≤ p2 ∧ p2 ≤ 4) ∧ (0 ≤ p3 ∧ p3 ≤ 5) ∧ (p2 = 1 → 0 ≤ p4 ∧ p4 ≤ 5)
  · rw [if_pos w1, if_neg (show ¬ (1 : Int32) = 0 by decide), if_pos w1]
    simp only [hC2, grd_T, Option.bind_some]
    rw [hh, Option.bind_some]
    by_cases w2 : 0 ≤ p1 ∧ p1 < nI A.length
    · rw [if_pos w2, if_neg (show ¬ (1 : Int32) = 0 by decide), if_pos w2]
      obtain ⟨g, hg, rfl⟩ := in_nat c1 w2
      obtain ⟨s, hs, rfl⟩ := up_nat (n := 4) (by omega) w1.1
      obtain ⟨p, hp, rfl⟩ := up_nat (n := 5) (by omega) w1.2.1
      have ht : ∃ t, t < 6 ∧ (s = 1 → p4 = nI t) ∧ (if nI s = 1 then p4.toNatClampNeg else 0) = t := by
        by_cases z : s = 1
        · obtain ⟨t, ht, e⟩ := up_nat (n := 5) (by omega) (w1.2.2 (by rw [z]; rfl))
          exact ⟨t, by omega, fun _ => e, by rw [if_pos (by rw [z]; rfl), e, nclampI (by omega)]⟩
        · exact ⟨0, by omega, fun q => absurd q z, if_neg (fun (q : nI s = 1) => z ((neqI (by omega) (by omega)).mp (show nI s = nI 1 from q)))⟩
      obtain ⟨t, ht, h4, et⟩ := ht
      have eg := List.getElem?_eq_getElem hg
      have egd : A.getD (nI g).toNatClampNeg (none, 0, []) = A[g] := by
        rw [nclampI (by omega), List.getD_eq_getElem?_getD, eg]
        rfl
      rw [et, egd, nclampI (a := s) (by omega), nclampI (a := p) (by omega)]
      obtain ⟨d1, d2, d3, d4, d5, d6, d7⟩ := c5 g _ eg
      generalize A[g] = e at *
      unfold gbC
      rw [grd_y ((nvp (by omega)).mpr (by omega)), nclampI (a := g) (by omega), d5, c3]
      by_cases w3 : y < e.2.1
      · rw [if_neg (fun q => by have := (nleI (by omega) (by omega)).mp q; omega), if_pos w3, TT_some]
        exact ⟨by show (-3 : Int32) = _; decide, hself, by unfold RN; omega⟩
      · rw [if_pos ((nleI (by omega) (by omega)).mpr (by omega)), if_neg w3, TT_bind]
        refine (ru_open h hS hB c4).mono ?_
        rintro M1 ⟨m1, o1, k1, f1, n1, z1⟩
        have hC1 := m1.1
        unfold LayC at hC1
        simp only [hC1, grd_T, Option.bind_some]
        rw [grd_y ((nvp (by omega)).mpr (by omega)), f1.i (a := 7) (by omega) (by unfold Sop; omega), d6, TT_bind]
        refine (c_take m1.1 d3).mono ?_
        rintro M2 ⟨f2, pl2⟩
        obtain ⟨m2, k2⟩ := m1.fr f2 (fun a k w => by unfold Spl at w; unfold Frr; omega)
        have o2 : OPN (B + 1) y M2 := by
          obtain ⟨SC, x1, x2, x3⟩ := o1.run m1.2.1 (by omega)
          exact x3 Spl M2 f2 (fun a k w => by unfold Spl at w; omega) (x2.2.2 Spl M1 M2 (fun a k w => by unfold Spl at w; omega) f2 x1)
        have hC3 := m2.1
        unfold LayC at hC3
        simp only [hC3, grd_T, Option.bind_some]
        have em : f_X1_makes M2 26 (nI s) (nI p) p4 = f_X1_makes M2 26 (nI s) (nI p) (nI t) := by
          by_cases w : s = 1
          · rw [h4 w]
          · exact mk_free (by omega) w _ _ _
        rw [em, TT_bind]
        refine (ru_makes m2 o2 (by omega) d3 pl2 (show s < 5 by omega) (show p < 6 by omega) ht).mono ?_
        rintro ⟨M3, r⟩ ⟨m3, o3, k3, f3, q3⟩
        simp only at m3 o3 k3 f3 q3 ⊢
        rw [k2, k1] at q3
        have hI : CGI M (B + 1) M3 := ⟨((f1.up Sop_lk (fun _ _ w => w)).tr ((f2.fw).up (fun a k w => by unfold Spl at w; unfold Slk; omega) (fun _ _ w => w))).tr ((f3.fw).up (fun a k w => by unfold Scm Ssc at w; unfold Slk; omega) (fun _ _ w => w)), by rw [f3.1, f2.1, n1], by rw [f3.2.1, f2.2.1, z1], m3, by rw [k3, k2, k1], o3.sci⟩
        cases hcm : cmk (gtK (mI M 49)) (sdK (mI M 49)) (lwK (mI M 49) y) e.2.2 s p t with
        | none =>
          rw [hcm] at q3
          have q3 : r = -1 := q3
          rw [q3, if_pos rfl, TT_some]
          exact ⟨by show (-3 : Int32) = _; decide, hI, by unfold RN; omega⟩
        | some cc =>
          rw [hcm] at q3
          obtain ⟨q3, q4⟩ := q3
          have q3 : r = nI (rank cc.1) := q3
          have hdl : DL cc.1 := (cmk_DL d3 (fun s t p n h w e => lwK_le e) (fun t ht u q => (h.gs.1 t ht).2.2 u q) ht hcm).1
          have hc3 : CST M3 A y := hc.fw h78 hI.1 (fun a k w => by unfold Slk at w; omega)
          have hC4 := m3.1
          unfold LayC at hC4
          rw [q3, if_neg (rank_ne hdl)]
          simp only [hC4, grd_T, Option.bind_some]
          rw [hc3.2.2.1]
          by_cases w5 : A.length = 12
          · rw [c_add_no m3.1 (by rw [hc3.2.1, w5]), Option.bind_some, TT_some, if_pos w5]
            exact ⟨by show (-5 : Int32) = _; decide, hI, by unfold RN; omega⟩
          · rw [c_add m3.1 (by omega) hc3.2.1 hdl, Option.bind_some, TT_some, if_neg w5]
            exact ⟨rfl, M3, g, rfl, hg, hI, hdl, by omega, rfl⟩
    · rw [if_neg w2, if_pos rfl, if_neg w2, TT_some]
      exact ⟨by show (-2 : Int32) = _; decide, hself, by unfold RN; omega⟩
  · rw [if_neg w1, if_pos rfl, if_neg w1, TT_some]
    exact ⟨by show (-1 : Int32) = _; decide, hself, by unfold RN; omega⟩
/-! being born: the reference -/
def rgQ (M : Mem) (A : List (Option Nat × Nat × List Nat)) (y : Nat) (p1 : Int32) (o : Nat ⊕ List Nat) (q : Mem × Int32) : Prop := match o with
  | .inl r => q.2 = -(nI r) ∧ Fr Srv M q.1
  | .inr l => q.2 = nI A.length ∧ ∃ M', Fr Srv M M' ∧ q.1 = ADDM M' A.length p1 (nI y) (nI (num l))
noncomputable def beB (M : Mem) (p1 p2 p3 p4 : Int32) : Option (Mem × Int32) := grd (okO M 12 47) (Option.bind (f_X12_isHouse M 47 p1) (fun q12 => if q12 = 0 then (some (M, (-2))) else (Option.bind (mR M 47 3) (fun r15 => grd (okO M 14 r15) (grd (vp_in 54 (mL M r15)) (bv (mI M r15 (54 : Int32).toNatClampNeg : Int32) (fun x18 => Option.bind (f_X12_fact M 47 p1 2) (fun q19 => Option.bind (f_X12_changed M 47 q19 p2 p3 p4 x18) (fun q22 => if q22.2 = (-1) then (some (q22.1, (-3))) else (Option.bind (f_X12_fact q22.1 47 p1 1) (fun q27 => if q27 ≤ x18 then (Option.bind (mR q22.1 47 3) (fun r30 => grd (okO q22.1 14 r30) (grd (vp_in 56 (mL q22.1 r30)) (if (mI q22.1 r30 (56 : Int32).toNatClampNeg) = 12 then (some (q22.1, (-5))) else (Option.bind (f_X12_adds q22.1 47 p1 x18 q22.2) (fun q33 => Option.bind (mR q33 47 3) (fun r38 => grd (okO q33 14 r38) (grd (vp_in 56 (mL q33 r38)) (some (q33, (mI q33 r38 (56 : Int32).toNatClampNeg) - 1)))))))))) else (some (q22.1, (-3))))))))))))))
theorem bears_eq {M : Mem} {p1 p2 p3 p4 : Int32} : f_X12_bears M 47 p1 p2 p3 p4 = Option.bind (f_X12_lies p2 0 4) (fun q1 => if q1 = 0 then (some (M, (-1))) else (Option.bind (f_X12_isPlace p3) (fun q4 => if q4 = 0 then (some (M, (-1))) else (if p2 = 1 then (Option.bind (f_X12_isThing p4) (fun q41 => if q41 = 0 then (some (M, (-1))) else (beB M p1 p2 p3 p4))) else (beB M p1 p2 p3 p4))))) := rfl
theorem bears_if {M : Mem} {p1 p2 p3 p4 : Int32} : f_X12_bears M 47 p1 p2 p3 p4 = if (0 ≤ p2 ∧ p2 ≤ 4) ∧ (0 ≤ p3 ∧ p3 ≤ 5) ∧ (p2 = 1 → 0 ≤ p4 ∧ p4 ≤ 5) then beB M p1 p2 p3 p4 else some (M, -1) := by
  have ep : f_X12_isPlace p3 = some (if 0 ≤ p3 ∧ p3 ≤ 5 then 1 else 0) := by
    unfold f_X12_isPlace
    rw [p_lies, Option.bind_some, grd_y (bl_if _)]
  rw [bears_eq, lies_bind, ep, Option.bind_some, r_isThing, Option.bind_some]
  by_cases w1 : 0 ≤ p2 ∧ p2 ≤ 4
  · rw [if_pos w1]
    by_cases w2 : 0 ≤ p3 ∧ p3 ≤ 5
    · rw [if_pos w2, if_neg (show ¬ (1 : Int32) = 0 by decide)]
      by_cases w3 : p2 = 1
      · rw [if_pos w3]
        by_cases w4 : 0 ≤ p4 ∧ p4 ≤ 5
        · rw [if_pos w4, if_neg (show ¬ (1 : Int32) = 0 by decide), if_pos ⟨w1, w2, fun _ => w4⟩]
        · rw [if_neg w4, if_pos rfl, if_neg (fun q => w4 (q.2.2 w3))]
      · rw [if_neg w3, if_pos ⟨w1, w2, fun q => absurd q w3⟩]
    · rw [if_neg w2, if_pos rfl, if_neg (fun q => w2 q.2.1)]
  · rw [if_neg w1, if_neg (fun q => w1 q.1)]
theorem r_factK {M : Mem} (hM : LayM M) {h w : Nat} (hh : h < 12) (hw : w < 3) : f_X12_fact M 47 (nI h) (nI w) = some (mI M 49 (18 + 3 * h + w)) := by
  unfold LayM at hM
  unfold f_X12_fact
  simp only [hM, grd_T, Option.bind_some]
  rw [show (3 : Int32) = nI 3 from rfl, nmul, show (18 : Int32) = nI 18 from rfl, nadd, nadd, grd_y ((nvp (by omega)).mpr (by omega)), nclampI (by omega)]
theorem r_bears {y : Nat} {M : Mem} (h : RUL M) {A : List (Option Nat × Nat × List Nat)} (hc : KST (mI M 49) A y) (p1 p2 p3 p4 : Int32) : TT (f_X12_bears M 47 p1 p2 p3 p4) (rgQ M A y p1 (gbO (mI M 49) A y p1 p2 p3 p4)) := by
  have hM := h.2.1
  have hM2 := hM
  obtain ⟨g1, g2, g3⟩ := h.gs
  obtain ⟨c1, c2, c3, c4, c5⟩ := id hc
  have hh := r_isHouse hM c1 c2 p1
  unfold LayM at hM2
  have g54 : vp_in 54 5666 := show vp_in (nI 54) 5666 from (nvp (by omega)).mpr (by omega)
  have c54 : (54 : Int32).toNatClampNeg = 54 := by decide
  have g56 : vp_in 56 5666 := show vp_in (nI 56) 5666 from (nvp (by omega)).mpr (by omega)
  have c56 : (56 : Int32).toNatClampNeg = 56 := by decide
  rw [bears_if]
  unfold gbO
  by_cases w1 : (0 ≤ p2 ∧ p2 ≤ 4) ∧ (0 ≤ p3 ∧ p3 ≤ 5) ∧ (p2 = 1 → 0 ≤ p4 ∧ p4 ≤ 5)
  · rw [if_pos w1, if_pos w1]
    unfold beB
    simp only [hM2, grd_T, Option.bind_some, bv, c54, c56]
    rw [hh, Option.bind_some]
    by_cases w2 : 0 ≤ p1 ∧ p1 < nI A.length
    · rw [if_pos w2, if_neg (show ¬ (1 : Int32) = 0 by decide), if_pos w2]
      obtain ⟨g, hg, rfl⟩ := in_nat c1 w2
      obtain ⟨s, hs, rfl⟩ := up_nat (n := 4) (by omega) w1.1
      obtain ⟨p, hp, rfl⟩ := up_nat (n := 5) (by omega) w1.2.1
      have ht : ∃ t, t < 6 ∧ (s = 1 → p4 = nI t ∧ t < 6) ∧ (if nI s = 1 then p4.toNatClampNeg else 0) = t := by
        by_cases z : s = 1
        · obtain ⟨t, ht, e⟩ := up_nat (n := 5) (by omega) (w1.2.2 (by rw [z]; rfl))
          exact ⟨t, by omega, fun _ => ⟨e, by omega⟩, by rw [if_pos (by rw [z]; rfl), e, nclampI (by omega)]⟩
        · exact ⟨0, by omega, fun q => absurd q z, if_neg (fun (q : nI s = 1) => z ((neqI (by omega) (by omega)).mp (show nI s = nI 1 from q)))⟩
      obtain ⟨t, ht, h4, et⟩ := ht
      have eg := List.getElem?_eq_getElem hg
      have egd : A.getD (nI g).toNatClampNeg (none, 0, []) = A[g] := by
        rw [nclampI (by omega), List.getD_eq_getElem?_getD, eg]
        rfl
      rw [et, egd, nclampI (a := s) (by omega), nclampI (a := p) (by omega)]
      obtain ⟨d1, d2, d3, d4, d5, d6⟩ := c5 g _ eg
      generalize A[g] = e at *
      unfold gbC
      rw [grd_y g54, show (2 : Int32) = nI 2 from rfl, r_factK hM (by omega) (by omega), Option.bind_some, show 18 + 3 * g + 2 = 20 + 3 * g by omega, d6, c3, TT_bind]
      refine (p_changed g3 hM (fun _ => rfl) d3 g1 (show s < 5 by omega) (show p < 2147483000 by omega) h4 ht c4).mono ?_
      rintro ⟨M1, r⟩ ⟨a1, a2⟩
      simp only at a1 a2 ⊢
      have b1' : Fr Srv M M1 := a1.up Sch_rv
      have e49 : mI M1 49 = mI M 49 := funext (fun k => b1'.i (by unfold Srv; omega))
      have hM3 := hM.fr b1'
      have hM32 := hM3
      unfold LayM at hM32
      cases hcm : cmk (gtK (mI M 49)) (sdK (mI M 49)) (lwK (mI M 49) y) e.2.2 s p t with
      | none =>
        rw [hcm] at a2
        simp only at a2
        rw [a2, if_pos rfl, TT_some]
        by_cases w3 : y < e.2.1
        · rw [if_pos w3]
          exact ⟨by show (-3 : Int32) = _; decide, b1'⟩
        · rw [if_neg w3]
          exact ⟨by show (-3 : Int32) = _; decide, b1'⟩
      | some cc =>
        rw [hcm] at a2
        obtain ⟨a2, -⟩ := a2
        have hdl : DL cc.1 := (cmk_DL d3 (fun s t p n h w e => lwK_le e) (fun t ht u q => (g1 t ht).2.2 u q) ht hcm).1
        rw [a2, if_neg (num_ne hdl), show (1 : Int32) = nI 1 from rfl, r_factK hM3 (by omega) (by omega), Option.bind_some, e49, show 18 + 3 * g + 1 = 19 + 3 * g by omega, d5]
        by_cases w3 : y < e.2.1
        · rw [if_neg (fun q => by have := (nleI (by omega) (by omega)).mp q; omega), if_pos w3, TT_some]
          exact ⟨by show (-3 : Int32) = _; decide, b1'⟩
        · rw [if_pos ((nleI (by omega) (by omega)).mpr (by omega)), if_neg w3]
          simp only [hM32, grd_T, Option.bind_some]
          rw [grd_y g56, e49, c2]
          by_cases w5 : A.length = 12
          · rw [if_pos (by rw [w5]; rfl), if_pos w5, TT_some]
            exact ⟨by show (-5 : Int32) = _; decide, b1'⟩
          · have h12 : A.length < 12 := by omega
            rw [if_neg (fun (q : nI A.length = 12) => w5 ((neqI (by omega) (by omega)).mp (show nI A.length = nI 12 from q))), if_neg w5, r_adds hM3 h12 (by rw [e49]; exact c2), Option.bind_some]
            have hM4 : LayM (ADDM M1 A.length (nI g) (nI y) (nI (num cc.1))) := hM3
            have hM42 := hM4
            unfold LayM at hM42
            simp only [hM42, grd_T, Option.bind_some]
            rw [grd_y g56, addm_49, KADD_56, TT_some]
            refine ⟨?_, M1, b1', rfl⟩
            show nI (A.length + 1) - nI 1 = _
            rw [nsub (by omega)]
            rfl
    · rw [if_neg w2, if_pos rfl, if_neg w2, TT_some]
      exact ⟨by show (-2 : Int32) = _; decide, Fr.rf⟩
  · rw [if_neg w1, if_neg w1, TT_some]
    exact ⟨by show (-1 : Int32) = _; decide, Fr.rf⟩
