/-! ORDERS: the class runs one CLAUSE once, when its values are told -/
noncomputable def roK (a0 r4 : Nat) (q33 : Int32) (z1 z2 z3 : Int64) (M1 : Mem) : Option (Mem × Int32) := if (lg_cmp z1 (-4611686018427387904)) = 0 then (some (M1, (-3))) else (if (lg_cmp z2 (-4611686018427387904)) = 0 then (some (M1, (-3))) else (if (lg_cmp z3 (-4611686018427387904)) = 0 then (some (M1, (-3))) else (grd (vp_in 2 (mL M1 r4)) (bv (wI M1 r4 (2 : Int32).toNatClampNeg ((mI M1 r4 (2 : Int32).toNatClampNeg) + 1)) (fun M63 => if q33 = 5 then (Option.bind (f_X11_turnYear M63 a0 z1.toInt32) (fun q94 => some (q94.1, q94.2))) else (Option.bind (f_X11_giveBirth M63 a0 z1.toInt32 q33 z3.toInt32 z2.toInt32) (fun q68 => if 0 ≤ q68.2 then (Option.bind (mR q68.1 a0 0) (fun r74 => grd (okO q68.1 10 r74) (Option.bind (mR q68.1 r74 5) (fun r76 => grd (okO q68.1 14 r76) (grd (vp_in q68.2 (mL q68.1 r76)) (Option.bind (f_X6_numberOf (mI q68.1 r76 q68.2.toNatClampNeg)) (fun q79 => grd (vp_in 3 (mL q68.1 r4)) (bv (wI q68.1 r4 (3 : Int32).toNatClampNeg q79) (fun M83 => Option.bind (f_X11_tellHouse M83 a0 q68.2) (fun q88 => some (q88, 0))))))))))) else (if q68.2 = (-5) then (some (q68.1, (-5))) else (some (q68.1, (-3)))))))))))
noncomputable def roP (a0 a1 r4 : Nat) (p2 q33 : Int32) (z1 : Int64) (s50 : Mem × Int64) : Option (Mem × Int32) := if q33 = 5 then (roK a0 r4 q33 z1 s50.2 0 s50.1) else (Option.bind (mR s50.1 a0 3) (fun r100 => Option.bind (mR s50.1 a1 1) (fun r101 => Option.bind (f_X9_told s50.1 a1 p2 5) (fun q102 => grd (okO s50.1 3 r100) (Option.bind (f_X3_run s50.1 r100 r101 q102) (fun q106 => roK a0 r4 q33 z1 s50.2 q106.2 q106.1))))))
noncomputable def roT (a0 a1 r4 : Nat) (p2 q33 : Int32) (q42 : Mem × Int64) : Option (Mem × Int32) := if q33 = 1 then (Option.bind (mR q42.1 a0 3) (fun r113 => Option.bind (mR q42.1 a1 1) (fun r114 => Option.bind (f_X9_told q42.1 a1 p2 4) (fun q115 => grd (okO q42.1 3 r113) (Option.bind (f_X3_run q42.1 r113 r114 q115) (fun q119 => roP a0 a1 r4 p2 q33 q42.2 (q119.1, q119.2))))))) else (roP a0 a1 r4 p2 q33 q42.2 (q42.1, 0))
noncomputable def roJ (a0 a1 r4 : Nat) (p2 : Int32) (s27 : Mem) : Option (Mem × Int32) := Option.bind (f_X9_told s27 a1 p2 0) (fun q33 => Option.bind (mR s27 a0 3) (fun r36 => Option.bind (mR s27 a1 1) (fun r37 => Option.bind (f_X9_told s27 a1 p2 3) (fun q38 => grd (okO s27 3 r36) (Option.bind (f_X3_run s27 r36 r37 q38) (fun q42 => roT a0 a1 r4 p2 q33 q42))))))
theorem runOnce_eq {M : Mem} {a0 a1 : Nat} {p2 : Int32} : f_X11_runOnce M a0 a1 p2 = grd (okO M 11 a0) (Option.bind (mR M a0 3) (fun r2 => grd (okO M 3 r2) (Option.bind (mR M r2 0) (fun r4 => Option.bind (mR M a0 0) (fun r5 => grd (okO M 10 r5) (grd (okO M 14 r4) (grd (vp_in 0 (mL M r4)) (bv (wI M r4 (0 : Int32).toNatClampNeg (mI M r5 11)) (fun M9 => Option.bind (mR M9 a0 0) (fun r14 => grd (okO M9 10 r14) (grd (vp_in 1 (mL M9 r4)) (bv (wI M9 r4 (1 : Int32).toNatClampNeg (mI M9 r14 8)) (fun M17 => grd (okO M17 9 a1) (Option.bind (f_X9_told M17 a1 p2 2) (fun q23 => if q23 = (-1) then (roJ a0 a1 r4 p2 M17) else (Option.bind (mR M17 a0 3) (fun r126 => Option.bind (mR M17 a1 1) (fun r127 => grd (okO M17 3 r126) (Option.bind (f_X3_run M17 r126 r127 q23) (fun q129 => if (lg_cmp q129.2 1) = 0 then (roJ a0 a1 r4 p2 q129.1) else (some (q129.1, 0)))))))))))))))))))))) := rfl
/-- what becomes of it -/
noncomputable def orV (K : Nat → Int32) (k : Nat) (v th pl : Int) (A : HSE) (y dn : Nat) (la : Int32) : Nat ⊕ OST := if k = 5 then (if 0 ≤ v ∧ v ≤ 999 then .inr (A, v.toNat, dn + 1, la) else .inl 3) else (match gbO K A y (ii v) (nI k) (ii pl) (ii th) with
      | .inl e => .inl (if e = 5 then 5 else 3)
      | .inr l => .inr (A ++ [(some (ii v).toNatClampNeg, y, l)], y, dn + 1, nI (num l)))
theorem COS.birth {n0 B : Nat} {K0 : Nat → Int32} {cls : List CL} {code : List Nat} {M M1 : Mem} {A : HSE} {y : Nat} (h : COS n0 B K0 cls code M A y) (hg : CGI M (B + 1) M1) : COS n0 (B + 1) K0 cls code M1 A y ∧ CFW n0 0 M M1 := by
  obtain ⟨h1, h2, h3, h4, h5, h6⟩ := h
  have h78 : 78 ≤ mn M := h1.2.2.2.2.2.2.2.2.1
  obtain ⟨g1, g2, g3, g4, g5, g6⟩ := hg
  refine ⟨⟨g4, g5.trans h2, g6, h4.fw h78 g1 (fun a k w => by unfold Slk at w; omega), h5.fw h78 g1 (fun a k w => by unfold Slk at w; omega), h6⟩, g1.up (fun a k w => Or.inl w) (fun _ _ w => w), g2, g3, 0, by omega, ?_, fun _ a k w => g1.i (by unfold Shs at w; omega) (by unfold Shs at w; unfold Slk; omega)⟩
  rw [g1.i (by omega) (by unfold Slk; omega)]
  exact (Int32.add_zero _).symm
theorem COS.grow {n0 B : Nat} {K0 : Nat → Int32} {cls : List CL} {code : List Nat} {M : Mem} {A : HSE} {y : Nat} (h : COS n0 B K0 cls code M A y) {g : Nat} (hg : g < A.length) (h12 : A.length < 12) {l : List Nat} (hl : DL l) : COS n0 B K0 cls code (ADDC M A.length (nI g) (nI y) (nI (rank l)) (nI (tst l))) (A ++ [(some g, y, l)]) y ∧ CFW n0 1 M (ADDC M A.length (nI g) (nI y) (nI (rank l)) (nI (tst l))) := by
  obtain ⟨h1, h2, h3, h4, h5, h6⟩ := h
  have h78 : 78 ≤ mn M := h1.2.2.2.2.2.2.2.2.1
  have hF := addc_sad (M := M) (n := A.length) (p1 := nI g) (p2 := nI y) (p3 := nI (rank l)) (p4 := nI (tst l))
  have hcs := h4.add hg h12 hl
  have e14 := addc_14 (M := M) (n := A.length) (p1 := nI g) (p2 := nI y) (p3 := nI (rank l)) (p4 := nI (tst l))
  generalize ADDC M A.length (nI g) (nI y) (nI (rank l)) (nI (tst l)) = M1 at *
  obtain ⟨r1, r2⟩ := h1.fr hF (fun a k w => by unfold Sad at w; unfold Frr; omega)
  refine ⟨⟨r1, r2.trans h2, h3.fwH h78 (hF.fw (R := fun _ _ => False)) (fun a k w => ⟨by unfold Sad at w; omega, by unfold Sad at w; omega, by unfold Sad at w; omega, by unfold Sad at w; omega, by unfold Sad at w; omega, by unfold Sad at w; omega, fun z => by have := z.1; unfold Sad at w; omega⟩) (fun _ _ w => w.elim), hcs, h5.fw h78 (hF.fw (R := fun _ _ => False)) (fun a k w => by unfold Sad at w; omega), by rw [List.length_append]; omega⟩, (hF.fw).up (fun a k w => by unfold Sad at w; unfold Sco; omega) (fun _ _ w => w), hF.1, hF.2.1, 1, by omega, e14, fun w => by omega⟩
theorem c_roK {n0 B : Nat} {K0 : Nat → Int32} {cls : List CL} {code : List Nat} {M : Mem} {A : HSE} {y dn : Nat} {la : Int32} (hB : B < 16777000) (h : COS n0 B K0 cls code M A y) (hw : WDS M A dn la) {k : Nat} (hk : k ≤ 5) {v th pl : Int} (hv : S32 v) (ht : S32 th) (hp : S32 pl) : TT (roK 0 19 (nI k) (jj v) (jj th) (jj pl) M) (roQ n0 B K0 cls code M (orV K0 k v th pl A y dn la)) := by
  obtain ⟨h1, h2, h3, h4, h5, h6⟩ := id h
  have hC := h1.1
  have l : okO M 14 19 ∧ mL M 19 = 88 := by
    unfold LayC at hC
    simp only [hC, and_self]
  have e2 : mI M 19 2 = nI dn := hw 2 (by omega) (by omega) 0
  unfold roK
  rw [if_neg (jb_ne hv), if_neg (jb_ne ht), if_neg (jb_ne hp), l.2, grd_y (show vp_in 2 88 from (show vp_in (nI 2) 88 from (nvp (by omega)).mpr (by omega))), TT_bv, show (2 : Int32).toNatClampNeg = 2 from by decide, e2, nsucc, jj_ii hv, jj_ii ht, jj_ii hp]
  have f1 : Fr S19 M (wI M 19 2 (nI (dn + 1))) := Fr.rf.wI (show S19 19 2 from rfl)
  have w1 : WDS (wI M 19 2 (nI (dn + 1))) A (dn + 1) la := hw.dn
  generalize wI M 19 2 (nI (dn + 1)) = M1 at f1 w1
  have hs19 : ∀ a k, S19 a k → a = 19 ∨ a = 20 := fun a k w => Or.inl w
  have c1 := h.fr f1 hs19
  have hC1 := c1.1.1
  have l1 : okO M1 11 0 ∧ okO M1 10 1 ∧ mR M1 0 0 = some 1 := by
    unfold LayC at hC1
    simp only [hC1, and_self]
  unfold orV
  by_cases k5 : k = 5
  · rw [if_pos (show nI k = 5 by rw [k5]; rfl), if_pos k5]
    unfold f_X11_turnYear
    rw [c_isYear, Option.bind_some]
    by_cases z : 0 ≤ v ∧ v ≤ 999
    · rw [if_pos ((ii_year hv).mpr z), if_neg (show ¬ (1 : Int32) = 0 by decide), if_pos z, grd_y l1.1, l1.2.2, Option.bind_some, grd_y l1.2.1, turnTo_eq l1.2.1, Option.bind_some, Option.bind_some, TT_some]
      have ev : ii v = nI v.toNat := by
        rw [nI_ii]
        congr 1
        omega
      rw [ev]
      have ff := turn_fr (M := M1) (p := nI v.toNat) (q := mI M1 1 14 + 1)
      have ct := (c1.turn (y' := v.toNat) (by omega) (q := mI M1 1 14 + 1)).mono (show B ≤ B + 1 by omega)
      have e14 : mI (wI (wI M1 1 11 (nI v.toNat)) 1 14 (mI M1 1 14 + 1)) 1 14 = mI M1 1 14 + 1 := mI_wIs
      generalize wI (wI M1 1 11 (nI v.toNat)) 1 14 (mI M1 1 14 + 1) = M2 at *
      refine roQ.of (M1 := M1) ⟨⟨(ff.fw).up (fun a k w => by unfold Syr at w; unfold Sco; omega) (fun _ _ w => w), ff.1, ff.2.1, 1, by omega, e14, fun w => by omega⟩, rfl, ct, w1.fr ff (fun k w => by unfold Syr at w; omega)⟩ f1 hs19
    · rw [if_neg (fun w => z ((ii_year hv).mp w)), if_pos rfl, if_neg z, Option.bind_some, TT_some]
      exact roQ.of (M1 := M1) ⟨CFW.rf.up (by omega), by show (-3 : Int32) = _; decide, Or.inr rfl, A, y, c1.mono (by omega)⟩ f1 hs19
  · rw [if_neg (fun (q : nI k = 5) => k5 ((neqI (by omega) (by omega)).mp (show nI k = nI 5 from q))), if_neg k5, TT_bind]
    refine (c_give c1.1 c1.2.2.1 hB c1.2.2.2.1 (ii v) (nI k) (ii pl) (ii th)).mono ?_
    rintro ⟨M2, x⟩ hq
    rw [c1.2.1] at hq
    cases ho : gbO K0 A y (ii v) (nI k) (ii pl) (ii th) with
    | inl r =>
      rw [ho] at hq
      obtain ⟨q1, q2, q3⟩ := hq
      simp only at q1 q2 ⊢
      obtain ⟨b1', b2⟩ := c1.birth q2
      have hr := gbO_inl ho
      rw [q1, if_neg (by rcases hr with z | z | z | z <;> subst z <;> decide)]
      by_cases r5 : r = 5
      · subst r5
        rw [if_pos (by decide), TT_some]
        exact roQ.of (M1 := M1) ⟨b2.up (by omega), by show (-5 : Int32) = _; decide, Or.inl rfl, A, y, b1'⟩ f1 hs19
      · rw [if_neg (by rcases hr with z | z | z | z <;> subst z <;> first | decide | exact absurd rfl r5), TT_some, if_neg r5]
        exact roQ.of (M1 := M1) ⟨b2.up (by omega), by show (-3 : Int32) = _; decide, Or.inr rfl, A, y, b1'⟩ f1 hs19
    | inr lst =>
      rw [ho] at hq
      obtain ⟨q1, M3, g, q2, q3, q4, q5, q6, q7⟩ := hq
      simp only at q1 q7 ⊢
      obtain ⟨b1', b2⟩ := c1.birth q4
      rw [q2] at q7
      rw [q2, nclampI (by omega)]
      obtain ⟨d1, d2⟩ := b1'.grow q3 q6 q5
      rw [← q7] at d1 d2
      have hC2 := d1.1.1
      have l2 : okO M2 10 1 ∧ mR M2 0 0 = some 1 ∧ mR M2 1 5 = some 7 ∧ okO M2 14 7 ∧ mL M2 7 = 12 ∧ mL M2 19 = 88 := by
        unfold LayC at hC2
        simp only [hC2, and_self]
      obtain ⟨m1, m2, m3, m4, m5, m6⟩ := l2
      have e7 : mI M2 7 A.length = nI (rank lst) := (d1.2.2.2.1.2.2.2.2 A.length _ hse_at).2.2.2.2.2.1
      have w2 : WDS M2 A (dn + 1) la := fun j j1 j2 y' => by
        have e : mI M2 19 j = mI M1 19 j := by
          rw [q7, addc_sad.i (by unfold Sad; omega), q4.1.i (by have := c1.1.2.2.2.2.2.2.2.2.1; omega) (by unfold Slk; omega)]
        rw [e]
        exact w1 j j1 j2 y'
      rw [q1, if_pos (by rw [show (0 : Int32) = nI 0 from rfl, nleI (by omega) (by omega)]; omega), m2, Option.bind_some, grd_y m1, m3, Option.bind_some, grd_y m4, m5, grd_y ((nvp (by omega)).mpr q6), nclampI (by omega), e7, p_numOf q5, Option.bind_some, m6, grd_y (show vp_in 3 88 from (show vp_in (nI 3) 88 from (nvp (by omega)).mpr (by omega))), TT_bv, show (3 : Int32).toNatClampNeg = 3 from by decide, TT_bind]
      have f3 : Fr S19 M2 (wI M2 19 3 (nI (num lst))) := Fr.rf.wI (show S19 19 3 from rfl)
      have w3 : WDS (wI M2 19 3 (nI (num lst))) A (dn + 1) (nI (num lst)) := w2.la
      generalize wI M2 19 3 (nI (num lst)) = M4 at f3 w3
      have c4 := d1.fr f3 hs19
      refine (c_tellHouse c4.1.1 c4.1.2.2.2.2.2.2.2.2.1 c4.2.2.2.1 hse_at).mono ?_
      intro M5 h5'
      rw [TT_some]
      refine roQ.of (M1 := M1) ⟨(((b2.tr d2).tr (CFW.fr f3 hs19)).tr (CFW.fr h5'.1 hs19)).up (by omega), rfl, c4.fr h5'.1 hs19, w3.add (e := (some g, y, lst)) q6 h5'⟩ f1 hs19
