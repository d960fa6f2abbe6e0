/-! change() on both sides -/
theorem c_change_no {M : Mem} {p1 p2 p3 p4 p5 : Int32} {l : List Nat} (hr : f_X6_rankOf p1 = some (nI (rank l))) (hl : DL l) (h : ¬ (((0 ≤ p2 ∧ p2 ≤ 4) ∧ (0 ≤ p3 ∧ p3 ≤ 5) ∧ (p2 = 1 → 0 ≤ p4 ∧ p4 ≤ 5)) ∧ 0 ≤ p5 ∧ p5 ≤ 1)) : f_X11_change M 0 p1 p2 p3 p4 p5 = some (M, -1) := by
  unfold f_X11_change
  rw [hr, Option.bind_some, if_neg (rank_ne hl), c_isChange, Option.bind_some]
  by_cases w : (0 ≤ p2 ∧ p2 ≤ 4) ∧ (0 ≤ p3 ∧ p3 ≤ 5) ∧ (p2 = 1 → 0 ≤ p4 ∧ p4 ≤ 5)
  · rw [if_pos w, if_neg (show ¬ (1 : Int32) = 0 by decide)]
    by_cases w2 : p5 < 0
    · rw [if_pos w2]
    · rw [if_neg w2, if_neg (fun q => h ⟨w, ?_, q⟩)]
      simp only [Int32.lt_iff_toInt_lt, Int32.le_iff_toInt_le] at w2 ⊢
      omega
  · rw [if_neg w, if_pos rfl]
noncomputable def rcB (M : Mem) (p1 p2 p3 p4 p5 : Int32) : Option (Mem × Int32) := grd (okO M 12 47) (Option.bind (mR M 47 3) (fun r15 => grd (okO M 14 r15) (grd (vp_in 54 (mL M r15)) (Option.bind (f_X12_changed M 47 p1 p2 p3 p4 (mI M r15 (54 : Int32).toNatClampNeg)) (fun q18 => if q18.2 = (-1) then (some (q18.1, (-1))) else (if p5 = 0 then (some (q18.1, q18.2)) else (Option.bind (mR q18.1 47 3) (fun r23 => grd (okO q18.1 14 r23) (grd (vp_in 54 (mL q18.1 r23)) (Option.bind (f_X12_weighs q18.1 47 p1 p2 p3 (mI q18.1 r23 (54 : Int32).toNatClampNeg)) (fun q26 => some (q26.1, q26.2))))))))))))
theorem r_change_eq {M : Mem} {p1 p2 p3 p4 p5 : Int32} (hd : f_X12_isDish p1 = some 1) : f_X12_change M 47 p1 p2 p3 p4 p5 = if (0 ≤ p2 ∧ p2 ≤ 4) ∧ (p2 = 1 → 0 ≤ p4 ∧ p4 ≤ 5) ∧ (0 ≤ p5 ∧ p5 ≤ 1) then rcB M p1 p2 p3 p4 p5 else some (M, -1) := by
  have e0 : f_X12_change M 47 p1 p2 p3 p4 p5 = Option.bind (f_X12_isDish p1) (fun q1 => if q1 = 0 then (some (M, (-1))) else (Option.bind (f_X12_lies p2 0 4) (fun q4 => if q4 = 0 then (some (M, (-1))) else (if p2 = 1 then (Option.bind (f_X12_isThing p4) (fun q31 => if q31 = 0 then (some (M, (-1))) else (Option.bind (f_X12_lies p5 0 1) (fun q11 => if q11 = 0 then (some (M, (-1))) else (rcB M p1 p2 p3 p4 p5))))) else (Option.bind (f_X12_lies p5 0 1) (fun q11 => if q11 = 0 then (some (M, (-1))) else (rcB M p1 p2 p3 p4 p5))))))) := rfl
  rw [e0, hd, Option.bind_some, if_neg (show ¬ (1 : Int32) = 0 by decide), lies_bind, lies_bind, r_isThing, Option.bind_some]
  by_cases w1 : 0 ≤ p2 ∧ p2 ≤ 4
  · rw [if_pos w1]
    by_cases w2 : p2 = 1
    · rw [if_pos w2]
      by_cases w3 : 0 ≤ p4 ∧ p4 ≤ 5
      · rw [if_pos w3, if_neg (show ¬ (1 : Int32) = 0 by decide)]
        by_cases w4 : 0 ≤ p5 ∧ p5 ≤ 1
        · rw [if_pos w4, if_pos ⟨w1, fun _ => w3, w4⟩]
        · rw [if_neg w4, if_neg (fun q => w4 q.2.2)]
      · rw [if_neg w3, if_pos rfl, if_neg (fun q => w3 (q.2.1 w2))]
    · rw [if_neg w2]
      by_cases w4 : 0 ≤ p5 ∧ p5 ≤ 1
      · rw [if_pos w4, if_pos ⟨w1, fun q => absurd q w2, w4⟩]
      · rw [if_neg w4, if_neg (fun q => w4 q.2.2)]
  · rw [if_neg w1, if_neg (fun q => w1 q.1)]
theorem Sch_rv : ∀ a k, Sch a k → Srv a k := fun a k h => Sls_rv a k (Or.inl h)
def chA (o : Option (List Nat × Nat)) (p5 : Int32) : Int32 := match o with
  | none => -1
  | some c => if p5 = 0 then nI (num c.1) else nI c.2
theorem r_change_y {M : Mem} (h : MID M) {l : List Nat} (hl : DL l) {s p t y : Nat} {p4 p5 : Int32} (hs : s < 5) (hp : p < 6) (h4 : s = 1 → p4 = nI t ∧ t < 6) (ht : t < 6) (hy : y ≤ 999) (h54 : mI M 49 54 = nI y) : TT (rcB M (nI (num l)) (nI s) (nI p) p4 p5) (fun q => Fr Srv M q.1 ∧ q.2 = chA (cmk (gtK (mI M 49)) (sdK (mI M 49)) (lwK (mI M 49) y) l s p t) p5) := by
  obtain ⟨g1, g2, g3⟩ := h.gs
  have hM := h.1.2.1
  have hM2 := hM
  unfold LayM at hM2
  have g54 : vp_in 54 5666 := show vp_in (nI 54) 5666 from (nvp (by omega)).mpr (by omega)
  have c54 : (54 : Int32).toNatClampNeg = 54 := by decide
  unfold rcB
  simp only [hM2, grd_T, Option.bind_some, c54]
  rw [grd_y g54, h54, TT_bind]
  refine (p_changed g3 hM (fun _ => rfl) hl g1 hs (by omega) h4 ht hy).mono ?_
  rintro ⟨M1, r⟩ ⟨a1, a2⟩
  simp only at a1 a2 ⊢
  have b1' : Fr Srv M M1 := a1.up Sch_rv
  obtain ⟨hm1, e49⟩ := h.fr b1' (fun a k w => by unfold Srv at w; unfold Frl; omega)
  cases hc : cmk (gtK (mI M 49)) (sdK (mI M 49)) (lwK (mI M 49) y) l s p t with
  | none =>
    rw [hc] at a2
    simp only at a2
    rw [a2, if_pos rfl, TT_some]
    exact ⟨b1', rfl⟩
  | some cc =>
    rw [hc] at a2
    obtain ⟨a2, th, a3, a4, a5⟩ := a2
    have hdl : DL cc.1 := (cmk_DL hl (fun s t p n h w e => lwK_le e) (fun t ht u q => (g1 t ht).2.2 u q) ht hc).1
    rw [a2, if_neg (num_ne hdl)]
    by_cases w : p5 = 0
    · rw [if_pos w, TT_some]
      refine ⟨b1', ?_⟩
      show _ = (if p5 = 0 then nI (num cc.1) else nI cc.2)
      rw [if_pos w]
    · rw [if_neg w]
      have hM1 := hm1.1.2.1
      have hM12 := hM1
      unfold LayM at hM12
      simp only [hM12, grd_T, Option.bind_some]
      rw [grd_y g54, e49, h54, TT_bind]
      refine (p_weighs g3 hM1 (fun k => by rw [e49]) hl hs hp hy a3 a4 a5).mono ?_
      rintro ⟨M2, r2⟩ ⟨d1, d2⟩
      rw [TT_some]
      refine ⟨b1'.tr (d1.up Sch_rv), ?_⟩
      show _ = (if p5 = 0 then nI (num cc.1) else nI cc.2)
      rw [if_neg w]
      exact d2
theorem c_take {M : Mem} (hC : LayC M) {l : List Nat} (hl : DL l) : TT (f_X1_take M 26 (nI (rank l))) (fun M' => Fr Spl M M' ∧ PLT M' l) := by
  have hC2 := hC
  unfold LayC at hC2
  unfold f_X1_take
  simp only [hC2, grd_T, Option.bind_some]
  rw [TT_bind]
  refine (p_load hC hl).mono ?_
  rintro M1 h1
  rw [TT_some]
  exact h1
theorem c_change_y {B : Nat} {M : Mem} (h : MID M) (hS : SCI B M) (hB : B < 16777000) {l : List Nat} (hl : DL l) {s p t y : Nat} {p1 p4 p5 : Int32} (hr : f_X6_rankOf p1 = some (nI (rank l))) (hs : s < 5) (hp : p < 6) (h4 : s = 1 → p4 = nI t) (ht : t < 6) (hy : y ≤ 999) (h54 : mI M 49 54 = nI y) (h5 : 0 ≤ p5 ∧ p5 ≤ 1) : TT (f_X11_change M 0 p1 (nI s) (nI p) p4 p5) (fun q => Fw Slk Rop M q.1 ∧ mn q.1 = mn M ∧ mz q.1 = mz M ∧ MID q.1 ∧ mI q.1 49 = mI M 49 ∧ SCI (B + 1) q.1 ∧ q.2 = chA (cmk (gtK (mI M 49)) (sdK (mI M 49)) (lwK (mI M 49) y) l s p t) p5) := by
  have hic : (0 ≤ nI s ∧ nI s ≤ 4) ∧ (0 ≤ nI p ∧ nI p ≤ 5) ∧ (nI s = 1 → 0 ≤ p4 ∧ p4 ≤ 5) := by
    refine ⟨⟨by rw [show (0 : Int32) = nI 0 from rfl, nleI (by omega) (by omega)]; omega, by rw [show (4 : Int32) = nI 4 from rfl, nleI (by omega) (by omega)]; omega⟩, ⟨by rw [show (0 : Int32) = nI 0 from rfl, nleI (by omega) (by omega)]; omega, by rw [show (5 : Int32) = nI 5 from rfl, nleI (by omega) (by omega)]; omega⟩, fun q => ?_⟩
    rw [h4 ((neqI (by omega) (by omega)).mp (show nI s = nI 1 from q))]
    exact ⟨by rw [show (0 : Int32) = nI 0 from rfl, nleI (by omega) (by omega)]; omega, by rw [show (5 : Int32) = nI 5 from rfl, nleI (by omega) (by omega)]; omega⟩
  have hC2 := h.1.1
  have e11 : mI M 1 11 = nI y := h.1.2.2.2.1.2.1.2.2.2.1.trans h54
  unfold LayC at hC2
  unfold f_X11_change
  rw [hr, Option.bind_some, if_neg (rank_ne hl), c_isChange, Option.bind_some, if_pos hic, if_neg (show ¬ (1 : Int32) = 0 by decide), if_neg (fun q => by simp only [Int32.lt_iff_toInt_lt, Int32.le_iff_toInt_le] at q h5; omega), if_pos h5.2]
  simp only [hC2, grd_T, Option.bind_some]
  rw [e11, TT_bind]
  refine (m_open h hS hB hy).mono ?_
  rintro M1 ⟨m1, o1, k1, f1, n1, z1⟩
  have hC1 := m1.1.1
  unfold LayC at hC1
  simp only [hC1, grd_T, Option.bind_some]
  rw [TT_bind]
  refine (c_take m1.1.1 hl).mono ?_
  rintro M2 ⟨f2, p2'⟩
  obtain ⟨m2, k2⟩ := m1.fr f2 (fun a k w => by unfold Spl at w; unfold Frl; omega)
  have o2 : OPN (B + 1) y M2 := by
    obtain ⟨SC, c1, c2, c3⟩ := o1.run m1.1.2.1 (by omega)
    exact c3 Spl M2 f2 (fun a k w => by unfold Spl at w; omega) (c2.2.2 Spl M1 M2 (fun a k w => by unfold Spl at w; omega) f2 c1)
  have hC3 := m2.1.1
  unfold LayC at hC3
  simp only [hC3, grd_T, Option.bind_some]
  rw [TT_bind]
  have em : f_X1_makes M2 26 (nI s) (nI p) p4 = f_X1_makes M2 26 (nI s) (nI p) (nI t) := by
    by_cases w : s = 1
    · rw [h4 w]
    · exact mk_free hs w _ _ _
  rw [em]
  refine (m_makes m2 o2 (by omega) hl p2' hs hp ht).mono ?_
  rintro ⟨M3, r⟩ ⟨m3, o3, k3, f3, q3⟩
  simp only at m3 o3 k3 f3 q3 ⊢
  rw [k2, k1] at q3
  have hF : Fw Slk Rop M M3 := ((f1.up Sop_lk (fun _ _ w => w)).tr ((f2.fw).up (fun a k w => by unfold Spl at w; unfold Slk; omega) (fun _ _ w => w))).tr ((f3.fw).up (fun a k w => by unfold Scm Ssc at w; unfold Slk; omega) (fun _ _ w => w))
  have hn : mn M3 = mn M := by rw [f3.1, f2.1, n1]
  have hz : mz M3 = mz M := by rw [f3.2.1, f2.2.1, z1]
  have hk : mI M3 49 = mI M 49 := by rw [k3, k2, k1]
  have hC4 := m3.1.1
  unfold LayC at hC4
  simp only [bv, hC4, grd_T, Option.bind_some]
  cases hc : cmk (gtK (mI M 49)) (sdK (mI M 49)) (lwK (mI M 49) y) l s p t with
  | none =>
    rw [hc] at q3
    have q3 : r = -1 := q3
    rw [q3, p_numberOf_m1, if_pos rfl, ite_self, Option.bind_some, TT_some]
    exact ⟨hF, hn, hz, m3, hk, o3.sci, rfl⟩
  | some cc =>
    rw [hc] at q3
    obtain ⟨q3, q4⟩ := q3
    have q3 : r = nI (rank cc.1) := q3
    have hdl : DL cc.1 := (cmk_DL hl (fun s t p n h w e => lwK_le e) (fun t ht u q => (h.gs.1 t ht).2.2 u q) ht hc).1
    rw [q3, num_of hdl, Option.bind_some]
    by_cases w : p5 = 0
    · rw [if_pos w, TT_some]
      refine ⟨hF, hn, hz, m3, hk, o3.sci, ?_⟩
      show _ = (if p5 = 0 then nI (num cc.1) else nI cc.2)
      rw [if_pos w]
    · rw [if_neg w, if_neg (rank_ne hdl), TT_some]
      refine ⟨hF, hn, hz, m3, hk, o3.sci, ?_⟩
      show _ = (if p5 = 0 then nI (num cc.1) else nI cc.2)
      rw [if_neg w]
      exact q4
theorem both_change {c : Nat} (hc : c < 600) {M : Mem} (h : INV0 c M) (p1 p2 p3 p4 p5 : Int32) : CALL c M (fun M => f_X11_change M 0 p1 p2 p3 p4 p5) (fun M => f_X12_change M 47 p1 p2 p3 p4 p5) := by
  rcases dish_cases p1 with ⟨_, e1, e2⟩ | ⟨l, hl, rfl, e1, e2⟩
  · refine CALL.same h (x := -1) ?_ ?_
    · show f_X11_change M 0 p1 p2 p3 p4 p5 = _
      unfold f_X11_change
      rw [e1, Option.bind_some, if_pos rfl]
    · show f_X12_change M 47 p1 p2 p3 p4 p5 = _
      unfold f_X12_change
      rw [e2, Option.bind_some, if_pos rfl]
  · by_cases w : (0 ≤ p2 ∧ p2 ≤ 4) ∧ (p2 = 1 → 0 ≤ p4 ∧ p4 ≤ 5) ∧ (0 ≤ p5 ∧ p5 ≤ 1)
    · by_cases w3 : 0 ≤ p3 ∧ p3 ≤ 5
      · obtain ⟨s, hs, rfl⟩ := up_nat (n := 4) (by omega) w.1
        obtain ⟨p, hp, rfl⟩ := up_nat (n := 5) (by omega) w3
        have ht : ∃ t, t < 6 ∧ (s = 1 → p4 = nI t) := by
          by_cases w1 : s = 1
          · obtain ⟨t, ht, e⟩ := up_nat (n := 5) (by omega) (w.2.1 (by rw [w1]; rfl))
            exact ⟨t, by omega, fun _ => e⟩
          · exact ⟨0, by omega, fun q => absurd q w1⟩
        obtain ⟨t, ht, h4⟩ := ht
        obtain ⟨y, hy, h54⟩ := h.1.2.2.1.2.1.1
        obtain ⟨m1, s1⟩ := h.mid
        obtain ⟨⟨M1, x⟩, f1, a1, a2, a3, a4, a5, a6, a7⟩ := c_change_y m1 s1 (by omega) hl (p5 := p5) e1 (show s < 5 by omega) (show p < 6 by omega) h4 ht hy h54 w.2.2
        simp only at a1 a2 a3 a4 a5 a6 a7
        obtain ⟨⟨M2, x2⟩, f2, b1', b2⟩ := r_change_y a4 hl (p5 := p5) (show s < 5 by omega) (show p < 6 by omega) (fun q => ⟨h4 q, ht⟩) ht hy (by rw [a5]; exact h54)
        simp only at b1' b2
        rw [a5] at b2
        refine CALL.look h (M1 := M1) (M2 := M2) (x := x) f1 ?_ a1 a2 a3 (a6.mono (by omega)) b1'
        show f_X12_change M1 47 _ _ _ _ _ = _
        rw [r_change_eq e2, if_pos w, f2, b2, a7]
      · obtain ⟨⟨M2, x⟩, g1, g2, g3⟩ := r_changed_out h.1.2.1 hl (p2 := p2) (p4 := p4) (p5 := mI M 49 54) (show p3 < 0 ∨ 5 < p3 by
          have t0 : (0 : Int32).toInt = 0 := rfl
          have t5 : (5 : Int32).toInt = 5 := rfl
          simp only [Int32.lt_iff_toInt_lt, Int32.le_iff_toInt_le] at w3 ⊢
          omega)
        simp only at g2 g3
        refine CALL.look h (M1 := M) (M2 := M2) (x := -1) (c_change_no e1 hl (fun q => w3 q.1.2.1)) ?_ Fw.rf rfl rfl (h.mid.2.mono (by omega)) (g2.up (fun a k w => by unfold Spin at w; unfold Srv; omega))
        show f_X12_change M 47 _ _ _ _ _ = _
        have hM2 := h.1.2.1
        unfold LayM at hM2
        have g54 : vp_in 54 5666 := show vp_in (nI 54) 5666 from (nvp (by omega)).mpr (by omega)
        have c54 : (54 : Int32).toNatClampNeg = 54 := by decide
        rw [r_change_eq e2, if_pos w]
        unfold rcB
        simp only [hM2, grd_T, Option.bind_some, c54]
        rw [grd_y g54, g1, Option.bind_some, if_pos g3]
    · refine CALL.same h (x := -1) (c_change_no e1 hl (fun q => w ⟨q.1.1, q.1.2.2, q.2⟩)) ?_
      show f_X12_change M 47 _ _ _ _ _ = _
      rw [r_change_eq e2, if_neg w]
