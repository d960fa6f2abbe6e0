/-! line(): the reference; both -/
theorem CALL.ref {c : Nat} (hc : c < 600) {M : Mem} {n : Nat} {f g : Mem → Option (Mem × Int32)} (hn : RN n) (h : INV0 c M) (hf : f M = some (RFC M n, -(nI n))) (hg : g (RFC M n) = some (RFM (RFC M n) n, -(nI n))) : CALL c M f g := by
  have hF : Fr Sno M (RFM (RFC M n) n) := fr_rfm (fr_rfc Fr.rf (by unfold Sno; omega) (fun k => by unfold Sno; omega)) (by unfold Sno; omega) (fun k => by unfold Sno; omega)
  have e1 : ∀ a k, a ≠ 0 → a ≠ 45 → a ≠ 47 → a ≠ 48 → mI (RFM (RFC M n) n) a k = mI M a k := fun a k w1 w2 w3 w4 => by rw [rfm_v.1 a k w3 w4, rfc_v.1 a k w1 w2]
  have e0 : ∀ k, k ≠ 12 → mI (RFM (RFC M n) n) 0 k = mI M 0 k := fun k w => by rw [rfm_v.1 0 k (by decide) (by decide), rfc_v.2.1 k w]
  have e47 : ∀ k, k ≠ 0 → mI (RFM (RFC M n) n) 47 k = mI M 47 k := fun k w => by rw [rfm_v.2.1 k w, rfc_v.1 47 k (by decide) (by decide)]
  obtain ⟨nn, bt, t1, t2, t3, t4⟩ := h.2.2.1
  refine ⟨_, _, _, hf, hg, INV0.refused hc h hF (h.1.2.2.2.2.rf (Y := M) hn (fun _ => rfl) (fun _ => rfl) rfl (fun k => rfc_v.1 48 k (by decide) (by decide))) ⟨nn, bt, t1, ?_, ?_, fun i hi => ?_⟩ ?_ ?_⟩
  · rw [e1 11 4 (by decide) (by decide) (by decide) (by decide)]
    exact t2
  · rw [e47 17 (by decide)]
    exact t3
  · rw [e1 12 i (by decide) (by decide) (by decide) (by decide), e1 56 i (by decide) (by decide) (by decide) (by decide)]
    exact t4 i hi
  · rw [e0 14 (by decide), e47 18 (by decide)]
    exact h.2.2.2.2.2.1.2.1
  · rw [e0 15 (by decide), e47 46 (by decide)]
    exact h.2.2.2.2.2.1.2.2.1
def Slr (a k : Nat) : Prop := Srv a k ∨ a = 77 ∨ (a = 47 ∧ (k = 57 ∨ k = 58))
def Sgn (a k : Nat) : Prop := Sln a k ∨ Slr a k ∨ (a = 47 ∧ k ≤ 1)
theorem INV0.gen {c : Nat} {M M2 : Mem} (h : INV0 c M) (hF : Fw Sgn Rop M M2) (hn : mn M2 = mn M) (hz : mz M2 = mz M) (hO : OUTS M2) (hD : DRW M2) (hS : SCI (300 * (c + 1)) M2) (hv : mI M2 47 1 = mI M 47 1 + 1) : INV0 (c + 1) M2 ∧ QF M M2 := by
  obtain ⟨⟨hC, hM, hK, ⟨vt, vo, vh⟩, hO1⟩, i2, ⟨n, bt, t1, t2, t3, t4⟩, i4, i5, ⟨p1, p2, p3, p4⟩, i7, i8⟩ := h
  have h78 := i2.1
  have hx : ∀ a k, Sgn a k → a < 78 ∧ ¬ (1 ≤ a ∧ a ≤ 20) ∧ ¬ (32 ≤ a ∧ a ≤ 45) ∧ ¬ (48 ≤ a ∧ a ≤ 51) ∧ ¬ (55 ≤ a ∧ a ≤ 60) ∧ ¬ (62 ≤ a ∧ a ≤ 67) ∧ ¬ (a = 0 ∧ 13 ≤ k) ∧ ¬ (a = 47 ∧ (k = 12 ∨ k = 17 ∨ k = 18 ∨ k = 34 ∨ k = 46)) := fun a k w => by
    unfold Sgn Sln Slk Slr Srv at w
    omega
  have e : ∀ a k, a < 78 → ¬ Sgn a k → mI M2 a k = mI M a k := fun a k w1 w2 => hF.i (by omega) w2
  have ex : ∀ a k, a < 78 → (1 ≤ a ∧ a ≤ 20) ∨ (48 ≤ a ∧ a ≤ 51) ∨ (55 ≤ a ∧ a ≤ 60) ∨ (a = 0 ∧ 13 ≤ k) ∨ (a = 47 ∧ (k = 12 ∨ k = 17 ∨ k = 18 ∨ k = 46)) → mI M2 a k = mI M a k := fun a k w1 w2 => e a k w1 (fun q => by have := hx a k q; omega)
  have e49 : mI M2 49 = mI M 49 := funext (fun k => ex 49 k (by decide) (by omega))
  have hRo : ∀ a k, oldR a k = true → ¬ Rop a k := fun a k w q => by rw [(rop_old a k q).1] at w; cases w
  have hq : QST M M2 := ⟨0, 0, 1, by omega, by omega, by omega, by rw [ex 1 13 (by decide) (by omega)]; exact (Int32.add_zero _).symm, by rw [ex 1 14 (by decide) (by omega)]; exact (Int32.add_zero _).symm, hv, by rw [e49]; exact fun _ => AGK.rf, by rw [e49]; exact fun _ => ⟨AGK.rf, YHK.rf⟩, fun w => by omega⟩
  have hht : ∀ a k, Sgn a k → ¬ HT M a := fun a k w q => by have := q.1; have := hx a k w; omega
  refine ⟨⟨⟨hC.fw h78 hF hRo, hM.fw h78 hF hRo, by rw [e49]; exact hK, ?_, hO⟩, i2.q hq (by omega) (by omega), ⟨n, bt, t1, by rw [ex 11 4 (by decide) (by omega)]; exact t2, by rw [ex 47 17 (by decide) (by omega)]; exact t3, fun i hi => ?_⟩, fun i hi => ?_, i5.fw h78 hF (fun a k w => ⟨by have := hx a k w; omega, by have := hx a k w; omega, hht a k w⟩) (fun a k w => ⟨by unfold Rop at w; omega, fun q => by have := q.1; unfold Rop at w; omega⟩), ⟨by rw [ex 0 13 (by decide) (by omega), ex 47 12 (by decide) (by omega)]; exact p1, by rw [ex 0 14 (by decide) (by omega), ex 47 18 (by decide) (by omega)]; exact p2, by rw [ex 0 15 (by decide) (by omega), ex 47 46 (by decide) (by omega)]; exact p3, hD⟩, ?_, hS⟩, hF.up (fun a k w => Or.inl (by have := hx a k w; omega)) (fun a k w => Or.inr (Or.inr (Or.inl w))), by omega, by omega, hq⟩
  · rw [e49]
    refine ⟨fun t ht => ?_, ?_, fun n g h1 h2 h3 => ?_⟩
    · rw [ex 2 t (by decide) (by omega), ex 3 t (by decide) (by omega), ex 4 t (by decide) (by omega)]
      exact vt t ht
    · unfold CVo
      rw [ex 1 8 (by decide) (by omega), ex 1 9 (by decide) (by omega), ex 1 10 (by decide) (by omega), ex 1 11 (by decide) (by omega), ex 1 12 (by decide) (by omega)]
      exact vo
    · rw [ex 5 g (by decide) (by omega), ex 6 g (by decide) (by omega), ex 7 g (by decide) (by omega), ex 8 g (by decide) (by omega)]
      exact vh n g h1 h2 h3
  · rw [ex 12 i (by decide) (by omega), ex 56 i (by decide) (by omega)]
    exact t4 i hi
  · rw [ex 55 i (by decide) (by omega)]
    exact i4 i hi
  · rw [e49]
    exact i7.fw (by omega) hF (fun a k w => hht a k w) (fun a k w => ⟨(rop_old a k w).2.1, fun q => by unfold Rop at w; omega⟩) (fun _ _ _ _ _ _ => rfl)
theorem r_draws {M : Mem} (hM : LayM M) {st sm : Nat} (hs : st ≤ 1000002) (h58 : mI M 47 58 = nI st) (h0 : 0 < sm) (h1 : sm < 2147483648) : f_X12_draws M 47 (nI sm) = some (wI M 47 58 (nI ((st * 1103 + 12345) % 1000003)), nI ((st * 1103 + 12345) % 1000003 % sm)) := by
  have hM2 := hM
  unfold LayM at hM2
  unfold f_X12_draws
  rw [grd_y hM2.1]
  simp only [bv]
  have e1 : (lr (1103 * (nI st).toInt64 + 12345) 1000003).toInt32 = nI ((st * 1103 + 12345) % 1000003) := by
    rw [jj_i, nI_tI (by omega), show (1103 : Int64) = jj 1103 from jj_lit 1103, jj_mul, show (12345 : Int64) = jj 12345 from jj_lit 12345, jj_add, show (1000003 : Int64) = jj 1000003 from jj_lit 1000003, jj_rem ⟨by omega, by omega⟩ ⟨by omega, by omega⟩]
    rw [show ((1103 * (st : Int) + 12345).tmod 1000003) = (((st * 1103 + 12345) % 1000003 : Nat) : Int) from by
      rw [Int.tmod_eq_emod_of_nonneg (by omega)]
      omega]
    exact jj_32 (by omega)
  rw [h58, e1, grd_y (fun q => by rw [show (0 : Int32) = nI 0 from rfl] at q; have := (neqI (by omega) (by omega)).mp q; omega), mI_wIs, nrem (by omega) (by omega) h0]
noncomputable def lrC (a0 : Nat) (s39 : Mem × Int32) (s52 : Int32) : Option ((Mem × Int32) ⊕ Mem) := Option.bind (mR s39.1 a0 56) (fun r55 => grd (okO s39.1 14 r55) (grd (vp_in s39.2 (mL s39.1 r55)) (Option.bind (f_X12_lists s39.1 a0 (mI s39.1 r55 s39.2.toNatClampNeg) s52 1) (fun q58 => Option.bind (loopO (lrS q58 a0) (0, 0)) (fun (x69 : Int32) => Option.bind (mR q58 a0 56) (fun r76 => Option.bind (mR q58 a0 56) (fun r77 => grd (okO q58 14 r77) (grd (vp_in s39.2 (mL q58 r77)) (grd (okO q58 14 r76) (grd (vp_in (s39.2 + 1) (mL q58 r76)) (bv (wI q58 r76 (s39.2 + 1).toNatClampNeg (mI q58 r77 s39.2.toNatClampNeg)) (fun M82 => bv (fun (s87 : Mem) => bv (s39.2 + 1 : Int32) (fun x91 => some (.inl (s87, x91)))) (fun j86 => if x69 = 0 then (j86 M82) else (Option.bind (f_X12_draws M82 a0 x69) (fun q92 => Option.bind (loopO (lrP q92 a0) (q92.2, 0)) (fun (x103 : Int32) => Option.bind (mR q92.1 a0 56) (fun r113 => Option.bind (mR q92.1 a0 9) (fun r114 => grd (okO q92.1 14 r114) (grd (vp_in x103 (mL q92.1 r114)) (grd (okO q92.1 14 r113) (grd (vp_in (s39.2 + 1) (mL q92.1 r113)) (bv (wI q92.1 r113 (s39.2 + 1).toNatClampNeg (mI q92.1 r114 x103.toNatClampNeg)) (fun M119 => j86 M119)))))))))))))))))))))))
theorem lrB_eq {a0 : Nat} {p3 : Int32} {s39 : Mem × Int32} : lrB a0 p3 s39 = if p3 ≤ s39.2 then (some (.inr s39.1)) else (Option.bind (mR s39.1 a0 3) (fun r48 => grd (okO s39.1 14 r48) (grd (vp_in 54 (mL s39.1 r48)) (bv (lrC a0 s39) (fun j51 => if ((mI s39.1 r48 (54 : Int32).toNatClampNeg) + s39.2) ≤ 999 then (Option.bind (mR s39.1 a0 3) (fun r123 => grd (okO s39.1 14 r123) (grd (vp_in 54 (mL s39.1 r123)) (j51 ((mI s39.1 r123 (54 : Int32).toNatClampNeg) + s39.2))))) else (j51 999)))))) := rfl
theorem r_line_C {M M1 : Mem} {k y st0 : Nat} {l0 : List Nat} (hl : DL l0) (hs : st0 ≤ 1000002) (hk : k < 60) (hF : Fr Slr M M1) (hm : MID M1) (e49 : mI M1 49 = mI M 49) (h58 : mI M1 47 58 = nI (lnS (mI M 49) y st0 l0 k).1) (h77 : ∀ i, i ≤ k → mI M1 77 i = nI (num (lnS (mI M 49) y st0 l0 i).2)) : TT (lrC 47 (M1, nI k) (nI (min 999 (y + k)))) (fun r => ∃ M2, r = Sum.inl (M2, nI (k + 1)) ∧ Fr Slr M M2 ∧ MID M2 ∧ mI M2 49 = mI M 49 ∧ mI M2 47 57 = mI M1 47 57 ∧ mI M2 47 58 = nI (lnS (mI M 49) y st0 l0 (k + 1)).1 ∧ ∀ i, i ≤ k + 1 → mI M2 77 i = nI (num (lnS (mI M 49) y st0 l0 i).2)) := by
  have kt : KTH (mI M 49) := by
    have := hm.1.2.2.1.1
    rw [e49] at this
    exact this
  have hok := lnS_ok kt (y := y) hl hs
  have hM1 := hm.1.2.1
  unfold LayM at hM1
  unfold lrC
  simp only [hM1, grd_T, Option.bind_some, bv]
  rw [grd_y ((nvp (by omega)).mpr (by omega)), nclampI (by omega), h77 k (by omega), TT_bind]
  refine (r_listsK hm (hok k).2 (show min 999 (y + k) ≤ 999 by omega)).mono ?_
  rintro M2 ⟨m2, k2, f2, l2⟩
  rw [e49] at l2
  have hlen := EDG_len (K := mI M 49) (y := min 999 (y + k)) (hok k).2
  have hdl : ∀ cc, cc ∈ EDG (mI M 49) (min 999 (y + k)) (lnS (mI M 49) y st0 l0 k).2 → DL cc.1 ∧ cc.2 ≤ 99 := fun cc q => EDG_DL kt (hok k).2 q
  have hsum := sumW_le (fun cc q => (hdl cc q).2)
  have step : lnS (mI M 49) y st0 l0 (k + 1) = if sumW (EDG (mI M 49) (min 999 (y + k)) (lnS (mI M 49) y st0 l0 k).2) = 0 then lnS (mI M 49) y st0 l0 k else (((lnS (mI M 49) y st0 l0 k).1 * 1103 + 12345) % 1000003, pkD (EDG (mI M 49) (min 999 (y + k)) (lnS (mI M 49) y st0 l0 k).2) (((lnS (mI M 49) y st0 l0 k).1 * 1103 + 12345) % 1000003 % sumW (EDG (mI M 49) (min 999 (y + k)) (lnS (mI M 49) y st0 l0 k).2))) := rfl
  have hst := (hok k).1
  generalize hL : EDG (mI M 49) (min 999 (y + k)) (lnS (mI M 49) y st0 l0 k).2 = L at *
  rw [r_sumW m2.1.2.1 l2 hlen (fun cc q => (hdl cc q).2), Option.bind_some]
  have e77 : ∀ i, mI M2 77 i = mI M1 77 i := fun i => f2.i (by rw [Sls_iff]; omega)
  have e57 : ∀ i, i = 57 ∨ i = 58 → mI M2 47 i = mI M1 47 i := fun i w => f2.i (by rw [Sls_iff]; omega)
  have hM3 := m2.1.2.1
  unfold LayM at hM3
  simp only [hM3, grd_T, Option.bind_some]
  rw [grd_y ((nvp (a := k) (by omega)).mpr (by omega)), nsucc, grd_y ((nvp (a := k + 1) (by omega)).mpr (by omega)), nclampI (a := k + 1) (by omega), e77, h77 k (by omega)]
  have hF2 : Fr Slr M M2 := hF.tr (f2.up (fun a k w => Or.inl (Sls_rv a k w)))
  have hF3 : Fr Slr M (wI M2 77 (k + 1) (nI (num (lnS (mI M 49) y st0 l0 k).2))) := hF2.wI (Or.inr (Or.inl rfl))
  have hF3' : Fr (fun a _ => a = 77) M2 (wI M2 77 (k + 1) (nI (num (lnS (mI M 49) y st0 l0 k).2))) := Fr.rf.wI rfl
  obtain ⟨m3, k3⟩ := m2.fr hF3' (fun a k w => by unfold Frl; omega)
  by_cases w0 : sumW L = 0
  · rw [if_pos w0] at step
    rw [w0, if_pos (show nI 0 = 0 from rfl), TT_some]
    refine ⟨_, rfl, hF3, m3, by rw [k3, k2, e49], ?_, ?_, fun i hi => ?_⟩
    · rw [mI_wI_row (by decide), e57 57 (by omega)]
    · rw [mI_wI_row (by decide), e57 58 (by omega), step]
      exact h58
    · by_cases w2 : i = k + 1
      · subst w2
        rw [mI_wIs, step]
      · rw [mI_wI_ne w2, e77]
        exact h77 i (by omega)
  · rw [if_neg w0] at step
    rw [if_neg (fun q => by rw [show (0 : Int32) = nI 0 from rfl] at q; exact w0 ((neqI (by omega) (by omega)).mp q)), r_draws m3.1.2.1 hst (by rw [mI_wI_row (by decide), e57 58 (by omega)]; exact h58) (by omega) (by omega), Option.bind_some]
    generalize hst2 : ((lnS (mI M 49) y st0 l0 k).1 * 1103 + 12345) % 1000003 = st2 at *
    have ha : st2 % sumW L < sumW L := Nat.mod_lt _ (by omega)
    obtain ⟨cc, c1, c2, c3⟩ := pkD_at ha
    have hki := pkI_lt L _ ha
    have hF4' : Fr (fun a k => a = 77 ∨ (a = 47 ∧ k = 58)) M2 (wI (wI M2 77 (k + 1) (nI (num (lnS (mI M 49) y st0 l0 k).2))) 47 58 (nI st2)) := (Fr.rf.wI (Or.inl rfl)).wI (Or.inr ⟨rfl, rfl⟩)
    have hF4 : Fr Slr M (wI (wI M2 77 (k + 1) (nI (num (lnS (mI M 49) y st0 l0 k).2))) 47 58 (nI st2)) := hF3.wI (Or.inr (Or.inr ⟨rfl, Or.inr rfl⟩))
    obtain ⟨m4, k4⟩ := m2.fr hF4' (fun a k w => by unfold Frl; omega)
    have l4 : LSTS 1 (wI (wI M2 77 (k + 1) (nI (num (lnS (mI M 49) y st0 l0 k).2))) 47 58 (nI st2)) L := ⟨by rw [hF4'.i (by omega)]; exact l2.1, fun j c e => by rw [hF4'.i (by omega), hF4'.i (by omega)]; exact l2.2 j c e⟩
    have v57 : mI (wI (wI M2 77 (k + 1) (nI (num (lnS (mI M 49) y st0 l0 k).2))) 47 58 (nI st2)) 47 57 = mI M1 47 57 := by rw [hF4'.i (by omega), e57 57 (by omega)]
    have v58 : mI (wI (wI M2 77 (k + 1) (nI (num (lnS (mI M 49) y st0 l0 k).2))) 47 58 (nI st2)) 47 58 = nI st2 := mI_wIs
    have v77 : ∀ i, i ≠ k + 1 → mI (wI (wI M2 77 (k + 1) (nI (num (lnS (mI M 49) y st0 l0 k).2))) 47 58 (nI st2)) 77 i = mI M1 77 i := fun i w => by rw [mI_wI_row (by decide), mI_wI_ne w, e77]
    generalize wI (wI M2 77 (k + 1) (nI (num (lnS (mI M 49) y st0 l0 k).2))) 47 58 (nI st2) = M4 at *
    rw [r_pick m4.1.2.1 l4 hlen (fun cc q => (hdl cc q).2) ha, Option.bind_some]
    have hM4 := m4.1.2.1
    unfold LayM at hM4
    simp only [hM4, grd_T, Option.bind_some]
    rw [grd_y ((nvp (a := pkI L (st2 % sumW L)) (by omega)).mpr (by omega)), grd_y ((nvp (a := k + 1) (by omega)).mpr (by omega)), nclampI (a := pkI L (st2 % sumW L)) (by omega), (l4.2 _ _ c1).1, TT_some]
    have hF5' : Fr (fun a _ => a = 77) M4 (wI M4 77 (k + 1) (nI (num cc.1))) := Fr.rf.wI rfl
    obtain ⟨m5, k5⟩ := m4.fr hF5' (fun a k w => by unfold Frl; omega)
    refine ⟨_, rfl, hF4.wI (Or.inr (Or.inl rfl)), m5, by rw [k5, k4, k2, e49], ?_, ?_, fun i hi => ?_⟩
    · rw [mI_wI_row (by decide)]
      exact v57
    · rw [mI_wI_row (by decide), step]
      exact v58
    · by_cases w2 : i = k + 1
      · subst w2
        rw [mI_wIs, step, c3]
      · rw [mI_wI_ne w2, v77 i w2]
        exact h77 i (by omega)
theorem r_line_L {M M0 : Mem} {n y st0 : Nat} {l0 : List Nat} (hl : DL l0) (hs : st0 ≤ 1000002) (hn : n ≤ 60) (hy : y ≤ 999) (h54 : mI M 49 54 = nI y) (hF0 : Fr Slr M M0) (hm : MID M0) (e49 : mI M0 49 = mI M 49) (h0 : mI M0 77 0 = nI (num l0)) (h58 : mI M0 47 58 = nI st0) : TT (loopO (lrB 47 (nI n)) (M0, 0)) (fun M1 => Fr Slr M M1 ∧ MID M1 ∧ mI M1 47 57 = mI M0 47 57 ∧ ∀ i, i ≤ n → mI M1 77 i = nI (num (lnS (mI M 49) y st0 l0 i).2)) := by
  have kt : KTH (mI M 49) := by
    have := hm.1.2.2.1.1
    rw [e49] at this
    exact this
  have hok := lnS_ok kt (y := y) hl hs
  refine TT_for n (fun k s => s.2 = nI k ∧ Fr Slr M s.1 ∧ MID s.1 ∧ mI s.1 49 = mI M 49 ∧ mI s.1 47 57 = mI M0 47 57 ∧ mI s.1 47 58 = nI (lnS (mI M 49) y st0 l0 k).1 ∧ ∀ i, i ≤ k → mI s.1 77 i = nI (num (lnS (mI M 49) y st0 l0 i).2)) ?_ (Nat.zero_le _) ⟨rfl, hF0, hm, e49, rfl, h58, fun i hi => by
    obtain rfl : i = 0 := by omega
    exact h0⟩
  rintro k ⟨M1, i⟩ hk ⟨q1, q2, q3, q4, q5, q6, q7⟩
  simp only at q1 q2 q3 q4 q5 q6 q7
  subst q1
  rw [lrB_eq]
  simp only
  by_cases w : k < n
  · rw [if_neg (fun q => by have := (nleI (by omega) (by omega)).mp q; omega)]
    have hM1 := q3.1.2.1
    have hM12 := hM1
    have g54 : vp_in 54 5666 := show vp_in (nI 54) 5666 from (nvp (by omega)).mpr (by omega)
    have c54 : (54 : Int32).toNatClampNeg = 54 := by decide
    unfold LayM at hM12
    simp only [hM12, grd_T, Option.bind_some, bv, c54]
    rw [grd_y g54, grd_y g54, q4, h54, nadd]
    have ey : (if nI (y + k) ≤ 999 then lrC 47 (M1, nI k) (nI (y + k)) else lrC 47 (M1, nI k) 999) = lrC 47 (M1, nI k) (nI (min 999 (y + k))) := by
      by_cases z : y + k ≤ 999
      · rw [if_pos (by rw [show (999 : Int32) = nI 999 from rfl, nleI (by omega) (by omega)]; exact z), Nat.min_eq_right z]
      · rw [if_neg (by rw [show (999 : Int32) = nI 999 from rfl, nleI (by omega) (by omega)]; exact z), Nat.min_eq_left (by omega)]
        rfl
    rw [ey]
    refine (r_line_C hl hs (by omega) q2 q3 q4 q6 q7).mono ?_
    rintro r ⟨M2, rfl, a1, a2, a3, a4, a5, a6⟩
    exact ⟨w, rfl, a1, a2, a3, a4.trans q5, a5, a6⟩
  · have en : k = n := by omega
    subst en
    rw [if_pos ((nleI (by omega) (by omega)).mpr (by omega)), TT_some]
    exact ⟨q2, q3, q5, q7⟩
theorem c_line_eq {M : Mem} (hC : LayC M) {n : Nat} (hn : n ≤ 12) (h8 : mI M 1 8 = nI n) {p1 p2 p3 : Int32} : f_X11_line M 0 p1 p2 p3 = if (0 ≤ p1 ∧ p1 ≤ 1000000) ∧ 1 ≤ p3 ∧ p3 ≤ 60 then (if 0 ≤ p2 ∧ p2 < nI n then (grd (vp_in p2 (mL M 7)) (Option.bind (loopO (lcB 0 p3) (wI (wI M 46 0 (mI M 7 p2.toNatClampNeg)) 0 11 (p3 + 1), p1, mI M 7 p2.toNatClampNeg, 1)) (fun (x41 : Mem × Int32) => Option.bind (f_X6_numberOf x41.2) (fun q83 => Option.bind (f_X11_accept x41.1 0 q83) (fun q86 => some (q86.1, q86.2)))))) else some (RFC M 2, -2)) else some (RFC M 1, -1) := by
  have r1 := c_refuse (M := M) hC (n := 1) (by unfold RN; omega)
  rw [show -(nI 1) = (-1 : Int32) by decide] at r1
  have r2 := c_refuse (M := M) hC (n := 2) (by unfold RN; omega)
  rw [show -(nI 2) = (-2 : Int32) by decide] at r2
  have hh := c_hasHouse hC hn h8 p2
  have hC2 := hC
  unfold LayC at hC2
  have t0 : (0 : Int32).toInt = 0 := rfl
  have t1 : (1 : Int32).toInt = 1 := rfl
  have t6 : (60 : Int32).toInt = 60 := rfl
  have tM : (1000000 : Int32).toInt = 1000000 := rfl
  have g0 : vp_in 0 61 := show vp_in (nI 0) 61 from (nvp (by omega)).mpr (by omega)
  have c0 : (0 : Int32).toNatClampNeg = 0 := by decide
  rw [cline_eq]
  simp only [hC2, grd_T, Option.bind_some, bv, mR_wI, ok_wI]
  rw [r1, r2, Option.bind_some, Option.bind_some, hh, Option.bind_some]
  by_cases w : (0 ≤ p1 ∧ p1 ≤ 1000000) ∧ 1 ≤ p3 ∧ p3 ≤ 60
  · rw [if_pos w, if_neg (fun q => by simp only [Int32.lt_iff_toInt_lt, Int32.le_iff_toInt_le] at w q; omega), if_neg (fun q => by simp only [Int32.lt_iff_toInt_lt, Int32.le_iff_toInt_le] at w q; omega), if_neg (fun q => by simp only [Int32.lt_iff_toInt_lt, Int32.le_iff_toInt_le] at w q; omega), if_pos w.2.2]
    by_cases w2 : 0 ≤ p2 ∧ p2 < nI n
    · rw [if_pos w2, if_neg (by decide), if_pos w2, grd_y g0, c0]
    · rw [if_neg w2, if_pos rfl, if_neg w2]
  · rw [if_neg w]
    by_cases a1 : p1 < 0
    · rw [if_pos a1]
    · rw [if_neg a1]
      by_cases a2 : 1000000 < p1
      · rw [if_pos a2]
      · rw [if_neg a2]
        by_cases a3 : p3 < 1
        · rw [if_pos a3]
        · rw [if_neg a3, if_neg (fun q => w ?_)]
          simp only [Int32.lt_iff_toInt_lt, Int32.le_iff_toInt_le] at a1 a2 a3 q ⊢
          omega
theorem r_line_eq {M : Mem} (hM : LayM M) {n : Nat} (hn : n ≤ 12) (h56 : mI M 49 56 = nI n) {p1 p2 p3 : Int32} : f_X12_line M 47 p1 p2 p3 = if (0 ≤ p1 ∧ p1 ≤ 1000000) ∧ 1 ≤ p3 ∧ p3 ≤ 60 then (if 0 ≤ p2 ∧ p2 < nI n then (Option.bind (f_X12_fact (wI (wI M 47 58 p1) 47 57 p3) 47 p2 2) (fun q30 => Option.bind (loopO (lrB 47 p3) (wI (wI (wI M 47 58 p1) 47 57 p3) 77 0 q30, 0)) (fun (x46 : Mem) => Option.bind (mR x46 47 56) (fun r127 => grd (okO x46 14 r127) (grd (vp_in p3 (mL x46 r127)) (Option.bind (f_X12_good x46 47 (mI x46 r127 p3.toNatClampNeg)) (fun q130 => some (q130.1, q130.2)))))))) else some (RFM M 2, -2)) else some (RFM M 1, -1) := by
  have r1 := r_refuses (M := M) hM (n := 1) (by unfold RN; omega)
  rw [show -(nI 1) = (-1 : Int32) by decide] at r1
  have r2 := r_refuses (M := M) hM (n := 2) (by unfold RN; omega)
  rw [show -(nI 2) = (-2 : Int32) by decide] at r2
  have hh := r_isHouse hM hn h56 p2
  have hM2 := hM
  unfold LayM at hM2
  have g0 : vp_in 0 61 := show vp_in (nI 0) 61 from (nvp (by omega)).mpr (by omega)
  have c0 : (0 : Int32).toNatClampNeg = 0 := by decide
  rw [rline_eq]
  simp only [hM2, grd_T, Option.bind_some, bv, mR_wI, ok_wI, mL_wI]
  rw [r1, r2, Option.bind_some, Option.bind_some, hh, Option.bind_some, lies_bind, lies_bind]
  by_cases w1 : 0 ≤ p1 ∧ p1 ≤ 1000000
  · rw [if_pos w1]
    by_cases w3 : 1 ≤ p3 ∧ p3 ≤ 60
    · rw [if_pos w3, if_pos (show (0 ≤ p1 ∧ p1 ≤ 1000000) ∧ 1 ≤ p3 ∧ p3 ≤ 60 from ⟨w1, w3⟩)]
      by_cases w2 : 0 ≤ p2 ∧ p2 < nI n
      · rw [if_pos w2, if_neg (by decide), if_pos w2]
        congr 1
        funext q30
        rw [grd_y g0, c0]
      · rw [if_neg w2, if_pos rfl, if_neg w2]
    · rw [if_neg w3, if_neg (fun q => w3 q.2)]
  · rw [if_neg w1, if_neg (fun q => w1 q.1)]
theorem both_line {c : Nat} (hc : c < 600) {M : Mem} (h : INV0 c M) (p1 p2 p3 : Int32) : CALL c M (fun M => f_X11_line M 0 p1 p2 p3) (fun M => f_X12_line M 47 p1 p2 p3) := by
  obtain ⟨m1, s1⟩ := h.mid
  obtain ⟨n, mo, yr, di, hv⟩ := h.1.hsv
  have hn12 := hv.1
  have ec := @c_line_eq M h.1.1 n hv.1 hv.2.2.1 p1 p2 p3
  have rfc56 : ∀ k, mI (RFC M k) 49 56 = nI n := fun k => by
    rw [rfc_v.1 49 56 (by decide) (by decide)]
    exact hv.2.1
  by_cases w : (0 ≤ p1 ∧ p1 ≤ 1000000) ∧ 1 ≤ p3 ∧ p3 ≤ 60
  · by_cases w2 : 0 ≤ p2 ∧ p2 < nI n
    · obtain ⟨g, hg, rfl⟩ := in_nat hv.1 w2
      obtain ⟨st0, hst, rfl⟩ := up_nat (n := 1000000) (by omega) w.1
      have hp3 : ∃ k, k ≤ 60 ∧ p3 = nI k := up_nat (n := 60) (by omega) ⟨by
        have t0 : (0 : Int32).toInt = 0 := rfl
        have t1 : (1 : Int32).toInt = 1 := rfl
        have := w.2.1
        simp only [Int32.le_iff_toInt_le] at this ⊢
        omega, w.2.2⟩
      obtain ⟨k, hk, rfl⟩ := hp3
      obtain ⟨y, hy, h54⟩ := h.1.2.2.1.2.1.1
      obtain ⟨g1, g2, g3, g4, g5, g6, g7, g8, g9, g10⟩ := hv.2.2.2 g hg
      have hC2 := h.1.1
      unfold LayC at hC2
      have eL : mL M 7 = 12 := by simp only [hC2]
      rw [if_pos w, if_pos w2, eL, grd_y ((nvp (by omega)).mpr (by omega)), nclampI (by omega), g9, nsucc] at ec
      -- the class
      have hF0 : Fr (fun a k => a = 46 ∨ (a = 0 ∧ k = 11)) M (wI (wI M 46 0 (nI (rank (di g)))) 0 11 (nI (k + 1))) := (Fr.rf.wI (Or.inl rfl)).wI (Or.inr ⟨rfl, rfl⟩)
      obtain ⟨m2, k2⟩ := m1.fr hF0 (fun a k w => by unfold Frl; omega)
      have hI0 : LNI M (300 * c) (wI (wI M 46 0 (nI (rank (di g)))) 0 11 (nI (k + 1))) := ⟨(hF0.fw).up (fun a k w => by unfold Sln; omega) (fun _ _ w => w), rfl, rfl, m2, k2, s1.fr2 m1.2.1 hF0 (fun a k w => by omega)⟩
      have v46 : mI (wI (wI M 46 0 (nI (rank (di g)))) 0 11 (nI (k + 1))) 46 0 = nI (rank (di g)) := by rw [mI_wI_row (by decide), mI_wIs]
      have v11 : mI (wI (wI M 46 0 (nI (rank (di g)))) 0 11 (nI (k + 1))) 0 11 = nI (k + 1) := mI_wIs
      generalize wI (wI M 46 0 (nI (rank (di g)))) 0 11 (nI (k + 1)) = M0 at *
      obtain ⟨⟨M1, x⟩, f1, a1, a2, a3, a4⟩ := c_line_L g3 (show st0 ≤ 1000002 by omega) hk hy h54 (by omega) hI0 v46
      simp only at a1 a2 a3 a4
      have hok := lnS_ok h.1.2.2.1.1 (y := y) g3 (show st0 ≤ 1000002 by omega)
      rw [f1, Option.bind_some, a2, num_of (hok k).2, Option.bind_some, c_accept a1.2.2.2.1.1.1, Option.bind_some] at ec
      obtain ⟨b1', b2, b3, b4, b5, b6⟩ := a1
      -- the reference
      have hFa : Fr (fun a k => a = 0 ∧ k = 12) M1 (wI M1 0 12 0) := Fr.rf.wI ⟨rfl, rfl⟩
      have ea : ∀ a k, a ≠ 0 ∨ k ≠ 12 → mI (wI M1 0 12 0) a k = mI M1 a k := fun a k w => hFa.i (by omega)
      have ec12 : mI (wI M1 0 12 0) 0 12 = 0 := mI_wIs
      obtain ⟨mA, kA⟩ := b4.fr hFa (fun a k w => by unfold Frl; omega)
      have hsa : SCI (300 * c + k) (wI M1 0 12 0) := b6.fr2 b4.2.1 hFa (fun a k w => by omega)
      have hna : mn (wI M1 0 12 0) = mn M := b2
      have hza : mz (wI M1 0 12 0) = mz M := b3
      have hFwa : Fw Sln Rop M (wI M1 0 12 0) := b1'.wI (Or.inr (Or.inr ⟨rfl, Or.inr rfl⟩))
      have k49 : mI (wI M1 0 12 0) 49 = mI M 49 := kA.trans b5
      have v46a : ∀ i, i ≤ k → mI (wI M1 0 12 0) 46 i = nI (rank (lnS (mI M 49) y st0 (di g) i).2) := fun i hi => by
        rw [ea 46 i (by omega)]
        exact a4 i hi
      have v11a : mI (wI M1 0 12 0) 0 11 = nI (k + 1) := by
        rw [ea 0 11 (by omega), a3]
        exact v11
      generalize wI M1 0 12 0 = Ma at *
      have fx : ∀ a k, a < 78 → ¬ Sln a k → mI Ma a k = mI M a k := fun a k w1 w2 => hFwa.i (by have := m1.2.1; omega) w2
      have h56a : mI Ma 49 56 = nI n := by rw [k49]; exact hv.2.1
      have er := @r_line_eq Ma mA.1.2.1 n hv.1 h56a (nI st0) (nI g) (nI k)
      have hF2 : Fr (fun a k => a = 47 ∧ (k = 57 ∨ k = 58)) Ma (wI (wI Ma 47 58 (nI st0)) 47 57 (nI k)) := (Fr.rf.wI ⟨rfl, Or.inr rfl⟩).wI ⟨rfl, Or.inl rfl⟩
      have hvA : HSV Ma n mo yr di := by
        obtain ⟨v1, v2, v3, v4⟩ := hv
        refine ⟨v1, h56a, by rw [fx 1 8 (by decide) (by unfold Sln Slk; omega)]; exact v3, fun g hg => ?_⟩
        rw [k49, fx 5 g (by decide) (by unfold Sln Slk; omega), fx 6 g (by decide) (by unfold Sln Slk; omega), fx 7 g (by decide) (by unfold Sln Slk; omega), fx 8 g (by decide) (by unfold Sln Slk; omega)]
        exact v4 g hg
      have hvB := hvA.fr2 hF2 (fun a k w => by omega)
      rw [if_pos w, if_pos w2, r_di (mA.1.2.1.fr hF2) hvB hg, Option.bind_some] at er
      have hF3 : Fr Slr Ma (wI (wI (wI Ma 47 58 (nI st0)) 47 57 (nI k)) 77 0 (nI (num (di g)))) := (hF2.up (fun a k w => Or.inr (Or.inr w))).wI (Or.inr (Or.inl rfl))
      obtain ⟨mB, kB⟩ := mA.fr hF3 (fun a k w => by unfold Slr Srv at w; unfold Frl; omega)
      have u77 : mI (wI (wI (wI Ma 47 58 (nI st0)) 47 57 (nI k)) 77 0 (nI (num (di g)))) 77 0 = nI (num (di g)) := mI_wIs
      have u58 : mI (wI (wI (wI Ma 47 58 (nI st0)) 47 57 (nI k)) 77 0 (nI (num (di g)))) 47 58 = nI st0 := by rw [mI_wI_row (by decide), mI_wI_ne (by decide), mI_wIs]
      have u57 : mI (wI (wI (wI Ma 47 58 (nI st0)) 47 57 (nI k)) 77 0 (nI (num (di g)))) 47 57 = nI k := by rw [mI_wI_row (by decide), mI_wIs]
      generalize wI (wI (wI Ma 47 58 (nI st0)) 47 57 (nI k)) 77 0 (nI (num (di g))) = Mb at *
      obtain ⟨M2, f2, d1, d2, d3, d4⟩ := r_line_L (M := Ma) g3 (show st0 ≤ 1000002 by omega) hk hy (by rw [k49]; exact h54) hF3 mB kB u77 u58
      rw [k49] at d4
      have hM3 := d2.1.2.1
      unfold LayM at hM3
      rw [f2, Option.bind_some] at er
      simp only [hM3, grd_T, Option.bind_some] at er
      rw [grd_y ((nvp (by omega)).mpr (by omega)), nclampI (by omega), d4 k (by omega), r_good d2.1.2.1, Option.bind_some] at er
      refine ⟨Ma, _, _, ec, er, ?_⟩
      have hFz : Fr (fun a k => Slr a k ∨ (a = 47 ∧ k ≤ 1)) Ma (wI (wI M2 47 0 0) 47 1 (mI M2 47 1 + 1)) := ((d1.up (fun a k w => Or.inl w)).wI (Or.inr ⟨rfl, by omega⟩)).wI (Or.inr ⟨rfl, by omega⟩)
      have z0 : mI (wI (wI M2 47 0 0) 47 1 (mI M2 47 1 + 1)) 47 0 = 0 := by rw [mI_wI_ne (by decide), mI_wIs]
      have z1 : mI (wI (wI M2 47 0 0) 47 1 (mI M2 47 1 + 1)) 47 1 = mI M 47 1 + 1 := by
        rw [mI_wIs, d1.i (by unfold Slr Srv; omega), fx 47 1 (by decide) (by unfold Sln Slk; omega)]
      have z57 : mI (wI (wI M2 47 0 0) 47 1 (mI M2 47 1 + 1)) 47 57 = nI k := by rw [mI_wI_ne (by decide), mI_wI_ne (by decide), d3, u57]
      have z77 : ∀ i, mI (wI (wI M2 47 0 0) 47 1 (mI M2 47 1 + 1)) 77 i = mI M2 77 i := fun i => by rw [mI_wI_row (by decide), mI_wI_row (by decide)]
      generalize wI (wI M2 47 0 0) 47 1 (mI M2 47 1 + 1) = Mz at *
      have zx : ∀ a k, a < 47 ∨ a = 48 → mI Mz a k = mI Ma a k := fun a k w => hFz.i (by unfold Slr Srv; omega)
      refine h.gen ((hFwa.up (fun _ _ w => Or.inl w) (fun _ _ w => w)).tr ((hFz.fw).up (fun a k w => Or.inr w) (fun _ _ w => w))) (by rw [hFz.1]; exact hna) (by rw [hFz.2.1]; exact hza) ⟨?_, fun m hm => ?_⟩ ⟨k + 1, by omega, ?_, ?_, fun i hi => ⟨(lnS (mI M 49) y st0 (di g) i).2, (hok i).2, ?_, ?_⟩⟩ ((hsa.fr (by have := mA.2.1; omega) hFz (fun a k w => by unfold Slr Srv at w; omega)).mono (by omega)) z1
      · rw [z0, zx 0 12 (by omega)]
        exact ec12
      · rw [zx 45 _ (by omega), zx 48 _ (by omega), fx 45 _ (by decide) (by unfold Sln Slk; omega), fx 48 _ (by decide) (by unfold Sln Slk; omega)]
        exact h.1.2.2.2.2.2 m hm
      · rw [zx 0 11 (by omega)]
        exact v11a
      · rw [z57, show (1 : Int32) = nI 1 from rfl, nsub (by omega)]
        rfl
      · rw [zx 46 i (by omega)]
        exact v46a i (by omega)
      · rw [z77]
        exact d4 i (by omega)
    · rw [if_pos w, if_neg w2] at ec
      refine CALL.ref hc (n := 2) (by unfold RN; omega) h ec ?_
      show f_X12_line (RFC M 2) 47 p1 p2 p3 = _
      rw [r_line_eq (h.1.2.1.rfc) hv.1 (rfc56 2), if_pos w, if_neg w2]
      rfl
  · rw [if_neg w] at ec
    refine CALL.ref hc (n := 1) (by unfold RN; omega) h ec ?_
    show f_X12_line (RFC M 1) 47 p1 p2 p3 = _
    rw [r_line_eq (h.1.2.1.rfc) hv.1 (rfc56 1), if_neg w]
    rfl
