/-! line() on both sides -/
noncomputable def lcB (a0 : Nat) (p3 : Int32) : Mem × Int32 × Int32 × Int32 → Option ((Mem × Int32 × Int32 × Int32) ⊕ (Mem × Int32)) := (fun s34 => if p3 < s34.2.2.2 then (some (.inr (s34.1, s34.2.2.1))) else (Option.bind (mR s34.1 a0 4) (fun r43 => Option.bind (mR s34.1 a0 0) (fun r44 => grd (okO s34.1 10 r44) (grd (okO s34.1 8 r43) (Option.bind (f_X8_open s34.1 r43 (mmin 999 (((mI s34.1 r44 11) + s34.2.2.2) - 1))) (fun q47 => Option.bind (mR q47 a0 5) (fun r52 => grd (okO q47 1 r52) (Option.bind (f_X1_listAll q47 r52 s34.2.2.1) (fun q54 => Option.bind (mR q54 a0 5) (fun r59 => grd (okO q54 1 r59) (bv (fun (s62 : Int32 × Int32) => Option.bind (mR q54 a0 10) (fun r65 => grd (okO q54 14 r65) (grd (vp_in s34.2.2.2 (mL q54 r65)) (bv (wI q54 r65 s34.2.2.2.toNatClampNeg s62.2) (fun M68 => bv (s34.2.2.2 + 1 : Int32) (fun x72 => some (.inl (M68, s62.1, s62.2, x72)))))))) (fun j61 => if (mI q54 r59 6) ≤ 0 then (j61 (s34.2.1, s34.2.2.1)) else (bv (ir ((s34.2.1 * 1103) + 12345) 1000003 : Int32) (fun x73 => Option.bind (mR q54 a0 5) (fun r74 => Option.bind (mR q54 a0 5) (fun r75 => grd (okO q54 1 r75) (grd (¬ (mI q54 r75 6) = 0) (grd (okO q54 1 r74) (Option.bind (f_X1_madeBy q54 r74 (ir x73 (mI q54 r75 6))) (fun q79 => j61 (x73, q79))))))))))))))))))))))
noncomputable def lrB (a0 : Nat) (p3 : Int32) : Mem × Int32 → Option ((Mem × Int32) ⊕ (Mem)) := (fun s39 => if p3 ≤ s39.2 then (some (.inr s39.1)) else (Option.bind (mR s39.1 a0 3) (fun r48 => grd (okO s39.1 14 r48) (grd (vp_in 54 (mL s39.1 r48)) (bv (fun (s52 : Int32) => Option.bind (mR s39.1 a0 56) (fun r55 => grd (okO s39.1 14 r55) (grd (vp_in s39.2 (mL s39.1 r55)) (Option.bind (f_X12_lists s39.1 a0 (mI s39.1 r55 s39.2.toNatClampNeg) s52 1) (fun q58 => Option.bind (loopO (lrS q58 a0) (0, 0)) (fun (x69 : Int32) => Option.bind (mR q58 a0 56) (fun r76 => Option.bind (mR q58 a0 56) (fun r77 => grd (okO q58 14 r77) (grd (vp_in s39.2 (mL q58 r77)) (grd (okO q58 14 r76) (grd (vp_in (s39.2 + 1) (mL q58 r76)) (bv (wI q58 r76 (s39.2 + 1).toNatClampNeg (mI q58 r77 s39.2.toNatClampNeg)) (fun M82 => bv (fun (s87 : Mem) => bv (s39.2 + 1 : Int32) (fun x91 => some (.inl (s87, x91)))) (fun j86 => if x69 = 0 then (j86 M82) else (Option.bind (f_X12_draws M82 a0 x69) (fun q92 => Option.bind (loopO (lrP q92 a0) (q92.2, 0)) (fun (x103 : Int32) => Option.bind (mR q92.1 a0 56) (fun r113 => Option.bind (mR q92.1 a0 9) (fun r114 => grd (okO q92.1 14 r114) (grd (vp_in x103 (mL q92.1 r114)) (grd (okO q92.1 14 r113) (grd (vp_in (s39.2 + 1) (mL q92.1 r113)) (bv (wI q92.1 r113 (s39.2 + 1).toNatClampNeg (mI q92.1 r114 x103.toNatClampNeg)) (fun M119 => j86 M119)))))))))))))))))))))))) (fun j51 => if ((mI s39.1 r48 (54 : Int32).toNatClampNeg) + s39.2) ≤ 999 then (Option.bind (mR s39.1 a0 3) (fun r123 => grd (okO s39.1 14 r123) (grd (vp_in 54 (mL s39.1 r123)) (j51 ((mI s39.1 r123 (54 : Int32).toNatClampNeg) + s39.2))))) else (j51 999)))))))
theorem cline_eq {M : Mem} {a0 : Nat} {p1 p2 p3 : Int32} : f_X11_line M a0 p1 p2 p3 = bv (fun (s2 : Unit) => grd (okO M 11 a0) (Option.bind (f_X11_refuse M a0 (-1)) (fun q6 => some (q6.1, q6.2)))) (fun j1 => if p1 < 0 then (j1 ()) else (if 1000000 < p1 then (j1 ()) else (if p3 < 1 then (j1 ()) else (if p3 ≤ 60 then (grd (okO M 11 a0) (Option.bind (mR M a0 0) (fun r12 => grd (okO M 10 r12) (Option.bind (f_X10_hasHouse M r12 p2) (fun q14 => if q14 = 0 then (Option.bind (f_X11_refuse M a0 (-2)) (fun q91 => some (q91.1, q91.2))) else (Option.bind (mR M a0 0) (fun r17 => grd (okO M 10 r17) (Option.bind (mR M r17 5) (fun r19 => grd (okO M 14 r19) (grd (vp_in p2 (mL M r19)) (bv (mI M r19 p2.toNatClampNeg : Int32) (fun x22 => Option.bind (mR M a0 10) (fun r23 => grd (okO M 14 r23) (grd (vp_in 0 (mL M r23)) (bv (wI M r23 (0 : Int32).toNatClampNeg x22) (fun M26 => bv (wI M26 a0 11 (p3 + 1)) (fun M30 => Option.bind (loopO (lcB a0 p3) (M30, p1, x22, 1)) (fun (x41 : Mem × Int32) => Option.bind (f_X6_numberOf x41.2) (fun q83 => Option.bind (f_X11_accept x41.1 a0 q83) (fun q86 => some (q86.1, q86.2))))))))))))))))))))) else (j1 ()))))) := rfl
theorem rline_eq {M : Mem} {a0 : Nat} {p1 p2 p3 : Int32} : f_X12_line M a0 p1 p2 p3 = Option.bind (f_X12_lies p1 0 1000000) (fun q1 => bv (fun (s5 : Unit) => grd (okO M 12 a0) (Option.bind (f_X12_refuses M a0 (-1)) (fun q9 => some (q9.1, q9.2)))) (fun j4 => if q1 = 0 then (j4 ()) else (Option.bind (f_X12_lies p3 1 60) (fun q14 => if q14 = 0 then (j4 ()) else (grd (okO M 12 a0) (Option.bind (f_X12_isHouse M a0 p2) (fun q18 => if q18 = 0 then (Option.bind (f_X12_refuses M a0 (-2)) (fun q135 => some (q135.1, q135.2))) else (bv (wI M a0 58 p1) (fun M21 => bv (wI M21 a0 57 p3) (fun M25 => Option.bind (mR M25 a0 56) (fun r29 => Option.bind (f_X12_fact M25 a0 p2 2) (fun q30 => grd (okO M25 14 r29) (grd (vp_in 0 (mL M25 r29)) (bv (wI M25 r29 (0 : Int32).toNatClampNeg q30) (fun M35 => Option.bind (loopO (lrB a0 p3) (M35, 0)) (fun (x46 : Mem) => Option.bind (mR x46 a0 56) (fun r127 => grd (okO x46 14 r127) (grd (vp_in p3 (mL x46 r127)) (Option.bind (f_X12_good x46 a0 (mI x46 r127 p3.toNatClampNeg)) (fun q130 => some (q130.1, q130.2))))))))))))))))))))) := rfl
noncomputable def lnS (K : Nat → Int32) (y st0 : Nat) (l0 : List Nat) : Nat → Nat × List Nat
  | 0 => (st0, l0)
  | k + 1 => if sumW (EDG K (min 999 (y + k)) (lnS K y st0 l0 k).2) = 0 then lnS K y st0 l0 k else (((lnS K y st0 l0 k).1 * 1103 + 12345) % 1000003, pkD (EDG K (min 999 (y + k)) (lnS K y st0 l0 k).2) (((lnS K y st0 l0 k).1 * 1103 + 12345) % 1000003 % sumW (EDG K (min 999 (y + k)) (lnS K y st0 l0 k).2)))
theorem lnS_ok {K : Nat → Int32} (hk : KTH K) {y st0 : Nat} {l0 : List Nat} (hl : DL l0) (hs : st0 ≤ 1000002) : ∀ k, (lnS K y st0 l0 k).1 ≤ 1000002 ∧ DL (lnS K y st0 l0 k).2 := by
  intro k
  induction k with
  | zero => exact ⟨hs, hl⟩
  | succ k ih =>
    unfold lnS
    split
    · exact ih
    · rename_i w
      obtain ⟨cc, c1, c2, c3⟩ := pkD_at (L := EDG K (min 999 (y + k)) (lnS K y st0 l0 k).2) (a := ((lnS K y st0 l0 k).1 * 1103 + 12345) % 1000003 % sumW (EDG K (min 999 (y + k)) (lnS K y st0 l0 k).2)) (Nat.mod_lt _ (by omega))
      refine ⟨by show _ % 1000003 ≤ _; omega, ?_⟩
      show DL (pkD _ _)
      rw [c3]
      exact (EDG_DL hk ih.2 c2).1
theorem mmin_n {a b : Nat} (ha : a < 2147483648) (hb : b < 2147483648) : mmin (nI a) (nI b) = nI (min a b) := by
  unfold mmin
  by_cases h : nI b < nI a
  · rw [if_pos h, Nat.min_eq_right (by have := (nltI hb ha).mp h; omega)]
  · rw [if_neg h, Nat.min_eq_left (Nat.le_of_not_lt (fun q => h ((nltI hb ha).mpr q)))]
theorem SCI.fr2 {S : Nat → Nat → Prop} {B : Nat} {M M1 : Mem} (h : SCI B M) (h78 : 78 ≤ mn M) (hF : Fr S M M1) (hs : ∀ a k, S a k → a < 78 ∧ ¬ (1 ≤ a ∧ a ≤ 3) ∧ a ≠ 21 ∧ a ≠ 25 ∧ a ≠ 49) : SCI B M1 := by
  obtain ⟨tn, r, ru, y0, s1, s2, s3, s4, s5, s6, s7, s8, s9, s10, s11⟩ := h
  have e : ∀ a k, (1 ≤ a ∧ a ≤ 3) ∨ a = 21 ∨ a = 25 ∨ a = 49 → mI M1 a k = mI M a k := fun a k w => hF.i (fun q => by have := hs _ _ q; omega)
  have e49 : mI M1 49 = mI M 49 := funext (fun k => e 49 k (by omega))
  refine ⟨tn, r, ru, y0, s1, (e 21 4 (by omega)).trans s2, s3.e (fun k => e 25 k (by omega)), (e 21 5 (by omega)).trans s4, (e 1 13 (by omega)).trans s5, s6, s7, (e 21 6 (by omega)).trans s8, s9, fun tx q => okO_fr hF (s10 tx (by rw [← hF.2.2.2.2.1]; exact q)), fun w => ?_⟩
  obtain ⟨o, o1, o2⟩ := s11 w
  rw [e49]
  exact ⟨o, o1, o2.fw h78 (hF.fw (R := fun _ _ => False)) (fun a k q => by have := hs _ _ q; exact ⟨by omega, by omega, fun w => by have := w.1; omega⟩) (fun _ _ q => q.elim) (fun t _ => e 2 t (by omega)) (fun t _ => e 3 t (by omega)) (e 1 12 (by omega)) (fun _ _ => rfl) rfl (fun _ _ => rfl)⟩
def Sln (a k : Nat) : Prop := Slk a k ∨ a = 46 ∨ (a = 0 ∧ (k = 11 ∨ k = 12))
/-- what line() keeps in the class -/
def LNI (M : Mem) (B : Nat) (M' : Mem) : Prop := Fw Sln Rop M M' ∧ mn M' = mn M ∧ mz M' = mz M ∧ MID M' ∧ mI M' 49 = mI M 49 ∧ SCI B M'
theorem LNI.w46 {M M' : Mem} {B : Nat} (h : LNI M B M') {k : Nat} {v : Int32} : LNI M B (wI M' 46 k v) := by
  obtain ⟨h1, h2, h3, h4, h5, h6⟩ := h
  have hF : Fr (fun a _ => a = 46) M' (wI M' 46 k v) := Fr.rf.wI rfl
  obtain ⟨m1, m2⟩ := h4.fr hF (fun a k w => by unfold Frl; omega)
  exact ⟨h1.wI (Or.inr (Or.inl rfl)), h2, h3, m1, m2.trans h5, h6.fr2 h4.2.1 hF (fun a k w => by omega)⟩
theorem c_line_L {M M0 : Mem} {B n y st0 : Nat} {l0 : List Nat} (hl : DL l0) (hs : st0 ≤ 1000002) (hn : n ≤ 60) (hy : y ≤ 999) (h54 : mI M 49 54 = nI y) (hB : B < 16776000) (h : LNI M B M0) (h0 : mI M0 46 0 = nI (rank l0)) : TT (loopO (lcB 0 (nI n)) (M0, nI st0, nI (rank l0), 1)) (fun x => LNI M (B + n) x.1 ∧ x.2 = nI (rank (lnS (mI M 49) y st0 l0 n).2) ∧ mI x.1 0 11 = mI M0 0 11 ∧ ∀ i, i ≤ n → mI x.1 46 i = nI (rank (lnS (mI M 49) y st0 l0 i).2)) := by
  have kt : KTH (mI M 49) := by
    have := h.2.2.2.1.1.2.2.1.1
    rw [h.2.2.2.2.1] at this
    exact this
  have hok := lnS_ok kt (y := y) hl hs
  refine TT_for n (fun k s => s.2.2.2 = nI (k + 1) ∧ s.2.1 = nI (lnS (mI M 49) y st0 l0 k).1 ∧ s.2.2.1 = nI (rank (lnS (mI M 49) y st0 l0 k).2) ∧ LNI M (B + k) s.1 ∧ mI s.1 0 11 = mI M0 0 11 ∧ ∀ i, i ≤ k → mI s.1 46 i = nI (rank (lnS (mI M 49) y st0 l0 i).2)) ?_ (Nat.zero_le _) ⟨rfl, rfl, rfl, h, rfl, fun i hi => by
    obtain rfl : i = 0 := by omega
    exact h0⟩
  rintro k ⟨M1, st, rk, i⟩ hk ⟨q1, q2, q3, q4, q5, q6⟩
  simp only at q1 q2 q3 q4 q5 q6
  subst q1 q2 q3
  unfold lcB
  simp only
  by_cases w : k < n
  · rw [if_neg (fun q => by have := (nltI (by omega) (by omega)).mp q; omega)]
    obtain ⟨t1, t2, t3, t4, t5, t6⟩ := q4
    have h78 := t4.2.1
    have hC1 := t4.1.1
    have e11 : mI M1 1 11 = nI y := by
      rw [t4.1.2.2.2.1.2.1.2.2.2.1, t5]
      exact h54
    have ey : mmin 999 (nI y + nI (k + 1) - 1) = nI (min 999 (y + k)) := by
      rw [nadd, show (1 : Int32) = nI 1 from rfl, nsub (by omega), show (999 : Int32) = nI 999 from rfl, show y + (k + 1) - 1 = y + k by omega]
      exact mmin_n (by omega) (by omega)
    unfold LayC at hC1
    simp only [hC1, grd_T, Option.bind_some, bv]
    rw [e11, ey, TT_bind]
    refine (m_open t4 t6 (by omega) (show min 999 (y + k) ≤ 999 by omega)).mono ?_
    rintro M2 ⟨m2, o2, k2, f2, n2, z2⟩
    have hC2 := m2.1.1
    unfold LayC at hC2
    simp only [hC2, grd_T, Option.bind_some]
    rw [TT_bind]
    refine (m_listAll m2 o2 (by omega) (hok k).2).mono ?_
    rintro M3 ⟨m3, o3, k3, f3, l3⟩
    rw [k2, t5] at l3
    have hlen := EDG_len (K := mI M 49) (y := min 999 (y + k)) (hok k).2
    have hdl : ∀ cc, cc ∈ EDG (mI M 49) (min 999 (y + k)) (lnS (mI M 49) y st0 l0 k).2 → DL cc.1 ∧ cc.2 ≤ 99 := fun cc q => EDG_DL kt (hok k).2 q
    have hsum := sumW_le (fun cc q => (hdl cc q).2)
    have hC3 := m3.1.1
    unfold LayC at hC3
    simp only [hC3, grd_T, Option.bind_some]
    have e6 : mI M3 26 6 = nI (sumW (EDG (mI M 49) (min 999 (y + k)) (lnS (mI M 49) y st0 l0 k).2)) := l3.2.1
    have hI : LNI M (B + (k + 1)) M3 := ⟨(t1.tr (f2.up (fun a k w => Or.inl (Sop_lk a k w)) (fun _ _ w => w))).tr ((f3.fw).up (fun a k w => Or.inl (Sla_lk a k w)) (fun _ _ w => w)), by rw [f3.1, n2, t2], by rw [f3.2.1, z2, t3], m3, by rw [k3, k2, t5], o3.sci⟩
    have e011 : mI M3 0 11 = mI M0 0 11 := by
      rw [f3.i (by unfold Sla Ssc; omega), f2.i (by omega) (by unfold Sop; omega)]
      exact q5
    have e46 : ∀ i, mI M3 46 i = mI M1 46 i := fun i => by rw [f3.i (by unfold Sla Ssc; omega), f2.i (by omega) (by unfold Sop; omega)]
    rw [e6]
    have step : lnS (mI M 49) y st0 l0 (k + 1) = if sumW (EDG (mI M 49) (min 999 (y + k)) (lnS (mI M 49) y st0 l0 k).2) = 0 then lnS (mI M 49) y st0 l0 k else (((lnS (mI M 49) y st0 l0 k).1 * 1103 + 12345) % 1000003, pkD (EDG (mI M 49) (min 999 (y + k)) (lnS (mI M 49) y st0 l0 k).2) (((lnS (mI M 49) y st0 l0 k).1 * 1103 + 12345) % 1000003 % sumW (EDG (mI M 49) (min 999 (y + k)) (lnS (mI M 49) y st0 l0 k).2))) := rfl
    have hst := (hok k).1
    have tail : ∀ st2 l2, lnS (mI M 49) y st0 l0 (k + 1) = (st2, l2) → TT (grd (vp_in (nI (k + 1)) 61) (some (Sum.inl (wI M3 46 (nI (k + 1)).toNatClampNeg (nI (rank l2)), nI st2, nI (rank l2), nI (k + 1) + 1)))) (fun (r : (Mem × Int32 × Int32 × Int32) ⊕ (Mem × Int32)) => r.elim (fun s' => k < n ∧ s'.2.2.2 = nI (k + 1 + 1) ∧ s'.2.1 = nI (lnS (mI M 49) y st0 l0 (k + 1)).1 ∧ s'.2.2.1 = nI (rank (lnS (mI M 49) y st0 l0 (k + 1)).2) ∧ LNI M (B + (k + 1)) s'.1 ∧ mI s'.1 0 11 = mI M0 0 11 ∧ ∀ i, i ≤ k + 1 → mI s'.1 46 i = nI (rank (lnS (mI M 49) y st0 l0 i).2)) (fun x => LNI M (B + n) x.1 ∧ x.2 = nI (rank (lnS (mI M 49) y st0 l0 n).2) ∧ mI x.1 0 11 = mI M0 0 11 ∧ ∀ i, i ≤ n → mI x.1 46 i = nI (rank (lnS (mI M 49) y st0 l0 i).2))) := by
      intro st2 l2 e
      rw [grd_y ((nvp (by omega)).mpr (by omega)), TT_some, nclampI (by omega), e]
      refine ⟨w, nsucc _, rfl, rfl, hI.w46, ?_, fun i hi => ?_⟩
      · show mI (wI M3 46 (k + 1) _) 0 11 = _
        rw [mI_wI_row (by decide)]
        exact e011
      · show mI (wI M3 46 (k + 1) _) 46 i = _
        by_cases w2 : i = k + 1
        · subst w2
          rw [mI_wIs, e]
        · rw [mI_wI_ne w2, e46]
          exact q6 i (by omega)
    by_cases w0 : sumW (EDG (mI M 49) (min 999 (y + k)) (lnS (mI M 49) y st0 l0 k).2) = 0
    · rw [if_pos (by rw [w0]; decide)]
      rw [if_pos w0] at step
      exact tail _ _ step
    · rw [if_neg (fun q => by rw [show (0 : Int32) = nI 0 from rfl] at q; have := (nleI (by omega) (by omega)).mp q; omega)]
      rw [if_neg w0] at step
      rw [show (1103 : Int32) = nI 1103 from rfl, nmul, show (12345 : Int32) = nI 12345 from rfl, nadd, show (1000003 : Int32) = nI 1000003 from rfl, nrem (by omega) (by omega) (by omega), grd_y (fun q => by rw [show (0 : Int32) = nI 0 from rfl] at q; exact w0 ((neqI (by omega) (by omega)).mp q)), nrem (by omega) (by omega) (by omega), c_madeBy m3.1.1 l3 hlen (fun cc q => (hdl cc q).2) (Nat.mod_lt _ (by omega)), Option.bind_some]
      exact tail _ _ step
  · have en : k = n := by omega
    subst en
    rw [if_pos ((nltI (by omega) (by omega)).mpr (by omega)), TT_some]
    exact ⟨q4, rfl, q5, q6⟩
