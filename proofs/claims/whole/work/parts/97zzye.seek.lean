/-! the first is sought -/
theorem PTH.fwN {S R : Nat → Nat → Prop} {M M1 : Mem} (h : PTH M) (h78 : 78 ≤ mn M) (hF : Fw S R M M1) (hs : ∀ a k, S a k → (a < 78 ∧ ¬ (a = 1 ∧ k = 13) ∧ a ≠ 49 ∧ ¬ (a = 32 ∧ k = 3)) ∨ (78 ≤ a ∧ mK M a ≠ 2 ∧ mK M a ≠ 16)) (hr : ∀ a k, R a k → a < 78 ∧ a ≠ 33) : PTH M1 := by
  have e3 : mI M1 32 3 = mI M 32 3 := hF.i (by omega) (fun q => by have := hs 32 3 q; omega)
  have er : ∀ i, mR M1 33 i = mR M 33 i := fun i => hF.r (by omega) (fun q => by have := hr _ _ q; omega)
  refine ⟨by rw [e3]; exact h.1, fun i j d hi hj a b => h.2.1 i j d hi hj (by rw [← er]; exact a) (by rw [← er]; exact b), fun i d hi e => ?_⟩
  rw [er] at e
  have hO := h.2.2 i d hi e
  obtain ⟨t1, t2, t3, t4, t5, t6, t7, t8, t9, t10⟩ := id hO.1
  refine hO.fw h78 hF (fun a k w => ?_) (fun k q => by have := hr _ _ q; omega)
  rcases hs a k w with q | q
  · exact ⟨by unfold Std; omega, q.2.1, q.2.2.1⟩
  · refine ⟨fun z => ?_, by omega, by omega⟩
    rcases z with rfl | rfl | rfl
    · exact q.2.1 t2.2
    · exact q.2.2 t7.2
    · exact q.2.2 t9.2
theorem SMR.k {M : Mem} {rs : Nat} (h : SMR M rs) : ¬ HT M rs ∧ ∀ k, ¬ Spc M rs k := by
  obtain ⟨h1, h2, h3, h4⟩ := h
  refine ⟨fun q => ?_, fun k q => ?_⟩
  · rcases q.2 with u | u | u | ⟨u, v⟩
    · rw [h3.2] at u; cases u
    · rw [h3.2] at u; cases u
    · rw [h3.2] at u; cases u
    · omega
  · rcases q with q | q | q | ⟨q, u | u⟩
    · omega
    · omega
    · omega
    · rw [h3.2] at u; cases u
    · rw [h3.2] at u; cases u
theorem SMR.spc {M M1 : Mem} {rs : Nat} (h : SMR M rs) (h78 : 78 ≤ mn M) (hF : Fw (Spc M) Rpc M M1) {f : Nat → Option Nat} (hf : SUMR M rs f) : SMR M1 rs ∧ SUMR M1 rs f := by
  have hk := h.k
  obtain ⟨h1, h2, h3, h4⟩ := h
  refine ⟨⟨?_, h2, hF.ok h3, by rw [hF.l h3.1]; exact h4⟩, fun p hp => ?_⟩
  · rw [hF.r (by omega) (fun q => by
      rcases q with q | q
      · have := q.1; omega
      · omega)]
    exact h1
  · rw [hF.i h3.1 (hk.2 p)]
    exact hf p hp
/-- the row of the sums is written -/
theorem rs_step {M M1 : Mem} {B y rs : Nat} (h : MID M) (hO : OPN B y M) (hP : PTH M) (hs : SMR M rs) (hF : Fr (fun a _ => a = rs) M M1) : MID M1 ∧ OPN B y M1 ∧ PTH M1 ∧ mI M1 49 = mI M 49 ∧ SMR M1 rs ∧ Fw (Spw M) Rpx M M1 ∧ PMX M M1 := by
  have hk := hs.k
  obtain ⟨h1, h2, h3, h4⟩ := id hs
  obtain ⟨n1, k1⟩ := h.fw (hF.fw (R := fun _ _ => False)) (fun a k w => ⟨by unfold Frl; omega, by rw [w]; exact hk.1⟩) (fun _ _ w => w.elim)
  refine ⟨n1, hO.fw h.2.1 (hF.fw (R := fun _ _ => False)) (fun a k w => ⟨by omega, by omega, by omega, by omega, by rw [w]; exact hk.1⟩) (fun _ _ w => w.elim), hP.fwN h.2.1 (hF.fw (R := fun _ _ => False)) (fun a k w => Or.inr ⟨by omega, ?_, ?_⟩) (fun _ _ w => w.elim), k1, ⟨by rw [hF.2.2.2.2.1]; exact h1, h2, okO_fr hF h3, by rw [hF.2.2.2.1]; exact h4⟩, (hF.fw (R := Rpx)).up (fun a k w => ?_) (fun _ _ w => w), PMX.fr hF⟩
  · rw [w, h3.2]; decide
  · rw [w, h3.2]; decide
  · rw [w]
    exact Or.inr (Or.inr (Or.inr (Or.inr (Or.inr (Or.inr (Or.inr ⟨h2, h3.2, h4⟩))))))
noncomputable def sk0 (a0 : Nat) (p1 : Int32) : Mem × Int32 → Option ((Mem × Int32) ⊕ (Mem)) := (fun s28 => Option.bind (mR s28.1 a0 0) (fun r37 => grd (okO s28.1 10 r37) (if (mI s28.1 r37 8) ≤ s28.2 then (some (.inr s28.1)) else (bv (fun (s40 : Mem) => bv (s28.2 + 1 : Int32) (fun x44 => some (.inl (s40, x44)))) (fun j39 => if ((sr p1 s28.2) &&& 1) = 1 then (Option.bind (mR s28.1 a0 0) (fun r45 => grd (okO s28.1 10 r45) (Option.bind (mR s28.1 r45 5) (fun r47 => grd (okO s28.1 14 r47) (grd (vp_in s28.2 (mL s28.1 r47)) (Option.bind (mR s28.1 a0 0) (fun r50 => grd (okO s28.1 10 r50) (Option.bind (f_X4_tableTo s28.1 a0 (mI s28.1 r47 s28.2.toNatClampNeg) (mI s28.1 r50 11)) (fun q52 => grd (okO q52.1 2 q52.2) (Option.bind (f_X2_spread q52.1 q52.2 (-1) 9331) (fun q58 => Option.bind (mR q58 q52.2 2) (fun r64 => Option.bind (f_X4_addFrom q58 a0 r64) (fun q65 => j39 q65))))))))))))) else (j39 s28.1))))))
noncomputable def skJ (a0 : Nat) (p1 : Int32) (s18 : Mem) : Option Mem := Option.bind (mR s18 a0 4) (fun r22 => Option.bind (f_J7_fill_53178 s18 r22 0) (fun q23 => Option.bind (loopO (sk0 a0 p1) (q23, 0)) (fun (x35 : Mem) => Option.bind (f_X4_findLeast x35 a0) (fun q72 => some q72))))
noncomputable def skN (a0 : Nat) (p1 : Int32) (M : Mem) : Option Mem := bv (wI M a0 5 p1) (fun M6 => Option.bind (mR M6 a0 0) (fun r10 => grd (okO M6 10 r10) (bv (wI M6 a0 6 (mI M6 r10 14)) (fun M12 => ncase (mR M12 a0 4) (bv (skJ a0 p1) (fun j17 => bv (nA M12 14 (9331 : Int32).toNatClampNeg) (fun M77 => bv (wR M77 a0 4 (some (mn M12))) (fun M82 => j17 M82)))) (fun r16 => bv (skJ a0 p1) (fun j86 => j86 M12))))))
theorem seekFirst_eq {M : Mem} {a0 : Nat} {p1 : Int32} : f_X4_seekFirst M a0 p1 = grd (okO M 4 a0) (bv (fun (_ : Unit) => skN a0 p1 M) (fun j2 => if (mI M a0 5) = p1 then (Option.bind (mR M a0 0) (fun r146 => grd (okO M 10 r146) (if (mI M a0 6) = (mI M r146 14) then (some M) else (j2 ())))) else (j2 ()))) := rfl
/-- the reference's rows are as they were -/
def A47 (M M1 : Mem) : Prop := ∀ a k, 34 ≤ a → a < 78 → mI M1 a k = mI M a k
theorem A47.tr {M M1 M2 : Mem} (h : A47 M M1) (h2 : A47 M1 M2) : A47 M M2 := fun a k w1 w2 => (h2 a k w1 w2).trans (h a k w1 w2)
/-- what is carried along while the first is sought -/
def SKI (V : Nat → Int32) (K : Nat → Int32) (B y n b rs : Nat) (mo : Nat → Option Nat) (yr : Nat → Nat) (di : Nat → List Nat) (M : Mem) (h : Nat) (M' : Mem) : Prop := MID M' ∧ SCI (B + h) M' ∧ PTH M' ∧ mI M' 49 = K ∧ HSV M' n mo yr di ∧ SMR M' rs ∧ SUMR M' rs (smF (fun h p => dst K y (rank (di h)) p) b h) ∧ Fw (Spw M) Rpx M M' ∧ PMX M M' ∧ (∀ k, 5 ≤ k → mI M' 32 k = V k) ∧ A47 M M'
theorem dst_D {K : Nat → Int32} {y g : Nat} {D : Nat → Option Nat} (h : ∀ p e, D p = some e ↔ isD (rdjK K y) g p e) (p : Nat) : D p = dst K y g p := opt_iff (fun e => by rw [h, dst_iff])
/-- STEPS are few -/
theorem dst_lt {K : Nat → Int32} {y g : Nat} {Q : List Nat} {D : Nat → Option Nat} {kk : Nat} (b : BFS (rdjK K y) g Q kk D) (h9 : ∀ p, p ∈ Q → p < 9331) (h : ∀ p e, D p = some e ↔ isD (rdjK K y) g p e) {p e : Nat} (he : dst K y g p = some e) : e < 9331 := by
  rw [← dst_D h] at he
  exact b.dlt h9 he
theorem HSV.spw {M M1 : Mem} {n : Nat} {mo : Nat → Option Nat} {yr : Nat → Nat} {di : Nat → List Nat} (hv : HSV M n mo yr di) (h78 : 78 ≤ mn M) (hF : Fw (Spw M) Rpx M M1) : HSV M1 n mo yr di := by
  obtain ⟨hn, v1, v2, v3⟩ := hv
  have e : ∀ a k, a = 49 ∨ (1 ≤ a ∧ a ≤ 8) → mI M1 a k = mI M a k := fun a k w => hF.i (by omega) (fun q => by have := spw_x a k q; omega)
  refine ⟨hn, by rw [e 49 _ (by omega)]; exact v1, by rw [e 1 _ (by omega)]; exact v2, fun j hj => ?_⟩
  have := v3 j hj
  rw [e 49 _ (by omega), e 49 _ (by omega), e 49 _ (by omega), e 5 _ (by omega), e 6 _ (by omega), e 7 _ (by omega), e 8 _ (by omega)]
  exact this
theorem c_sk0 {V K : Nat → Int32} {B y n b rs : Nat} {mo : Nat → Option Nat} {yr : Nat → Nat} {di : Nat → List Nat} {M M0 : Mem} (hB : B + 12 < 16776000) (hy : y ≤ 999) (hK54 : K 54 = nI y) (hb : b < 4096) (hdl : ∀ p e h, h < n → dst K y (rank (di h)) p = some e → e < 9331) (h0 : SKI V K B y n b rs mo yr di M 0 M0) : TT (loopO (sk0 32 (nI b)) (M0, 0)) (fun M1 => SKI V K B y n b rs mo yr di M n M1) := by
  have hn := h0.2.2.2.2.1.1
  refine TT_for n (fun h s => ∃ M', s = (M', nI h) ∧ SKI V K B y n b rs mo yr di M h M') ?_ (Nat.zero_le _) ⟨M0, rfl, h0⟩
  rintro h s hh ⟨M', rfl, hI⟩
  obtain ⟨m1, s1, hP, k1, hv, hs, hf, fw, pm, hV, h47⟩ := id hI
  have h78 := m1.2.1
  obtain ⟨l1, l2, l3, l4, l5, l6⟩ := okLP m1
  obtain ⟨a1, a2, a3, a4, a5, a6, a7, a8, a9⟩ := lay1 m1
  have k10 := (okLV m1).1
  unfold sk0
  simp only
  rw [l2, Option.bind_some, grd_y k10, hv.2.2.1]
  by_cases w : h = n
  · rw [if_pos ((nleI (by omega) (by omega)).mpr (by omega)), TT_some]
    subst w
    exact hI
  · have hlt : h < n := by omega
    rw [if_neg (fun q => w (by have := (nleI (by omega) (by omega)).mp q; omega)), TT_bv]
    by_cases wb : b.testBit h = true
    · obtain ⟨-, g2, g3, -, -, -, -, -, g9, -⟩ := hv.2.2.2 h hlt
      have r2 := rank_lt g3
      have e11 : mI M' 1 11 = nI y := by
        rw [m1.1.2.2.2.1.2.1.2.2.2.1, k1]
        exact hK54
      rw [if_pos ((bit_n (by omega) (by omega)).mpr wb), Option.bind_some, grd_y k10, a3, Option.bind_some, grd_y a6, a9, grd_y ((nvp (by omega)).mpr (by omega)), Option.bind_some, grd_y k10, nclampI (by omega), g9, e11, TT_bind]
      refine (c_tableTo m1 s1 (by omega) hy r2 hP).mono ?_
      rintro ⟨M1, d⟩ ⟨i, Q, D, t, kk1, f1, p1⟩
      simp only at t kk1 f1 p1 ⊢
      obtain ⟨t1, t2, t3, ⟨kk, tb⟩, t5, t6⟩ := id t
      have hT := tb.2.2.2.1
      rw [grd_y hT.2.1, TT_bind]
      refine (c_spreadN tb (by omega) tb.1.kth).mono ?_
      rintro M2 ⟨Q2, D2, kk2, s2, sf2, s3⟩
      obtain ⟨t', kq2⟩ := t.spr r2 hy s2 sf2
      obtain ⟨n2, op2, hT2, tc2, hP2⟩ := t'.mid
      have f2 : Fw (Spc M') Rpc M' M2 := Spc.tr f1 (sf2.fw.up (Sdp_spc hT) (fun _ _ w => w))
      obtain ⟨hs2, hf2⟩ := hs.spc h78 f2 hf
      rw [hT2.2.2.2.2.1, Option.bind_some, TT_bind]
      rw [kk1, k1] at s3
      have bT : ∀ q s, smF (fun h p => dst K y (rank (di h)) p) b h q = some s → s < 1000000 := fun q s e => by
        have := smF_le (T := fun h p => dst K y (rank (di h)) p) (n := n) (fun h p e hh he => hdl p e h hh he) h q s (by omega) e
        omega
      refine (c_addFrom (okLP n2).1 hs2 hf2 hT2.2.2.2.2.2.2.1 hT2.2.2.2.2.2.2.2.1 (fun p hp => ?_) bT (fun p e he => hdl p e h hlt he)).mono ?_
      · rw [tc2.2.1 p hp, dst_D s3]
      · rintro M3 ⟨f3, v3⟩
        obtain ⟨n3, op3, hP3, k3, hs3, fw3, pm3⟩ := rs_step n2 op2 hP2 hs2 f3
        rw [TT_bv, TT_some]
        have fwA : Fw (Spw M') Rpx M' M3 := Spw.tr (Spc.w f2) fw3
        refine ⟨hlt, M3, by rw [nsucc], n3, op3.sci, hP3, by rw [k3, kq2, kk1, k1], hv.spw h78 fwA, hs3, ?_, Spw.tr fw fwA, pm.tr (((p1.tr (PMN.fr sf2)).x h78 f2).tr pm3), fun k hk => ?_, fun a k w1 w2 => ?_⟩
        · intro p hp
          rw [v3 p hp, smF, if_pos wb]
        · have := hs.2.1
          rw [f3.i (by omega), f2.i (by omega) (fun q => by rcases q with q | q | q | q <;> omega)]
          exact hV k hk
        · have := hs.2.1
          rw [f3.i (by omega), spc_47 h78 f2 (by omega) w2]
          exact h47 a k w1 w2
    · rw [if_neg (fun q => wb ((bit_n (by omega) (by omega)).mp q)), TT_bv, TT_some]
      refine ⟨hlt, M', by rw [nsucc], m1, s1.mono (by omega), hP, k1, hv, hs, ?_, fw, pm, hV, h47⟩
      intro p hp
      rw [hf p hp, smF, if_neg wb]
