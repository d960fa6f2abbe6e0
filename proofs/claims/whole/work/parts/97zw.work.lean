/-! chances: all of work() -/
noncomputable def wkJ (a0 : Nat) (p1 p2 : Int32) (s9 : Mem) : Option (Mem × Int32) := bv (wI s9 a0 5 p1) (fun M13 => bv (wI M13 a0 6 p2) (fun M17 => Option.bind (mR M17 a0 0) (fun r21 => grd (okO M17 10 r21) (bv (wI M17 a0 7 (mI M17 r21 11)) (fun M23 => Option.bind (mR M23 a0 0) (fun r27 => grd (okO M23 10 r27) (bv (wI M23 a0 8 (mI M23 r27 13)) (fun M29 => Option.bind (mR M29 a0 1) (fun r33 => grd (okO M29 8 r33) (Option.bind (f_X8_open M29 r33 (mI M29 a0 7)) (fun q35 => Option.bind (mR q35 a0 3) (fun r40 => Option.bind (f_J7_fill_d0a16 q35 r40 0) (fun q41 => Option.bind (mR q41 a0 3) (fun r46 => grd (okO q41 15 r46) (grd (vp_in p1 (mL q41 r46)) (bv (wJ q41 r46 p1.toNatClampNeg 1000000000000) (fun M49 => Option.bind (loopO (wk0 p2 a0) (M49, 0)) (fun (x60 : Mem) => some (x60, 1)))))))))))))))))))
noncomputable def wkD (M : Mem) (a0 : Nat) (p1 p2 : Int32) : Option (Mem × Int32) := Option.bind (mR M a0 3) (fun r6 => grd (okO M 15 r6) (bv (wkJ a0 p1 p2) (fun j8 => if (nI (mL M r6)) = 0 then (bv (nA M 15 (9331 : Int32).toNatClampNeg) (fun M110 => bv (wR M110 a0 3 (some (mn M))) (fun M115 => bv (nA M115 15 (9331 : Int32).toNatClampNeg) (fun M119 => bv (wR M119 a0 4 (some (mn M115))) (fun M124 => j8 M124))))) else (j8 M))))
theorem work_eq {M : Mem} {a0 : Nat} {p1 p2 : Int32} : f_X0_work M a0 p1 p2 = if p1 = (-1) then (some (M, 0)) else (if p2 < 0 then (some (M, 0)) else (if p2 ≤ 3 then (grd (okO M 0 a0) (bv (fun (_ : Unit) => wkD M a0 p1 p2) (fun j2 => if (mI M a0 5) = p1 then (if (mI M a0 6) = p2 then (Option.bind (mR M a0 0) (fun r128 => grd (okO M 10 r128) (if (mI M a0 7) = (mI M r128 11) then (Option.bind (mR M a0 0) (fun r130 => grd (okO M 10 r130) (if (mI M a0 8) = (mI M r130 13) then (some (M, 1)) else (j2 ())))) else (j2 ())))) else (j2 ())) else (j2 ())))) else (some (M, 0)))) := rfl
def Sw3 (p l a k : Nat) : Prop := Sla a k ∨ a = p ∨ a = l
def Rwk (a k : Nat) : Prop := a = 42 ∧ (k = 3 ∨ k = 4)
theorem rwk_old : ∀ a k, Rwk a k → oldR a k = false ∧ a ≠ 9 := fun a k h => by
  obtain ⟨rfl, w⟩ := h
  rcases w with rfl | rfl <;> decide
theorem MID.r42 {M M1 : Mem} {S : Nat → Nat → Prop} (h : MID M) (hF : Fw S Rwk M M1) (hs : ∀ a k, S a k → ¬ Frl a k ∧ ¬ HT M a) : MID M1 ∧ mI M1 49 = mI M 49 := h.fw hF hs (fun a k w => ⟨(rwk_old a k w).1, (rwk_old a k w).2, fun q => by have := w.1; omega⟩)
def WKI (K : Nat → Int32) (B y p0 l0 : Nat) (M M' : Mem) (T : Nat → Nat) : Prop := MID M' ∧ OPN B y M' ∧ mI M' 49 = K ∧ Fw (Sw3 p0 l0) Rwk M M' ∧ mn M' = mn M ∧ mz M' = mz M ∧ RW15 M' p0 ∧ RW15 M' l0 ∧ ∃ rp rl, ((rp = p0 ∧ rl = l0) ∨ (rp = l0 ∧ rl = p0)) ∧ mR M' 42 3 = some rp ∧ mR M' 42 4 = some rl ∧ JR M' rp T
theorem RW15.fw {S R : Nat → Nat → Prop} {M M1 : Mem} {r : Nat} (h : RW15 M r) (hF : Fw S R M M1) : RW15 M1 r := ⟨h.1, hF.ok h.2.1, by rw [hF.l h.2.1.1]; exact h.2.2⟩
theorem c_wk0 {K : Nat → Int32} {B y p0 l0 : Nat} {M M1 : Mem} (hB : B < 16777216) (hne : p0 ≠ l0) {l : List Nat} (hl : DL l) {n : Nat} (hn : n ≤ 3) (h : WKI K B y p0 l0 M M1 (PRT K y l 0)) : TT (loopO (wk0 (nI n) 42) (M1, 0)) (fun M2 => WKI K B y p0 l0 M M2 (PRT K y l n)) := by
  have kt : KTH K := by
    have := h.1.1.2.2.1.1
    rw [h.2.2.1] at this
    exact this
  refine TT_for n (fun k s => s.2 = nI k ∧ WKI K B y p0 l0 M s.1 (PRT K y l k)) ?_ (Nat.zero_le _) ⟨rfl, h⟩
  rintro k ⟨M2, i⟩ hk ⟨q1, q2, q3, q4, q5, q6, q7, q8, q9, rp, rl, q10, q11, q12, q13⟩
  simp only at q1 q2 q3 q4 q5 q6 q7 q8 q9 q11 q12 q13
  subst q1
  unfold wk0
  simp only
  by_cases w : k < n
  · rw [if_neg (fun q => by have := (nleI (by omega) (by omega)).mp q; omega), q12, Option.bind_some]
    have wp : RW15 M2 rp := by rcases q10 with ⟨rfl, rfl⟩ | ⟨rfl, rfl⟩ <;> assumption
    have wl : RW15 M2 rl := by rcases q10 with ⟨rfl, rfl⟩ | ⟨rfl, rfl⟩ <;> assumption
    have hn2 : rp ≠ rl := by
      rcases q10 with ⟨rfl, rfl⟩ | ⟨rfl, rfl⟩
      · exact hne
      · exact fun q => hne q.symm
    have sub : ∀ a k, Sw2 rl a k → Sw3 p0 l0 a k := fun a k w => by
      rcases w with w | w
      · exact Or.inl w
      · rcases q10 with ⟨rfl, rfl⟩ | ⟨rfl, rfl⟩
        · exact Or.inr (Or.inr w)
        · exact Or.inr (Or.inl w)
    rw [TT_bind]
    refine (c_fillJ wl).mono ?_
    rintro M3 ⟨f3, j3⟩
    obtain ⟨m3, k3⟩ := q2.sj wl f3
    have o3 := q3.sj q2.2.1 wl f3
    rw [TT_bind]
    refine (c_wk1 m3 o3 hB (PRT_sum kt (y := y) hl k) (rp := rp) (rl := rl) (by rw [f3.2.2.2.2.1]; exact q11) (by rw [f3.2.2.2.2.1]; exact q12) (wp.fr f3) (wl.fr f3) hn2 (q13.fr f3 (fun i h => hn2 h)) j3).mono ?_
    rintro M4 ⟨f4, m4, o4, k4, j4, j4b⟩
    have e3 : mR M4 42 3 = some rp := by rw [f4.2.2.2.2.1, f3.2.2.2.2.1]; exact q11
    have e4 : mR M4 42 4 = some rl := by rw [f4.2.2.2.2.1, f3.2.2.2.2.1]; exact q12
    simp only [bv]
    rw [e3, Option.bind_some, e4, Option.bind_some, nsucc, TT_some]
    have hF5 : Fw Fno Rwk M4 (wR (wR M4 42 3 (some rl)) 42 4 (some rp)) := (Fw.rf.wR (show Rwk 42 3 from ⟨rfl, Or.inl rfl⟩)).wR (show Rwk 42 4 from ⟨rfl, Or.inr rfl⟩)
    have v3 : mR (wR (wR M4 42 3 (some rl)) 42 4 (some rp)) 42 3 = some rl := by rw [mR_wR, if_neg (by omega), mR_wR, if_pos ⟨rfl, rfl⟩]
    have v4 : mR (wR (wR M4 42 3 (some rl)) 42 4 (some rp)) 42 4 = some rp := by rw [mR_wR, if_pos ⟨rfl, rfl⟩]
    have vj : JR (wR (wR M4 42 3 (some rl)) 42 4 (some rp)) rl (nxtK (mI M3 49) y (PRT K y l k) 9331) := fun p hp => by
      rw [mJ_wR, mJ_wR]
      exact j4b p hp
    have vn : mn (wR (wR M4 42 3 (some rl)) 42 4 (some rp)) = mn M4 := rfl
    have vz : mz (wR (wR M4 42 3 (some rl)) 42 4 (some rp)) = mz M4 := rfl
    generalize wR (wR M4 42 3 (some rl)) 42 4 (some rp) = M5 at *
    obtain ⟨m5, k5⟩ := m4.r42 hF5 (fun a k w => w.elim)
    have o5 := o4.fw m4.2.1 hF5 (fun a k w => w.elim) (fun a k w => ⟨by have := w.1; omega, fun q => by have := w.1; omega⟩)
    have ep : PRT K y l (k + 1) = nxtK K y (PRT K y l k) 9331 := by rw [PRT]
    have hA : Fw (Sw3 p0 l0) Rwk M2 M3 := (f3.fw (R := Rwk)).up (fun a k w => sub a k (Or.inr w)) (fun _ _ w => w)
    have hB4 : Fw (Sw3 p0 l0) Rwk M3 M4 := (f4.fw (R := Rwk)).up sub (fun _ _ w => w)
    have hC5 : Fw (Sw3 p0 l0) Rwk M4 M5 := hF5.up (fun _ _ w => w.elim) (fun _ _ w => w)
    have hall := ((q5.tr hA).tr hB4).tr hC5
    rw [k3, q4] at vj
    refine ⟨w, rfl, m5, o5, by rw [k5, k4, k3, q4], hall, by rw [vn, f4.1, f3.1]; exact q6, by rw [vz, f4.2.1, f3.2.1]; exact q7, q8.fw ((hA.tr hB4).tr hC5), q9.fw ((hA.tr hB4).tr hC5), rl, rp, ?_, v3, v4, by rw [ep]; exact vj⟩
    rcases q10 with ⟨rfl, rfl⟩ | ⟨rfl, rfl⟩
    · exact Or.inr ⟨rfl, rfl⟩
    · exact Or.inl ⟨rfl, rfl⟩
  · have ek : k = n := by omega
    subst ek
    rw [if_pos ((nleI (by omega) (by omega)).mpr (by omega)), TT_some]
    exact ⟨q2, q3, q4, q5, q6, q7, q8, q9, rp, rl, q10, q11, q12, q13⟩
