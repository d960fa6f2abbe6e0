/-! law() on both sides -/
def Slw (a k : Nat) : Prop := Srd a k ∨ (a = 11 ∧ k = 4) ∨ (a = 0 ∧ (k = 14 ∨ k = 12)) ∨ (a = 1 ∧ k = 9)
/-- a call that is refused, whatever it read -/
def Sno (a k : Nat) : Prop := (a = 0 ∧ (k = 12 ∨ k = 14 ∨ k = 15)) ∨ (a = 11 ∧ 4 ≤ k) ∨ (13 ≤ a ∧ a ≤ 17) ∨ a = 45 ∨ (a = 47 ∧ k ≠ 1 ∧ k ≠ 12 ∧ k ≠ 34 ∧ k ≠ 57) ∨ a = 48 ∨ (58 ≤ a ∧ a ≤ 60)
def Snc (a k : Nat) : Prop := (a = 0 ∧ k = 14) ∨ (a = 11 ∧ 4 ≤ k) ∨ (13 ≤ a ∧ a ≤ 17)
def Snd (a k : Nat) : Prop := Snc a k ∨ a = 45 ∨ (a = 0 ∧ k = 12)
theorem Snd_no : ∀ a k, Snd a k → Sno a k := fun a k h => by
  unfold Snd Snc at h
  unfold Sno
  omega
def Rlw (a _k : Nat) : Prop := a = 9
def S78 (a _k : Nat) : Prop := a < 78
theorem s78 {a k : Nat} (h : a < 78) : S78 a k := h
theorem c_law_full {M : Mem} (hC : LayC M) (h9 : mI M 1 9 = nI 6) : f_X11_law M 0 = some (RFC (wI M 11 4 0) 5, -5) := by
  have e := c_refuse (M := wI M 11 4 0) hC (n := 5) (by unfold RN; omega)
  have e5 : -(nI 5) = (-5 : Int32) := by decide
  rw [e5] at e
  unfold LayC at hC
  unfold f_X11_law
  simp only [hC, grd_T, Option.bind_some, bv]
  rw [h9, if_neg (show ¬ nI 6 < 6 by decide), e, Option.bind_some]
theorem r_law_full {M : Mem} (hM : LayM M) (h57 : mI M 49 57 = nI 6) : f_X12_law M 47 = some (RFM (wI M 47 17 0) 5, -5) := by
  have e := r_refuses (M := wI M 47 17 0) hM (n := 5) (by unfold RN; omega)
  have e5 : -(nI 5) = (-5 : Int32) := by decide
  rw [e5] at e
  unfold LayM at hM
  unfold f_X12_law
  simp only [hM, grd_T, Option.bind_some, bv]
  have g57 : vp_in 57 5666 := show vp_in (nI 57) 5666 from (nvp (by omega)).mpr (by omega)
  rw [grd_y g57, show (57 : Int32).toNatClampNeg = 57 by decide, h57, if_pos (show nI 6 = 6 by decide), e, Option.bind_some]
def LWQ (bt : Nat → Nat) (n c : Nat) (M : Mem) (r : Nat ⊕ (List CL × List Nat)) (q : Mem × Int32) : Prop := match r with
  | .inl j => ∃ M1, Fr Snc M M1 ∧ mI M1 11 4 = 0 ∧ mI M1 0 14 = nI (tkP bt n j) ∧ q = (RFC M1 6, -6)
  | .inr x => q.2 = nI c ∧ Fw Slw Rlw M q.1 ∧ mn q.1 = mn M + 3 ∧ mz q.1 ≤ mz M + 500 ∧ mI q.1 0 12 = 0 ∧ mI q.1 0 14 = -1 ∧ mI q.1 11 4 = 0 ∧ mI q.1 1 9 = nI (c + 1) ∧ (∀ k, mR q.1 9 k = if k = c then some (mn M) else mR M 9 k) ∧ (∃ ay, mI q.1 (mn M) 4 = b1 ay ∧ (ay = false → ∀ v ∈ x.2, v ≠ 98)) ∧ LTX q.1 (mn M) (mn M + 1) (mn M + 2) x.1 (cdF x.2) x.2.length
theorem c_addLaw {M : Mem} (hC : LayC M) {c tx : Nat} (hc : c < 6) (h9 : mI M 1 9 = nI c) (ho : okO M 9 tx) : f_X10_addLaw M 1 tx = some (wI (wR M 9 c (some tx)) 1 9 (nI (c + 1)), nI c) := by
  unfold LayC at hC
  unfold f_X10_addLaw
  simp only [hC, grd_T, Option.bind_some, bv]
  rw [h9, if_pos (show nI c < 6 by rw [show (6 : Int32) = nI 6 from rfl, nltI (by omega) (by omega)]; exact hc), grd_y ((nvp (by omega)).mpr (by omega)), grd_y ho, nclampI (by omega)]
  simp only [mI_wR, h9]
  rw [nsucc, mI_wIs, show nI (c + 1) - 1 = nI c from by rw [show (1 : Int32) = nI 1 from rfl, nsub (by omega)]; rfl]
theorem c_lawT {M : Mem} (hC : LayC M) (h78 : 78 ≤ mn M) {n : Nat} {bt : Nat → Nat} (ht : TAPE M n bt) {c : Nat} (hc : c < 6) (h9 : mI M 1 9 = nI c) : TT (f_X11_law M 0) (LWQ bt n c M (pRd false (tkT bt n) 12 0 0 0)) := by
  have hC2 := hC
  unfold LayC at hC2
  unfold f_X11_law
  simp only [hC2, grd_T, Option.bind_some]
  rw [h9, if_pos (show nI c < 6 by rw [show (6 : Int32) = nI 6 from rfl, nltI (by omega) (by omega)]; exact hc), TT_bind]
  have hrd : TT (f_X7_read M 11 0) (RDA false bt n M) := c_read (ord := false) hC ht
  refine hrd.mono ?_
  rintro ⟨M1, r⟩ ⟨hF1, hm⟩
  have hC1 := hC.fr hF1
  have hC12 := hC1
  unfold LayC at hC12
  simp only [hC12, grd_T, Option.bind_some, bv, mR_wI, ok_wI]
  rw [mI_wI_ne (a := 11) (b := 11) (j := 5) (by decide)]
  have hFa : Fr Slw M M1 := hF1.up (fun a k w => Or.inl w)
  have hF2 : Fr Slw M (wI (wI M1 11 4 0) 0 14 (mI M1 11 5)) := (hFa.wI (Or.inr (Or.inl ⟨rfl, rfl⟩))).wI (Or.inr (Or.inr (Or.inl ⟨rfl, Or.inl rfl⟩)))
  have hFn : Fr Snc M (wI (wI M1 11 4 0) 0 14 (mI M1 11 5)) := ((hF1.up (fun a k w => by unfold Srd at w; unfold Snc; omega)).wI (by unfold Snc; omega)).wI (by unfold Snc; omega)
  have k4 : mI (wI (wI M1 11 4 0) 0 14 (mI M1 11 5)) 11 4 = 0 := by rw [mI_wI_row (by decide), mI_wIs]
  have k14 : mI (wI (wI M1 11 4 0) 0 14 (mI M1 11 5)) 0 14 = mI M1 11 5 := mI_wIs
  have k15 : ∀ a k, a = 15 ∨ a = 16 ∨ a = 17 → mI (wI (wI M1 11 4 0) 0 14 (mI M1 11 5)) a k = mI M1 a k := fun a k w => by rw [mI_wI_row (by omega), mI_wI_row (by omega)]
  have k9 : mI (wI (wI M1 11 4 0) 0 14 (mI M1 11 5)) 1 9 = nI c := by
    rw [mI_wI_row (by decide), mI_wI_row (by decide), hF1.i (by unfold Srd; omega)]
    exact h9
  have hCw : LayC (wI (wI M1 11 4 0) 0 14 (mI M1 11 5)) := hC.fr hF2
  have nw : mn (wI (wI M1 11 4 0) 0 14 (mI M1 11 5)) = mn M := hF2.1
  have zw : mz (wI (wI M1 11 4 0) 0 14 (mI M1 11 5)) = mz M := hF2.2.1
  generalize wI (wI M1 11 4 0) 0 14 (mI M1 11 5) = M2 at *
  cases hr : pRd false (tkT bt n) 12 0 0 0 with
  | inl j =>
    rw [hr] at hm
    obtain ⟨m1, m2⟩ := hm
    simp only at m1 m2
    have e := c_refuse (M := M2) hCw (n := 6) (by unfold RN; omega)
    rw [show -(nI 6) = (-6 : Int32) by decide] at e
    rw [m1, if_pos rfl, e, Option.bind_some, TT_some]
    exact ⟨M2, hFn, k4, by rw [k14, m2], rfl⟩
  | inr x =>
    rw [hr] at hm
    obtain ⟨m1, m2, m3, m4, m5, m6, m7, ay, m8, m9⟩ := hm
    simp only at m1 m2 m3 m4 m5 m8
    obtain ⟨sms, -, -, -, h8, -⟩ := law_read (fun j h => tkT_end (bt := bt) (n := n) h) (by have := tkL_le (bt := bt) (n := n); have := ht.1; omega) hr
    rw [m1, if_neg (by decide), TT_bind]
    refine (c_kept hCw (by omega) (cls := x.1) (code := x.2) (ay := ay) m7 m6 (by rw [k15 15 2 (by omega)]; exact m3) (by rw [k15 15 3 (by omega)]; exact m4) (by rw [k15 15 4 (by omega)]; exact m8) ⟨fun i cl hcl f hf => by rw [k15 16 _ (by omega)]; exact m5.1 i cl hcl f hf, fun i v hv => by rw [k15 17 _ (by omega)]; exact m5.2 i v hv⟩ h8).mono ?_
    rintro ⟨M3, tx⟩ ⟨n1, n2, n3, n4, n5, n6⟩
    simp only at n1 n2 n3 n4 n5 n6 ⊢
    have l1 : mI M3 1 9 = nI c := by
      rw [n2.i (by omega) (fun q => q)]
      exact k9
    have hC3 : LayC M3 := hCw.fw (by omega) n2 (fun a k _ q => q)
    have y1 : okO M3 10 1 := by
      unfold LayC at hC3
      simp only [hC3]
    have hC4 : LayC (wI (wR M3 9 c (some (mn M2))) 1 9 (nI (c + 1))) := hC3.fw (by omega) ((Fw.rf.wR (show Rlw 9 c from rfl)).wI (show Slw 1 9 from Or.inr (Or.inr (Or.inr ⟨rfl, rfl⟩)))) (fun a k w q => by
      unfold Rlw at q
      subst q
      unfold oldR at w
      simp at w)
    rw [n1, grd_y y1, c_addLaw hC3 hc l1 n6.1, Option.bind_some]
    show TT (Option.bind (f_X11_accept (wI (wR M3 9 c (some (mn M2))) 1 9 (nI (c + 1))) 0 (nI c)) (fun q44 => some (q44.1, q44.2))) _
    rw [c_accept hC4, Option.bind_some, TT_some]
    have hF3 : Fw Slw Rlw M M3 := (hF2.fw).tr (n2.up (fun _ _ q => q.elim) (fun _ _ q => q.elim))
    have hF4 : Fw Slw Rlw M (wI (wI (wR M3 9 c (some (mn M2))) 1 9 (nI (c + 1))) 0 12 0) := ((hF3.wR rfl).wI (Or.inr (Or.inr (Or.inr ⟨rfl, rfl⟩)))).wI (Or.inr (Or.inr (Or.inl ⟨rfl, Or.inr rfl⟩)))
    have hF5 : Fw S78 S78 M3 (wI (wI (wR M3 9 c (some (mn M2))) 1 9 (nI (c + 1))) 0 12 0) := ((Fw.rf.wR (s78 (by omega))).wI (s78 (by omega))).wI (s78 (by omega))
    have hi : ∀ a k, a ≠ 0 → a ≠ 1 → mI (wI (wI (wR M3 9 c (some (mn M2))) 1 9 (nI (c + 1))) 0 12 0) a k = mI M3 a k := fun a k w1 w2 => by rw [mI_wI_row w1, mI_wI_row w2, mI_wR]
    have v12 : mI (wI (wI (wR M3 9 c (some (mn M2))) 1 9 (nI (c + 1))) 0 12 0) 0 12 = 0 := mI_wIs
    have v14 : mI (wI (wI (wR M3 9 c (some (mn M2))) 1 9 (nI (c + 1))) 0 12 0) 0 14 = mI M3 0 14 := by rw [mI_wI_ne (by decide), mI_wI_row (by decide), mI_wR]
    have v9 : mI (wI (wI (wR M3 9 c (some (mn M2))) 1 9 (nI (c + 1))) 0 12 0) 1 9 = nI (c + 1) := by rw [mI_wI_row (by decide), mI_wIs]
    have vr : ∀ k, mR (wI (wI (wR M3 9 c (some (mn M2))) 1 9 (nI (c + 1))) 0 12 0) 9 k = if k = c then some (mn M2) else mR M3 9 k := fun k => by
      rw [mR_wI, mR_wI, mR_wR]
      by_cases w : k = c
      · rw [if_pos ⟨rfl, w⟩, if_pos w]
      · rw [if_neg (fun q => w q.2), if_neg w]
    have vn : mn (wI (wI (wR M3 9 c (some (mn M2))) 1 9 (nI (c + 1))) 0 12 0) = mn M3 := rfl
    have vz : mz (wI (wI (wR M3 9 c (some (mn M2))) 1 9 (nI (c + 1))) 0 12 0) = mz M3 := rfl
    generalize wI (wI (wR M3 9 c (some (mn M2))) 1 9 (nI (c + 1))) 0 12 0 = M4 at *
    rw [nw] at n3 n5 n6 vr
    refine ⟨rfl, hF4, by show mn M4 = _; omega, by show mz M4 ≤ _; omega, v12, ?_, ?_, v9, fun k => ?_, ⟨ay, ?_, m9 rfl⟩, n6.fw hF5 (fun k => ⟨by unfold S78; omega, by unfold S78; omega, by unfold S78; omega⟩) (fun k => by unfold S78; omega)⟩
    · rw [v14, n2.i (by omega) (fun q => q), k14, m2]
    · rw [hi 11 4 (by decide) (by decide), n2.i (by omega) (fun q => q), k4]
    · rw [vr k, n2.r (by omega) (fun q => q), hF2.2.2.2.2.1]
    · rw [hi (mn M) 4 (by omega) (by omega)]
      exact n5
def Srn (a k : Nat) : Prop := Srr a k ∨ (a = 47 ∧ k = 14)
def Srl (a k : Nat) : Prop := Srr a k ∨ (a = 47 ∧ (k = 14 ∨ k ≤ 1))
def Srk (c a k : Nat) : Prop := Srl a k ∨ Sly c a k ∨ (a = 49 ∧ k = 57)
def RWQ (bt : Nat → Nat) (n c : Nat) (M : Mem) (r : Option Nat) (q : Mem × Int32) : Prop := match r with
  | some j => ∃ M1, Fr Srn M M1 ∧ mI M1 47 17 = 0 ∧ mI M1 47 18 = nI (tkP bt n j) ∧ q = (RFM M1 6, -6)
  | none => q.2 = nI c ∧ Fr (Srk c) M q.1 ∧ mI q.1 47 0 = 0 ∧ mI q.1 47 1 = mI M 47 1 + 1 ∧ mI q.1 47 17 = 0 ∧ mI q.1 47 18 = -1 ∧ mI q.1 49 57 = nI (c + 1) ∧ LAWP (mI q.1 49) (tkT bt n) (tkL bt n) c
theorem r_lawT {M : Mem} (hM : LayM M) (hR : RWB M) {n : Nat} {bt : Nat → Nat} (ht : TAPR M n bt) {c : Nat} (hc : c < 6) (h57 : mI M 49 57 = nI c) : TT (f_X12_law M 47) (RWQ bt n c M (tlR (pRd false (tkT bt n) 12 0 0 0))) := by
  have hM2 := hM
  unfold LayM at hM2
  have c57 : (57 : Int32).toNatClampNeg = 57 := by decide
  have g57 : vp_in 57 5666 := show vp_in (nI 57) 5666 from (nvp (by omega)).mpr (by omega)
  have h400 := ht.1
  have hle := tkL_le (bt := bt) (n := n)
  unfold f_X12_law
  simp only [hM2, grd_T, Option.bind_some, bv, c57]
  rw [grd_y g57, h57, if_neg (show ¬ nI c = 6 by rw [show (6 : Int32) = nI 6 from rfl, neqI (by omega) (by omega)]; omega), TT_bind]
  have hF0 : Fr Srn M (wI M 47 14 0) := Fr.rf.wI (Or.inr ⟨rfl, rfl⟩)
  have h47 : mI (wI M 47 14 0) 47 1 = mI M 47 1 := mI_wI_ne (by decide)
  have h49 : mI (wI M 47 14 0) 49 = mI M 49 := mI_wI_row (by decide)
  have h14 : mI (wI M 47 14 0) 47 14 = b1 false := mI_wIs
  have hR0 : RWB (wI M 47 14 0) := fun i hi => by
    rw [mI_wI_row (by decide)]
    exact hR i hi
  have ht0 : TAPR (wI M 47 14 0) n bt := ht.fr (Fr.rf.wI (S := fun a k => a = 47 ∧ k = 14) ⟨rfl, rfl⟩) (fun a k w => by omega)
  have hM0 : LayM (wI M 47 14 0) := hM.fr hF0
  generalize wI M 47 14 0 = M0 at *
  refine (r_reads hM0 hR0 ht0 h14).mono ?_
  rintro ⟨M1, r⟩ ⟨hF1, k17, k22, kS, hm⟩
  simp only at k17 k22 kS hm hF1 ⊢
  have hFb : Fr Srn M M1 := hF0.tr (hF1.up (fun a k w => Or.inl w))
  have k1 : mI M1 47 1 = mI M 47 1 := by rw [hF1.i (by unfold Srr Ssp; omega)]; exact h47
  have k57 : mI M1 49 57 = nI c := by rw [hF1.i (by unfold Srr Ssp; omega), h49]; exact h57
  have hM1 := hM.fr hFb
  have hM12 := hM1
  unfold LayM at hM12
  cases hr : tlR (pRd false (tkT bt n) 12 0 0 0) with
  | some j =>
    rw [hr] at hm
    obtain ⟨m1, m2⟩ := hm
    have e := r_refuses (M := M1) hM1 (n := 6) (by unfold RN; omega)
    rw [show -(nI 6) = (-6 : Int32) by decide] at e
    rw [m1, if_pos rfl, e, Option.bind_some, TT_some]
    exact ⟨M1, hFb, k17, m2, rfl⟩
  | none =>
    rw [hr] at hm
    obtain ⟨m1, m2⟩ := hm
    rw [m1, if_neg (by decide)]
    simp only [hM12, grd_T, Option.bind_some]
    rw [grd_y g57, k57, TT_bind]
    refine (r_lays hM1 (show c < 7 by omega) (show tkL bt n ≤ 400 by omega) k22).mono ?_
    intro M3 hY
    have hlaw := hY.law kS
    obtain ⟨hF3, q59, q3⟩ := hY
    have hM3 := hM1.fr hF3
    have hM32 := hM3
    unfold LayM at hM32
    simp only [hM32, grd_T, Option.bind_some, mR_wI, ok_wI, mL_wI]
    have e57 : mI M3 49 57 = nI c := by rw [hF3.i (by unfold Sly; omega)]; exact k57
    rw [grd_y g57, e57, nsucc, grd_y g57, mI_wIs, r_good (M := wI M3 49 57 (nI (c + 1))) hM3, Option.bind_some, TT_some, show nI (c + 1) - 1 = nI c from by rw [show (1 : Int32) = nI 1 from rfl, nsub (by omega)]; rfl]
    have hFb' : Fr (Srk c) M M1 := hFb.up (fun a k w => Or.inl (w.elim (fun q => Or.inl q) (fun q => Or.inr ⟨q.1, Or.inl q.2⟩)))
    have hF4 : Fr (Srk c) M (wI (wI (wI M3 49 57 (nI (c + 1))) 47 0 0) 47 1 (mI (wI M3 49 57 (nI (c + 1))) 47 1 + 1)) := (((hFb'.tr (hF3.up (fun a k w => Or.inr (Or.inl w)))).wI (Or.inr (Or.inr ⟨rfl, rfl⟩))).wI (Or.inl (Or.inr ⟨rfl, Or.inr (by omega)⟩))).wI (Or.inl (Or.inr ⟨rfl, Or.inr (by omega)⟩))
    have w0 : ∀ a k, a ≠ 49 → a ≠ 47 ∨ 2 ≤ k → mI (wI (wI (wI M3 49 57 (nI (c + 1))) 47 0 0) 47 1 (mI (wI M3 49 57 (nI (c + 1))) 47 1 + 1)) a k = mI M3 a k := fun a k w1 w2 => by
      rcases w2 with w2 | w2
      · rw [mI_wI_row w2, mI_wI_row w2, mI_wI_row w1]
      · rw [mI_wI_ne (by omega), mI_wI_ne (by omega), mI_wI_row w1]
    refine ⟨rfl, hF4, ?_, ?_, ?_, ?_, ?_, ?_⟩
    · rw [mI_wI_ne (by decide), mI_wIs]
    · rw [mI_wIs, mI_wI_row (by decide), hF3.i (by unfold Sly; omega), k1]
    · rw [w0 47 17 (by decide) (by omega), hF3.i (by unfold Sly; omega)]
      exact k17
    · rw [w0 47 18 (by decide) (by omega), hF3.i (by unfold Sly; omega)]
      exact m2
    · rw [mI_wI_row (by decide), mI_wI_row (by decide), mI_wIs]
    · obtain ⟨p1, p2⟩ := hlaw
      have w49 : ∀ k, k ≠ 57 → mI (wI (wI (wI M3 49 57 (nI (c + 1))) 47 0 0) 47 1 (mI (wI M3 49 57 (nI (c + 1))) 47 1 + 1)) 49 k = mI M3 49 k := fun k w => by rw [mI_wI_row (by decide), mI_wI_row (by decide), mI_wI_ne w]
      refine ⟨by rw [w49 _ (by omega)]; exact p1, fun j hj => ?_⟩
      rw [w49 _ (by omega), w49 _ (by omega)]
      exact p2 j hj
