/-! ORDERS: the reference goes along a CLAUSE -/
noncomputable def gaE (a0 : Nat) (s104 : Mem × Int32) : Option Mem := grd (pb s104.2) (bv (wI s104.1 a0 54 s104.2) (fun M108 => bv (fun (s114 : Int32) => grd (pb s114) (bv (wI M108 a0 54 s114) (fun M117 => bv (wI M117 a0 26 ((mI M117 a0 26) + 1)) (fun M122 => some M122)))) (fun j113 => bv (fun (s127 : Unit) => j113 0) (fun j126 => if (mI M108 a0 54) = 0 then (j126 ()) else (if (mI M108 a0 28) = 0 then (j113 1) else (j126 ()))))))
noncomputable def gaD (a0 : Nat) (p2 : Int32) (s90 : Mem) : Option Mem := bv (wI s90 a0 28 0) (fun M94 => Option.bind (f_X12_passes0 M94 a0 3) (fun q98 => bv (gaE a0) (fun j103 => bv (fun (s131 : Mem) => j103 (s131, 1)) (fun j130 => if q98.2 = 0 then (j130 q98.1) else (Option.bind (f_X12_testOf 100 q98.1 a0 p2) (fun q135 => if q135.2 = 0 then (j103 (q135.1, 0)) else (j130 q135.1)))))))
noncomputable def gaC (a0 : Nat) (p2 : Int32) (s76 : Mem) : Option Mem := bv (wI s76 a0 50 1) (fun M80 => Option.bind (f_X12_passes0 M80 a0 26) (fun q84 => bv (gaD a0 p2) (fun j89 => if q84.2 = 0 then (j89 q84.1) else (Option.bind (mR q84.1 a0 3) (fun r140 => grd (okO q84.1 14 r140) (grd (vp_in (2866 + (mI q84.1 a0 26)) (mL q84.1 r140)) (bv (wI q84.1 a0 50 (mI q84.1 r140 (2866 + (mI q84.1 a0 26)).toNatClampNeg)) (fun M143 => bv (wI M143 a0 26 ((mI M143 a0 26) + 1)) (fun M147 => j89 M147)))))))))
noncomputable def gaB (a0 : Nat) (p2 : Int32) (q70 : Mem) : Option Mem := if (mI q70 a0 51) = 19 then (Option.bind (f_X12_codeAt q70 a0 (mI q70 a0 26)) (fun q151 => bv (wI q70 a0 26 ((mI q70 a0 26) + 1)) (fun M154 => bv (fun (s159 : Int32) => bv (wI M154 a0 52 s159) (fun M162 => bv (fun (s167 : Mem) => bv (wI s167 a0 26 ((mI s167 a0 26) + 1)) (fun M171 => Option.bind (f_X12_nextSum M171 a0 2 p2) (fun q175 => gaC a0 p2 q175))) (fun j166 => if (mI M162 a0 52) = 1 then (Option.bind (f_X12_nextSum M162 a0 1 p2) (fun q180 => j166 q180)) else (j166 M162)))) (fun j158 => if q151 = 20 then (j158 0) else (if q151 = 24 then (j158 1) else (if q151 = 21 then (j158 2) else (if q151 = 22 then (j158 3) else (j158 4)))))))) else (gaC a0 p2 q70)
theorem goesAlong_eq {M : Mem} {a0 : Nat} {p1 p2 : Int32} : f_X12_goesAlong M a0 p1 p2 = grd (okO M 12 a0) (bv (wI M a0 29 1) (fun M2 => bv (wI M2 a0 27 p1) (fun M6 => Option.bind (mR M6 a0 31) (fun r10 => Option.bind (mR M6 a0 3) (fun r11 => grd (okO M6 14 r11) (grd (vp_in 54 (mL M6 r11)) (grd (okO M6 14 r10) (grd (vp_in 0 (mL M6 r10)) (bv (wI M6 r10 (0 : Int32).toNatClampNeg (mI M6 r11 (54 : Int32).toNatClampNeg)) (fun M16 => Option.bind (mR M16 a0 31) (fun r20 => Option.bind (mR M16 a0 3) (fun r21 => grd (okO M16 14 r21) (grd (vp_in 56 (mL M16 r21)) (grd (okO M16 14 r20) (grd (vp_in 1 (mL M16 r20)) (bv (wI M16 r20 (1 : Int32).toNatClampNeg (mI M16 r21 (56 : Int32).toNatClampNeg)) (fun M26 => Option.bind (mR M26 a0 31) (fun r30 => grd (okO M26 14 r30) (grd (vp_in 2 (mL M26 r30)) (bv (wI M26 r30 (2 : Int32).toNatClampNeg (mI M26 a0 47)) (fun M33 => Option.bind (mR M33 a0 31) (fun r37 => grd (okO M33 14 r37) (grd (vp_in 3 (mL M33 r37)) (bv (wI M33 r37 (3 : Int32).toNatClampNeg (mI M33 a0 48)) (fun M40 => bv (wI M40 a0 26 (mI M40 a0 49)) (fun M44 => Option.bind (f_X12_codeAt M44 a0 (mI M44 a0 26)) (fun q48 => bv (wI M44 a0 51 q48) (fun M51 => bv (wI M51 a0 26 ((mI M51 a0 26) + 1)) (fun M55 => bv (wI M55 a0 53 1) (fun M59 => Option.bind (mR M59 a0 55) (fun r63 => grd (okO M59 15 r63) (grd (vp_in 1 (mL M59 r63)) (bv (wJ M59 r63 (1 : Int32).toNatClampNeg 0) (fun M66 => Option.bind (f_X12_nextSum M66 a0 0 p2) (fun q70 => gaB a0 p2 q70))))))))))))))))))))))))))))))))))) := rfl
def Sga (a k : Nat) : Prop := a = 47 ∧ (k = 26 ∨ k = 28 ∨ k = 50 ∨ k = 54)
theorem r_gaE {M : Mem} {k : Nat} (hg : mI M 47 26 = nI k) (b : Bool) : TT (gaE 47 (M, b1 b)) (fun M1 => Fr Sga M M1 ∧ mI M1 47 26 = nI (k + 1) ∧ mI M1 47 50 = mI M 47 50 ∧ mI M1 47 54 = b1 (b && decide (mI M 47 28 = 0))) := by
  unfold gaE
  simp only
  rw [grd_y (pb_b1 b), TT_bv, TT_bv, TT_bv, mI_wIs, mI_wI_ne (by omega)]
  have fin : ∀ b' : Bool, b' = (b && decide (mI M 47 28 = 0)) → TT (grd (pb (b1 b')) (bv (wI (wI M 47 54 (b1 b)) 47 54 (b1 b')) (fun M117 => bv (wI M117 47 26 ((mI M117 47 26) + 1)) (fun M122 => some M122)))) (fun M1 => Fr Sga M M1 ∧ mI M1 47 26 = nI (k + 1) ∧ mI M1 47 50 = mI M 47 50 ∧ mI M1 47 54 = b1 (b && decide (mI M 47 28 = 0))) := fun b' hb' => by
    rw [grd_y (pb_b1 b'), TT_bv, TT_bv, TT_some]
    refine ⟨((Fr.rf.wI ⟨rfl, by omega⟩).wI ⟨rfl, by omega⟩).wI ⟨rfl, by omega⟩, ?_, ?_, ?_⟩
    · rw [mI_wIs, mI_wI_ne (by omega), mI_wI_ne (by omega), hg, nsucc]
    · rw [mI_wI_ne (by omega), mI_wI_ne (by omega), mI_wI_ne (by omega)]
    · rw [mI_wI_ne (by omega), mI_wIs, hb']
  cases b with
  | false =>
    rw [if_pos (show b1 false = 0 from rfl)]
    exact fin false (by simp)
  | true =>
    rw [if_neg (by decide)]
    by_cases w : mI M 47 28 = 0
    · rw [if_pos w]
      exact fin true (by simp [w])
    · rw [if_neg w]
      exact fin false (by simp [w])
theorem rc262 (t : Nat) : rc t = 3 ↔ t = 262 := by
  have hd : ∀ i, i < 26 → (rcT.getD i 0 = 3 ↔ i = 4) := by decide
  unfold rc
  by_cases a : t < 256
  · rw [if_pos a]; omega
  · rw [if_neg a]
    by_cases b : t < 258
    · rw [if_pos b]; omega
    · rw [if_neg b]
      by_cases c : t < 284
      · rw [if_pos c, hd (t - 258) (by omega)]; omega
      · rw [if_neg c]; omega
theorem rc261 (t : Nat) : rc t = 26 ↔ t = 261 := by
  have hd : ∀ i, i < 26 → (rcT.getD i 0 = 26 ↔ i = 3) := by decide
  unfold rc
  by_cases a : t < 256
  · rw [if_pos a]; omega
  · rw [if_neg a]
    by_cases b : t < 258
    · rw [if_pos b]; omega
    · rw [if_neg b]
      by_cases c : t < 284
      · rw [if_pos c, hd (t - 258) (by omega)]; omega
      · rw [if_neg c]; omega
theorem r_gaD {M : Mem} {T : Nat → Nat} {len B k k2 : Nat} {W : Nat → Int32} {tv : (Nat → Int32) → Option Bool} (hT : ∀ j, len ≤ j → T j = 256) (hE : RE M T len true B W) (hk : k ≤ len) (hr : RCO T len true k k2 tv) (hg : mI M 47 26 = nI (B + k)) (live : Bool) : TT (gaD 47 (b1 live) M) (fun M1 => Fr Sga M M1 ∧ mI M1 47 26 = nI (B + k2 + 1) ∧ mI M1 47 50 = mI M 47 50 ∧ ∃ t, mI M1 47 54 = b1 t ∧ (live = true → (t = true ↔ tv W = some true))) := by
  unfold gaD
  rw [TT_bv]
  have f00 : Fr (fun a k => a = 47 ∧ k = 28) M (wI M 47 28 0) := Fr.rf.wI ⟨rfl, rfl⟩
  have e28 : mI (wI M 47 28 0) 47 28 = 0 := mI_wIs
  generalize wI M 47 28 0 = M2 at f00 e28
  have f0 : Fr Sgo M M2 := f00.up (fun a k w => ⟨w.1, Or.inr w.2⟩)
  have hE2 := hE.fr f0
  have hg2 : mI M2 47 26 = nI (B + k) := by rw [f00.i (by omega)]; exact hg
  rw [show (3 : Int32) = nI 3 from rfl, r_passes hT hE2 hk hg2 (c := 3) (by omega), Option.bind_some, TT_bv]
  rcases hr with ⟨q1, q2, q3⟩ | ⟨q1, q2⟩
  · rw [if_neg (fun z => q1 ((rc262 _).mp z))]
    simp only
    rw [TT_bv, if_pos trivial]
    subst q2
    refine (show TT (gaE 47 (M2, b1 true)) _ from r_gaE hg2 true).mono ?_
    rintro M3 ⟨f3, g3, h50, h54⟩
    refine ⟨(f0.up (fun a k w => by unfold Sgo at w; unfold Sga; omega)).tr f3, g3, by rw [h50, f00.i (by omega)], true, by rw [h54, e28]; rfl, fun _ => ⟨fun _ => q3 W, fun _ => rfl⟩⟩
  · rw [if_pos ((rc262 _).mpr q1)]
    simp only
    rw [TT_bv, if_neg (by decide), TT_bind]
    have f1 : Fr Sgo M2 (wI M2 47 26 (nI (B + (k + 1)))) := Fr.rf.wI ⟨rfl, Or.inl rfl⟩
    have e26 : mI (wI M2 47 26 (nI (B + (k + 1)))) 47 26 = nI (B + (k + 1)) := mI_wIs
    have e28' : mI (wI M2 47 26 (nI (B + (k + 1)))) 47 28 = 0 := by rw [mI_wI_ne (by omega)]; exact e28
    generalize wI M2 47 26 (nI (B + (k + 1))) = M3 at f1 e26 e28'
    refine (q2 M3 B W (hE2.fr f1) e26 (Or.inl e28') live).mono ?_
    rintro ⟨M4, z⟩ ⟨f4, g4, ⟨b, hb⟩, tq⟩
    simp only at f4 g4 hb tq ⊢
    subst hb
    have fA : Fr Sgo M M4 := (f0.tr f1).tr f4
    have go : TT (gaE 47 (M4, b1 b)) (fun M1 => Fr Sga M M1 ∧ mI M1 47 26 = nI (B + k2 + 1) ∧ mI M1 47 50 = mI M 47 50 ∧ ∃ t, mI M1 47 54 = b1 t ∧ (live = true → (t = true ↔ tv W = some true))) := by
      refine (r_gaE g4 b).mono ?_
      rintro M5 ⟨f5, g5, h50, h54⟩
      refine ⟨(fA.up (fun a k w => by unfold Sgo at w; unfold Sga; omega)).tr f5, g5, by rw [h50, fA.i (by unfold Sgo; omega)], _, h54, fun hl => ?_⟩
      rw [if_pos ⟨hl, e28'⟩] at tq
      cases hv : tv W with
      | none =>
        rw [hv] at tq
        have tq : mI M4 47 28 = 1 := tq
        rw [tq]
        simp
      | some x =>
        rw [hv] at tq
        have hbx : b = x := by
          have := tq.1
          cases b <;> cases x <;> first | rfl | exact absurd this (by decide)
        rw [tq.2, hbx]
        simp
    cases b with
    | false =>
      rw [if_pos (show b1 false = 0 from rfl)]
      exact go
    | true =>
      rw [if_neg (by decide)]
      exact go
