/-! back(): both -/
theorem k2_or (p : Int32) : (¬ (0 ≤ p ∧ p ≤ 1) ∧ (p < 0 ∨ ¬ p < 2)) ∨ ∃ k, k < 2 ∧ p = nI k ∧ (0 ≤ p ∧ p ≤ 1) ∧ ¬ p < 0 ∧ p < 2 := by
  have t0 : (0 : Int32).toInt = 0 := rfl
  have t1 : (1 : Int32).toInt = 1 := rfl
  have t2 : (2 : Int32).toInt = 2 := rfl
  by_cases h : 0 ≤ p ∧ p ≤ 1
  · obtain ⟨k, hk, e⟩ := up_nat (n := 1) (by omega) h
    refine Or.inr ⟨k, by omega, e, h, ?_, ?_⟩
    · simp only [Int32.lt_iff_toInt_lt, Int32.le_iff_toInt_le] at h ⊢
      omega
    · simp only [Int32.lt_iff_toInt_lt, Int32.le_iff_toInt_le] at h ⊢
      omega
  · refine Or.inl ⟨h, ?_⟩
    simp only [Int32.lt_iff_toInt_lt, Int32.le_iff_toInt_le] at h ⊢
    omega
theorem c_back_out {M : Mem} (hC : LayC M) {p : Int32} (h : p < 0 ∨ ¬ p < 2) : f_X11_back M 0 p = some (RFC M 1, -1) := by
  have r1 := c_refuse (M := M) hC (n := 1) (by unfold RN; omega)
  rw [show -(nI 1) = (-1 : Int32) by decide] at r1
  have hC2 := hC
  unfold LayC at hC2
  have y0 : okO M 11 0 := hC2.1
  unfold f_X11_back
  simp only [bv]
  rw [grd_y y0, r1, Option.bind_some]
  by_cases w : p < 0
  · rw [if_pos w]
  · rw [if_neg w, if_neg (h.resolve_left w)]
theorem c_back_no {M : Mem} (hC : LayC M) {k : Nat} (hk : k < 2) (hn : mR M 10 k = none) : f_X11_back M 0 (nI k) = some (RFC M 2, -2) := by
  have r1 := c_refuse (M := M) hC (n := 2) (by unfold RN; omega)
  rw [show -(nI 2) = (-2 : Int32) by decide] at r1
  have hC2 := hC
  unfold LayC at hC2
  unfold f_X11_back
  simp only [bv, hC2, grd_T, Option.bind_some]
  rw [if_neg (show ¬ nI k < 0 by rw [show (0 : Int32) = nI 0 from rfl, nltI (by omega) (by omega)]; omega), if_pos (show nI k < 2 by rw [show (2 : Int32) = nI 2 from rfl, nltI (by omega) (by omega)]; omega), grd_y ((nvp (by omega)).mpr (by omega)), nclampI (by omega), hn]
  show Option.bind (f_X11_refuse M 0 (-2)) _ = _
  rw [r1, Option.bind_some]
theorem c_back_y {M : Mem} (hC : LayC M) {k v : Nat} (hk : k < 2) (hn : mR M 10 k = some v) (hv : VBL M v) (h1 : 1 + 8 < v) (hl : ∀ g y, g < 6 → mR M (v + 8) g = some y → okO M 9 y) (hCz : LayC (TKZ M 1 v)) : f_X11_back M 0 (nI k) = some (wI (TKZ M 1 v) 0 12 0, 0) := by
  have et := c_takeFrom hC.vbl hv (Or.inl h1) hl
  have ea := c_accept (M := TKZ M 1 v) hCz (v := 0)
  have hC2 := hC
  unfold LayC at hC2
  unfold f_X11_back
  simp only [bv, hC2, grd_T, Option.bind_some]
  rw [if_neg (show ¬ nI k < 0 by rw [show (0 : Int32) = nI 0 from rfl, nltI (by omega) (by omega)]; omega), if_pos (show nI k < 2 by rw [show (2 : Int32) = nI 2 from rfl, nltI (by omega) (by omega)]; omega), grd_y ((nvp (by omega)).mpr (by omega)), nclampI (by omega), hn]
  show grd (vp_in (nI k) 2) (Option.bind (some v) (fun r25 => Option.bind (f_X10_takeFrom M 1 r25) _)) = _
  rw [grd_y ((nvp (by omega)).mpr (by omega)), Option.bind_some, et, Option.bind_some, ea, Option.bind_some]
def Sbk (a k : Nat) : Prop := (a = 0 ∧ k = 12) ∨ (1 ≤ a ∧ a ≤ 8) ∨ (a = 47 ∧ k ≤ 1) ∨ a = 49
theorem both_back {c : Nat} (hc : c < 600) {M : Mem} (h : INV0 c M) (p : Int32) : CALL c M (fun M => f_X11_back M 0 p) (fun M => f_X12_back M 47 p) := by
  obtain ⟨⟨hC, hM, ⟨kt, km, kl, kh⟩, hV, hO⟩, i2, ⟨n, bt, t1, t2, t3, t4⟩, i4, i5, ⟨p1, p2, p3, dk, p4, p5', p6, p7⟩, i7, i8⟩ := id h
  have h78 := i2.1
  have rn1 : RN 1 := by unfold RN; omega
  have rn2 : RN 2 := by unfold RN; omega
  rcases k2_or p with ⟨w1, w2⟩ | ⟨k, hk, rfl, w1, w2, w3⟩
  · refine CALL.ref hc (n := 1) rn1 h (c_back_out hC w2) ?_
    have r1 := r_refuses (M := RFC M 1) hM.rfc (n := 1) rn1
    have hM2 := hM.rfc (n := 1)
    unfold LayM at hM2
    show f_X12_back (RFC M 1) 47 p = _
    rw [rback_eq, lies_bind, if_neg w1, grd_y hM2.1, show (-1 : Int32) = -(nI 1) by decide, r1, Option.bind_some]
  · rcases i5.1 k hk with ⟨b1', b2⟩ | ⟨b1', v, b2, b3⟩
    · refine CALL.ref hc (n := 2) rn2 h (c_back_no hC hk b2) ?_
      have r1 := r_refuses (M := RFC M 2) hM.rfc (n := 2) rn2
      have hM2 := hM.rfc (n := 2)
      unfold LayM at hM2
      show f_X12_back (RFC M 2) 47 (nI k) = _
      rw [rback_eq, lies_bind, if_pos w1]
      simp only [hM2, grd_T, Option.bind_some]
      rw [grd_y ((nvp (by omega)).mpr (by omega)), nclampI (by omega), rfc_v.1 51 k (by decide) (by decide), b1', if_pos rfl, show (-2 : Int32) = -(nI 2) by decide, r1, Option.bind_some]
    · have hvb := b3.vbl
      have h1 : 1 + 8 < v := by have := b3.1; omega
      have hlw := b3.2.2.2.2.2.2.2.2.2.2.2
      have hFz := TKZ_fw (M := M) (v := 1) (w := v)
      have hRo : ∀ a k, oldR a k = true → ¬ Rtk2 1 a k := fun a k w q => by
        unfold Rtk2 at q
        subst q
        unfold oldR at w
        simp at w
      have hCz : LayC (TKZ M 1 v) := hC.fw h78 hFz hRo
      have hMz : LayM (TKZ M 1 v) := hM.fw h78 hFz hRo
      have ec := c_back_y hC hk b2 hvb h1 hlw.1 hCz
      obtain ⟨z1, z2, z3, z4, z5⟩ := TKZ_i (M := M) (v := 1) (w := v) (Or.inl h1)
      have zr : ∀ g, g < 6 → mR (TKZ M 1 v) 9 g = mR M (v + 8) g := fun g hg => TKZ_r (M := M) (v := 1) (w := v) hg
      obtain ⟨zn, zz⟩ := TKZ_n (M := M) (v := 1) (w := v)
      generalize TKZ M 1 v = Mz at *
      have hFa : Fr (fun a k => a = 0 ∧ k = 12) Mz (wI Mz 0 12 0) := Fr.rf.wI ⟨rfl, rfl⟩
      have v12 : mI (wI Mz 0 12 0) 0 12 = 0 := mI_wIs
      generalize wI Mz 0 12 0 = Ma at *
      have ea : ∀ a k, a ≠ 0 → mI Ma a k = mI Mz a k := fun a k w => hFa.i (by omega)
      have ez : ∀ a k, a < 78 → ¬ (1 ≤ a ∧ a ≤ 8) → mI Mz a k = mI M a k := fun a k w1 w2 => hFz.i (by omega) (fun q => w2 (by unfold Stk2 at q; omega))
      have eM : ∀ a k, a < 78 → 9 ≤ a → mI Ma a k = mI M a k := fun a k w1 w2 => by rw [ea a k (by omega), ez a k w1 (by omega)]
      have hMa := hMz.fr hFa
      obtain ⟨M2, f2, d1, d2⟩ := r_back_L hMa hk
      have hM2a := hMa
      unfold LayM at hM2a
      have er : f_X12_back Ma 47 (nI k) = some (wI (wI M2 47 0 0) 47 1 (mI M2 47 1 + 1), 0) := by
        rw [rback_eq, lies_bind, if_pos w1]
        simp only [hM2a, grd_T, Option.bind_some]
        rw [grd_y ((nvp (by omega)).mpr (by omega)), nclampI (by omega), eM 51 k (by decide) (by decide), b1', if_neg (by decide), f2, Option.bind_some, r_good (hMa.fr d1), Option.bind_some]
      refine ⟨_, _, _, ec, er, ?_⟩
      have u49 : ∀ i, mI (wI (wI M2 47 0 0) 47 1 (mI M2 47 1 + 1)) 49 i = mI M2 49 i := fun i => by rw [mI_wI_row (by decide), mI_wI_row (by decide)]
      have u0 : mI (wI (wI M2 47 0 0) 47 1 (mI M2 47 1 + 1)) 47 0 = 0 := by rw [mI_wI_ne (by decide), mI_wIs]
      have u1 : mI (wI (wI M2 47 0 0) 47 1 (mI M2 47 1 + 1)) 47 1 = mI M 47 1 + 1 := by rw [mI_wIs, d1.i (by unfold S49; omega), eM 47 1 (by decide) (by decide)]
      have hF2 : Fr (fun a k => (a = 47 ∧ k ≤ 1) ∨ a = 49) Ma (wI (wI M2 47 0 0) 47 1 (mI M2 47 1 + 1)) := ((d1.up (fun a k w => Or.inr w)).wI (Or.inl ⟨rfl, by omega⟩)).wI (Or.inl ⟨rfl, by omega⟩)
      generalize wI (wI M2 47 0 0) 47 1 (mI M2 47 1 + 1) = Mf at *
      have hke : KE (IMK M k) (mI Mf 49) := fun i hi => by
        rw [u49, d2 i hi]
        show mI Ma 50 (5666 * k + i) = mI M 50 (5666 * k + i)
        exact eM 50 _ (by decide) (by decide)
      have hFf : Fw Sbk (Rtk2 1) M Mf := ((hFz.up (fun a k w => by unfold Stk2 at w; unfold Sbk; omega) (fun _ _ w => w)).tr ((hFa.fw).up (fun a k w => by unfold Sbk; omega) (fun _ _ w => w))).tr ((hF2.fw).up (fun a k w => by unfold Sbk; omega) (fun _ _ w => w))
      have ef : ∀ a k, a < 47 → mI Mf a k = mI Ma a k := fun a k w => hF2.i (by omega)
      have rf : ∀ g, g < 6 → mR Mf 9 g = mR M (v + 8) g := fun g hg => by rw [hF2.2.2.2.2.1, hFa.2.2.2.2.1]; exact zr g hg
      obtain ⟨_, _, _, _, _, _, _, ik, ict, ico, ich, il⟩ := b3
      obtain ⟨cv1, cv2, cv3⟩ := CVs.cp (M1 := Mf) (v := 1) ik hke ict ico ich (fun j k h1 h2 h3 => by rw [ef _ k (by omega), ea _ k (by omega)]; exact z1 j k h1 h2 h3) (fun j k h1 h2 h3 => by rw [ef _ k (by omega), ea _ k (by omega)]; exact z2 j k h1 h2 h3) (fun k h1 h2 => by rw [ef 1 k (by omega), ea 1 k (by omega)]; exact z3 k h1 h2)
      have ex : ∀ a k, a < 78 → ¬ Sbk a k → mI Mf a k = mI M a k := fun a k w1 w2 => hFf.i (by omega) w2
      have hR2 : REL Mf := ⟨hC.fw h78 hFf hRo, hM.fw h78 hFf hRo, ik.ke hke, ⟨cv1, cv2, cv3⟩, by rw [u0, ef 0 12 (by omega)]; exact v12, fun m hm => by rw [ex 45 _ (by decide) (by unfold Sbk; omega), ex 48 _ (by decide) (by unfold Sbk; omega)]; exact hO.2 m hm⟩
      have hq : QST M Mf := ⟨1, 1, 1, by omega, by omega, by omega, by rw [ef 1 13 (by omega), ea 1 13 (by omega)]; exact z4, by rw [ef 1 14 (by omega), ea 1 14 (by omega)]; exact z5, u1, fun w => by omega, fun w => by omega, fun w => by omega⟩
      have hsb : ∀ a k, Sbk a k → a < 78 ∧ ¬ (9 ≤ a ∧ a ≤ 46) ∧ a ≠ 48 ∧ ¬ (50 ≤ a) ∧ ¬ (a = 0 ∧ k ≠ 12) ∧ ¬ (a = 47 ∧ 2 ≤ k) := fun a k w => by unfold Sbk at w; omega
      have hht : ∀ a k, Sbk a k → ¬ HT M a := fun a k w q => by have := q.1; have := hsb a k w; omega
      have hL : LWS Mf 9 (mI Mf 49) := by
        refine LWS.ke (K := IMK M k) ⟨fun g y hg e => hFf.ok (il.1 g y hg (by rw [← rf g hg]; exact e)), fun c' g hc' hk' hg => ?_⟩ hke
        obtain ⟨tx, sms, e1, e2, e3⟩ := il.2 c' g hc' hk' hg
        obtain ⟨y1, y2, y3⟩ := e2.ht
        refine ⟨tx, sms, by rw [rf g (by omega)]; exact e1, e2.fw hFf (fun k => ⟨fun q => hht _ _ q y1, fun q => hht _ _ q y2, fun q => hht _ _ q y3⟩) (fun k q => by unfold Rtk2 at q; have := y1.1; omega), e3⟩
      have nf : mn Mf = mn M := by rw [hF2.1, hFa.1, zn]
      have zf : mz Mf = mz M := by rw [hF2.2.1, hFa.2.1, zz]
      refine ⟨INV0.step hc h hR2 hq hFf (by omega) (fun a k w => ⟨by have := hsb a k w; omega, by have := hsb a k w; omega, by have := hsb a k w; omega, by have := hsb a k w; omega, by have := hsb a k w; omega, hht a k w⟩) (fun a k w => ⟨by unfold Rtk2 at w; omega, by unfold Rtk2 at w; omega, fun q => by have := q.1; unfold Rtk2 at w; omega⟩) ⟨n, bt, t1, by rw [ex 11 4 (by decide) (by unfold Sbk; omega)]; exact t2, by rw [ex 47 17 (by decide) (by unfold Sbk; omega)]; exact t3, fun i hi => by rw [ex 12 i (by decide) (by unfold Sbk; omega), ex 56 i (by decide) (by unfold Sbk; omega)]; exact t4 i hi⟩ ⟨by rw [ex 0 13 (by decide) (by unfold Sbk; omega), ex 47 12 (by decide) (by unfold Sbk; omega)]; exact p1, by rw [ex 0 14 (by decide) (by unfold Sbk; omega), ex 47 18 (by decide) (by unfold Sbk; omega)]; exact p2, by rw [ex 0 15 (by decide) (by unfold Sbk; omega), ex 47 46 (by decide) (by unfold Sbk; omega)]; exact p3, dk, p4, by rw [ex 0 11 (by decide) (by unfold Sbk; omega)]; exact p5', by rw [ex 47 57 (by decide) (by unfold Sbk; omega)]; exact p6, fun i hi => by rw [ex 46 i (by decide) (by unfold Sbk; omega), ex 77 i (by decide) (by unfold Sbk; omega)]; exact p7 i hi⟩ hL, hFf.up (fun a k w => Or.inl (by have := hsb a k w; omega)) (fun a k w => Or.inl w), by omega, by omega, hq⟩
