/-! judge(): the reference; both -/
theorem HSV.fr2 {S : Nat → Nat → Prop} {M M' : Mem} {n : Nat} {mo : Nat → Option Nat} {yr : Nat → Nat} {di : Nat → List Nat} (hv : HSV M n mo yr di) (hF : Fr S M M') (hs : ∀ a k, S a k → ¬ (1 ≤ a ∧ a ≤ 8) ∧ a ≠ 49) : HSV M' n mo yr di := by
  have e : ∀ a k, (1 ≤ a ∧ a ≤ 8) ∨ a = 49 → mI M' a k = mI M a k := fun a k w => hF.i (fun q => by have := hs a k q; omega)
  obtain ⟨v1, v2, v3, v4⟩ := hv
  refine ⟨v1, by rw [e 49 56 (by omega)]; exact v2, by rw [e 1 8 (by omega)]; exact v3, fun g hg => ?_⟩
  rw [e 49 _ (by omega), e 49 _ (by omega), e 49 _ (by omega), e 5 g (by omega), e 6 g (by omega), e 7 g (by omega), e 8 g (by omega)]
  exact v4 g hg
theorem r_judge {M : Mem} (h : MID M) {n : Nat} {mo : Nat → Option Nat} {yr : Nat → Nat} {di : Nat → List Nat} (hv : HSV M n mo yr di) (p1 : Int32) : TT (f_X12_judge M 47 p1) (fun q => Fr Srv M q.1 ∧ q.2 = (if p1 = 0 then fs (bkn (mI M 49) mo yr di) 0 n else if p1 = 1 then nI (cn (bkn (mI M 49) mo yr di) 0 n) else -1)) := by
  have hn := hv.1
  have e0 : f_X12_judge M 47 p1 = Option.bind (f_X12_lies p1 0 1) (fun q1 => if q1 = 0 then (some (M, (-1))) else (Option.bind (loopO (jrB 47) (M, (-1), 0, 0)) (fun (x10 : Mem × Int32 × Int32) => if p1 = 0 then (some (x10.1, x10.2.1)) else (some (x10.1, x10.2.2))))) := rfl
  rw [e0, lies_bind]
  by_cases w0 : 0 ≤ p1 ∧ p1 ≤ 1
  · have hp : p1 = 0 ∨ p1 = 1 := by
      have t0 : (0 : Int32).toInt = 0 := rfl
      have t1 : (1 : Int32).toInt = 1 := rfl
      simp only [← Int32.toInt_inj, Int32.le_iff_toInt_le, t0, t1] at w0 ⊢
      omega
    rw [if_pos w0, TT_bind]
    refine TT.mono (Q := fun (x : Mem × Int32 × Int32) => Fr Srv M x.1 ∧ x.2.1 = fs (bkn (mI M 49) mo yr di) 0 n ∧ x.2.2 = nI (cn (bkn (mI M 49) mo yr di) 0 n)) ?_ ?_
    · refine TT_for n (fun k s => s.2.2.2 = nI k ∧ s.2.1 = fs (bkn (mI M 49) mo yr di) 0 k ∧ s.2.2.1 = nI (cn (bkn (mI M 49) mo yr di) 0 k) ∧ Fr Srv M s.1 ∧ MID s.1 ∧ mI s.1 49 = mI M 49) ?_ (Nat.zero_le _) ⟨rfl, rfl, rfl, Fr.rf, h, rfl⟩
      rintro k ⟨M1, ea, br, i⟩ hk ⟨q1, q2, q3, q4, q5, q6⟩
      simp only at q1 q2 q3 q4 q5 q6
      subst q1 q2 q3
      have hv1 := hv.fr2 q4 (fun a k w => by unfold Srv at w; omega)
      have hM1 := q5.1.2.1
      have hM12 := hM1
      unfold LayM at hM12
      have g56 : vp_in 56 5666 := show vp_in (nI 56) 5666 from (nvp (by omega)).mpr (by omega)
      have c56 : (56 : Int32).toNatClampNeg = 56 := by decide
      unfold jrB
      simp only [hM12, grd_T, Option.bind_some, bv, c56]
      rw [grd_y g56, hv1.2.1]
      by_cases w : k < n
      · rw [if_neg (fun q => by have := (nleI (by omega) (by omega)).mp q; omega), r_mo hM1 hv1 w, Option.bind_some, nsucc]
        obtain ⟨g1, g2, g3, g4, g5, g6, g7, g8, g9, g10⟩ := hv1.2.2.2 k w
        have ef := fs_snoc (bkn (mI M 49) mo yr di) k 0 (by omega)
        have ec := cn_snoc (bkn (mI M 49) mo yr di) k 0
        rw [Nat.zero_add] at ef ec
        cases hmo : mo k with
        | none =>
          have eb : bkn (mI M 49) mo yr di k = false := by unfold bkn; rw [hmo]
          rw [eb] at ef ec
          rw [if_pos (show oI none = -1 from rfl), TT_some]
          refine ⟨w, rfl, ?_, ?_, q4, q5, q6⟩
          · rw [ef]
            by_cases z : fs (bkn (mI M 49) mo yr di) 0 k = -1
            · rw [if_pos z]; exact z
            · rw [if_neg z]
          · rw [ec]; rfl
        | some m =>
          have hmk := g1 m hmo
          obtain ⟨i1, i2, i3, _⟩ := hv1.2.2.2 m (by omega)
          rw [if_neg (show ¬ oI (some m) = -1 from neg1_nI (by omega)), show oI (some m) = nI m from rfl, r_di hM1 hv1 (show m < n by omega), Option.bind_some, r_di hM1 hv1 w, Option.bind_some, r_yr hM1 hv1 w, Option.bind_some, TT_bind]
          refine (r_leads q5 i3 g3 g2).mono ?_
          rintro ⟨M2, r⟩ ⟨a1, a2, a3, a4⟩
          simp only at a1 a2 a3 a4 ⊢
          rw [a4, q6]
          cases hh : hasD (EDG (mI M 49) (yr k) (di m)) (di k) with
          | true =>
            have eb : bkn (mI M 49) mo yr di k = false := by unfold bkn; rw [hmo]; simp only [hh]; rfl
            rw [eb] at ef ec
            rw [if_neg (by decide), TT_some]
            refine ⟨w, rfl, ?_, ?_, q4.tr a3, a1, by rw [a2, q6]⟩
            · rw [ef]
              by_cases z : fs (bkn (mI M 49) mo yr di) 0 k = -1
              · rw [if_pos z]; exact z
              · rw [if_neg z]
            · rw [ec]; rfl
          | false =>
            have eb : bkn (mI M 49) mo yr di k = true := by unfold bkn; rw [hmo]; simp only [hh]; rfl
            rw [eb] at ef ec
            rw [if_pos (show b1 false = 0 from rfl)]
            by_cases z : fs (bkn (mI M 49) mo yr di) 0 k = -1
            · rw [if_pos z, TT_some]
              refine ⟨w, rfl, ?_, ?_, q4.tr a3, a1, by rw [a2, q6]⟩
              · rw [ef, if_pos z]; rfl
              · rw [ec]; exact nsucc _
            · rw [if_neg z, TT_some]
              refine ⟨w, rfl, ?_, ?_, q4.tr a3, a1, by rw [a2, q6]⟩
              · rw [ef, if_neg z]
              · rw [ec]; exact nsucc _
      · rw [if_pos ((nleI (by omega) (by omega)).mpr (by omega)), TT_some]
        have en : k = n := by omega
        subst en
        exact ⟨q4, rfl, rfl⟩
    · rintro ⟨M1, ea, br⟩ ⟨q1, q2, q3⟩
      simp only at q1 q2 q3 ⊢
      rcases hp with rfl | rfl
      · rw [if_pos rfl, TT_some, if_pos rfl]
        exact ⟨q1, q2⟩
      · rw [if_neg (by decide), TT_some, if_neg (by decide), if_pos rfl]
        exact ⟨q1, q3⟩
  · rw [if_neg w0, TT_some, if_neg (fun q => w0 (by rw [q]; decide)), if_neg (fun q => w0 (by rw [q]; decide))]
    exact ⟨Fr.rf, rfl⟩
theorem both_judge {c : Nat} (hc : c < 600) {M : Mem} (h : INV0 c M) (p1 : Int32) : CALL c M (fun M => f_X11_judge M 0 p1) (fun M => f_X12_judge M 47 p1) := by
  obtain ⟨m1, s1⟩ := h.mid
  obtain ⟨n, mo, yr, di, hv⟩ := h.1.hsv
  have hl : LKI M (300 * c) M := ⟨Fw.rf, rfl, rfl, m1, rfl, s1⟩
  obtain ⟨⟨M1, x⟩, f1, a1, a2⟩ := c_judge hl (by omega) hv p1
  simp only at a1 a2
  have hv1 := a1.hsv m1.2.1 hv
  obtain ⟨b1', b2, b3, b4, b5, b6⟩ := a1
  obtain ⟨⟨M2, x2⟩, f2, d1, d2⟩ := r_judge b4 hv1 p1
  simp only at d1 d2
  rw [b5, ← a2] at d2
  subst d2
  exact CALL.look h f1 f2 b1' b2 b3 (b6.mono (by omega)) d1
