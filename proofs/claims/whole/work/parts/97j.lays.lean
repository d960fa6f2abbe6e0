/-! the reference keeps a LAW -/
noncomputable def lyB (p1 : Int32) : Mem × Int32 → Option ((Mem × Int32) ⊕ Mem) := (fun s9 => if (mI s9.1 47 22) ≤ s9.2 then (some (.inr s9.1)) else (Option.bind (mR s9.1 47 3) (fun r18 => Option.bind (mR s9.1 47 19) (fun r19 => grd (okO s9.1 14 r19) (grd (vp_in s9.2 (mL s9.1 r19)) (grd (okO s9.1 14 r18) (grd (vp_in ((66 + (400 * p1)) + s9.2) (mL s9.1 r18)) (bv (wI s9.1 r18 ((66 + (400 * p1)) + s9.2).toNatClampNeg (mI s9.1 r19 s9.2.toNatClampNeg)) (fun M24 => Option.bind (mR M24 47 3) (fun r28 => Option.bind (mR M24 47 20) (fun r29 => grd (okO M24 14 r29) (grd (vp_in s9.2 (mL M24 r29)) (grd (okO M24 14 r28) (grd (vp_in ((2866 + (400 * p1)) + s9.2) (mL M24 r28)) (bv (wI M24 r28 ((2866 + (400 * p1)) + s9.2).toNatClampNeg (mI M24 r29 s9.2.toNatClampNeg)) (fun M34 => bv (s9.2 + 1 : Int32) (fun x38 => some (.inl (M34, x38)))))))))))))))))))
theorem lays_eq {M : Mem} {p1 : Int32} : f_X12_lays M 47 p1 = grd (okO M 12 47) (Option.bind (mR M 47 3) (fun r2 => grd (okO M 14 r2) (grd (vp_in (59 + p1) (mL M r2)) (bv (wI M r2 (59 + p1).toNatClampNeg (mI M 47 22)) (fun M5 => Option.bind (loopO (lyB p1) (M5, 0)) (fun (x16 : Mem) => some x16)))))) := rfl
def Sly (f a k : Nat) : Prop := a = 49 ∧ (k = 59 + f ∨ (66 + 400 * f ≤ k ∧ k < 466 + 400 * f) ∨ (2866 + 400 * f ≤ k ∧ k < 3266 + 400 * f))
def LYI (f len : Nat) (M M1 : Mem) (k : Nat) : Prop := Fr (Sly f) M M1 ∧ mI M1 49 (59 + f) = nI len ∧ ∀ j, j < k → mI M1 49 (66 + 400 * f + j) = mI M 58 j ∧ mI M1 49 (2866 + 400 * f + j) = mI M 59 j
theorem r_lays {M : Mem} (hM : LayM M) {f len : Nat} (hf : f < 7) (hlen : len ≤ 400) (h22 : mI M 47 22 = nI len) : TT (f_X12_lays M 47 (nI f)) (fun M1 => LYI f len M M1 len) := by
  have e59 : (59 : Int32) + nI f = nI (59 + f) := by rw [show (59 : Int32) = nI 59 from rfl, nadd]
  have start : f_X12_lays M 47 (nI f) = Option.bind (loopO (lyB (nI f)) (wI M 49 (59 + f) (nI len), nI 0)) (fun (x16 : Mem) => some x16) := by
    rw [lays_eq]
    unfold LayM at hM
    simp only [bv, hM, grd_T, Option.bind_some]
    rw [e59, grd_y ((nvp (by omega)).mpr (by omega)), nclampI (by omega), h22]
    rfl
  rw [start, TT_bind]
  have hI0 : LYI f len M (wI M 49 (59 + f) (nI len)) 0 := ⟨Fr.rf.wI ⟨rfl, Or.inl rfl⟩, mI_wIs, fun j hj => by omega⟩
  refine (TT_for (Q := fun M1 => LYI f len M M1 len) len (fun k s => s.2 = nI k ∧ LYI f len M s.1 k) ?_ (Nat.zero_le len) (s := (wI M 49 (59 + f) (nI len), nI 0)) ⟨rfl, hI0⟩).mono ?_
  · rintro k ⟨M1, i⟩ hk ⟨hi, hF, h59, hj⟩
    simp only at hi hF h59 hj
    subst hi
    have hM1 := hM.fr hF
    have e22 : mI M1 47 22 = nI len := by rw [hF.i (by unfold Sly; omega)]; exact h22
    unfold lyB
    simp only
    by_cases w : k < len
    · rw [e22, if_neg (fun q => by have := (nleI (by omega) (by omega)).mp q; omega)]
      have ea : (66 : Int32) + 400 * nI f + nI k = nI (66 + 400 * f + k) := by rw [show (400 : Int32) = nI 400 from rfl, nmul, show (66 : Int32) = nI 66 from rfl, nadd, nadd]
      have eb : (2866 : Int32) + 400 * nI f + nI k = nI (2866 + 400 * f + k) := by rw [show (400 : Int32) = nI 400 from rfl, nmul, show (2866 : Int32) = nI 2866 from rfl, nadd, nadd]
      unfold LayM at hM1
      simp only [bv, hM1, grd_T, Option.bind_some, mR_wI, ok_wI, mL_wI]
      rw [ea, eb, nsucc]
      rw [grd_y ((nvp (a := k) (by omega)).mpr (by omega)), grd_y ((nvp (a := 66 + 400 * f + k) (by omega)).mpr (by omega)), grd_y ((nvp (a := k) (by omega)).mpr (by omega)), grd_y ((nvp (a := 2866 + 400 * f + k) (by omega)).mpr (by omega)), nclampI (a := k) (by omega), nclampI (a := 66 + 400 * f + k) (by omega), nclampI (a := 2866 + 400 * f + k) (by omega), TT_some]
      have hFa : Fr (Sly f) M (wI M1 49 (66 + 400 * f + k) (mI M1 58 k)) := hF.wI ⟨rfl, Or.inr (Or.inl ⟨by omega, by omega⟩)⟩
      have e58 : mI M1 58 k = mI M 58 k := hF.i (by unfold Sly; omega)
      have e59' : mI (wI M1 49 (66 + 400 * f + k) (mI M1 58 k)) 59 k = mI M 59 k := hFa.i (by unfold Sly; omega)
      rw [e59']
      refine ⟨w, rfl, hFa.wI ⟨rfl, Or.inr (Or.inr ⟨by omega, by omega⟩)⟩, ?_, fun j hjk => ?_⟩
      · show mI (wI (wI M1 49 (66 + 400 * f + k) (mI M1 58 k)) 49 (2866 + 400 * f + k) (mI M 59 k)) 49 (59 + f) = _
        rw [mI_wI_ne (by omega), mI_wI_ne (by omega)]
        exact h59
      · show mI (wI (wI M1 49 (66 + 400 * f + k) (mI M1 58 k)) 49 (2866 + 400 * f + k) (mI M 59 k)) 49 (66 + 400 * f + j) = _ ∧ mI (wI (wI M1 49 (66 + 400 * f + k) (mI M1 58 k)) 49 (2866 + 400 * f + k) (mI M 59 k)) 49 (2866 + 400 * f + j) = _
        by_cases q : j = k
        · subst q
          refine ⟨?_, mI_wIs⟩
          rw [mI_wI_ne (by omega), mI_wIs, e58]
        · rw [mI_wI_ne (by omega), mI_wI_ne (by omega), mI_wI_ne (by omega), mI_wI_ne (by omega)]
          exact hj j (by omega)
    · rw [e22, if_pos ((nleI (by omega) (by omega)).mpr (by omega)), TT_some]
      obtain rfl : k = len := by omega
      exact ⟨hF, h59, hj⟩
  · intro M1 h
    exact ⟨_, rfl, h⟩
/-- what is kept then is the text that was read -/
theorem LYI.law {M M1 : Mem} {f : Nat} {bt : Nat → Nat} {n : Nat} (h : LYI f (tkL bt n) M M1 (tkL bt n)) (hs : ∀ j, j ≤ tkL bt n → SPT M bt n j) : LAWP (mI M1 49) (tkT bt n) (tkL bt n) f := by
  obtain ⟨h1, h2, h3⟩ := h
  refine ⟨h2, fun j hj => ?_⟩
  obtain ⟨a1, a2⟩ := h3 j hj
  obtain ⟨s1, s2, s3⟩ := hs j (by omega)
  refine ⟨by rw [a1]; exact s1, fun w1 w2 => ?_⟩
  obtain ⟨v, v1, v2, v3, v4⟩ := s3 w1
  rw [a2, v2, v3 w2]
/-- other LAWs stay -/
theorem LAWP.keep {M M1 : Mem} {f g len : Nat} {T : Nat → Nat} (h : LAWP (mI M 49) T len g) (hF : Fr (Sly f) M M1) (hne : g ≠ f) (hg : g < 7) (hf : f < 7) (hlen : len ≤ 400) : LAWP (mI M1 49) T len g := by
  obtain ⟨h1, h2⟩ := h
  refine ⟨by rw [hF.i (by unfold Sly; omega)]; exact h1, fun j hj => ?_⟩
  rw [hF.i (by unfold Sly; omega), hF.i (by unfold Sly; omega)]
  exact h2 j hj
