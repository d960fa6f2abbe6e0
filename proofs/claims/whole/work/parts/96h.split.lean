/-! the reference cuts the tokens -/
theorem sg_small : ∀ b, b < 256 → f_X12_isSmall (sgB b) = some (b1 (decide (kdB b = 0))) := by decide +kernel
theorem sg_digit : ∀ b, b < 256 → f_X12_isDigit (sgB b) = some (b1 (decide (kdB b = 1))) := by decide +kernel
theorem sg_32 : ∀ b, b < 256 → (sgB b = 32 ↔ b = 32) := by decide +kernel
theorem sg_255 : ∀ b, b < 256 → sgB b &&& 255 = nI b := by decide +kernel
theorem sg_lo : ∀ b, b < 128 → sgB b = nI b := by decide +kernel
def Ssp (a k : Nat) : Prop := a = 58 ∨ a = 59 ∨ a = 60 ∨ (a = 47 ∧ k = 22)
theorem ssp_t : ∀ a k, Ssp a k → a ≠ 12 ∧ a ≠ 56 ∧ (a = 11 → k ≠ 4) ∧ (a = 47 → k ≠ 17) := fun a k h => by
  unfold Ssp at h
  omega
/-- what the reference has of a token -/
def SPT (M : Mem) (bt : Nat → Nat) (n j : Nat) : Prop := mI M 58 j = nI (rc (tkT bt n j)) ∧ mI M 60 j = nI (tkP bt n j) ∧ (1000 ≤ tkT bt n j → ∃ v, v < 2147483648 ∧ mI M 59 j = nI v ∧ (tkT bt n j ≤ 2000 → v = tkT bt n j - 1000) ∧ (2000 < tkT bt n j → 1000 < v))
section
variable {M : Mem} {n : Nat} {bt : Nat → Nat}
theorem r_run1 (hM : LayM M) (ht : TAPR M n bt) {kd : Nat} {ff : Int32 → Option Int32} (hff : ∀ b, b < 256 → ff (sgB b) = some (b1 (decide (kdB b = kd)))) : ∀ f j, j ≤ n → n ≤ f + j → TT (loopO (σ := Int32) (ρ := Int32) (fun s124 => if nI n ≤ s124 then (some (.inr s124)) else (Option.bind (mR M 47 15) (fun r132 => grd (okO M 13 r132) (grd (vp_in s124 (mL M r132)) (Option.bind (ff (mI M r132 s124.toNatClampNeg)) (fun q135 => if q135 = 0 then (some (.inr s124)) else (bv (s124 + 1 : Int32) (fun x138 => some (.inl x138))))))))) (nI j)) (fun x => x = nI (runE bt n kd f j)) := by
  have h400 := ht.1
  have hM2 := hM
  unfold LayM at hM2
  simp only [hM2, grd_T, Option.bind_some, bv]
  intro f
  induction f with
  | zero =>
    intro j h1 h2
    obtain rfl : j = n := by omega
    rw [loopO_eq, if_pos ((nleI (by omega) (by omega)).mpr (Nat.le_refl _))]
    exact ⟨_, rfl, rfl⟩
  | succ f ih =>
    intro j h1 h2
    rw [loopO_eq, runE]
    by_cases w1 : j < n
    · have hb := ht.2.2.2 j w1
      rw [if_neg (fun w => by have := (nleI (by omega) (by omega)).mp w; omega), grd_y ((nvp (by omega)).mpr (by omega)), nclampI (by omega), hb.2.2, hff _ hb.1, Option.bind_some]
      by_cases w2 : kdB (bt j) = kd
      · rw [decide_eq_true w2, if_neg (show ¬ b1 true = 0 by decide), if_pos ⟨w1, w2⟩]
        simp only
        rw [nsucc]
        exact ih (j + 1) (by omega) (by omega)
      · rw [decide_eq_false w2, if_pos (show b1 false = 0 from rfl), if_neg (fun e => w2 e.2)]
        exact ⟨_, rfl, rfl⟩
    · rw [if_pos ((nleI (by omega) (by omega)).mpr (by omega)), if_neg (fun e => w1 e.1)]
      exact ⟨_, rfl, rfl⟩
noncomputable def vlB (b18 s31 : Int32) : Mem × Int32 → Option ((Mem × Int32) ⊕ Mem) := (fun s62 => if s31 ≤ s62.2 then (some (.inr s62.1)) else (Option.bind (f_X12_isDigit b18) (fun q71 => if q71 = 0 then (some (.inr s62.1)) else (Option.bind (mR s62.1 47 20) (fun r74 => Option.bind (mR s62.1 47 20) (fun r75 => grd (okO s62.1 14 r75) (grd (vp_in (mI s62.1 47 22) (mL s62.1 r75)) (bv (fun (s79 : Int32) => grd (okO s62.1 14 r74) (grd (vp_in (mI s62.1 47 22) (mL s62.1 r74)) (bv (wI s62.1 r74 (mI s62.1 47 22).toNatClampNeg s79) (fun M84 => bv (s62.2 + 1 : Int32) (fun x88 => some (.inl (M84, x88))))))) (fun j78 => if (mI s62.1 r75 (mI s62.1 47 22).toNatClampNeg) ≤ 1000000 then (Option.bind (mR s62.1 47 20) (fun r89 => grd (okO s62.1 14 r89) (grd (vp_in (mI s62.1 47 22) (mL s62.1 r89)) (Option.bind (mR s62.1 47 15) (fun r92 => grd (okO s62.1 13 r92) (grd (vp_in s62.2 (mL s62.1 r92)) (j78 (((10 * (mI s62.1 r89 (mI s62.1 47 22).toNatClampNeg)) + (mI s62.1 r92 s62.2.toNatClampNeg)) - 48)))))))) else (Option.bind (mR s62.1 47 20) (fun r95 => grd (okO s62.1 14 r95) (grd (vp_in (mI s62.1 47 22) (mL s62.1 r95)) (j78 (mI s62.1 r95 (mI s62.1 47 22).toNatClampNeg))))))))))))))
def S59 (t a k : Nat) : Prop := a = 59 ∧ k = t
/-- the value of a NUMBER -/
theorem r_value (hM : LayM M) (ht : TAPR M n bt) {k e t : Nat} (hke : k ≤ e) (hen : e ≤ n) (h22 : mI M 47 22 = nI t) (ht4 : t ≤ 400) (h0 : mI M 59 t = 0) (hbk : bt k < 256) : TT (loopO (vlB (sgB (bt k)) (nI e)) (M, nI k)) (fun M' => Fr (S59 t) M M' ∧ (kdB (bt k) = 1 → (∀ i, k ≤ i → i < e → 48 ≤ bt i ∧ bt i ≤ 57) → mI M' 59 t = nI (nmR bt k (e - k)))) := by
  have h400 := ht.1
  have g4 : ∀ {z : Option ((Mem × Int32) ⊕ Mem)}, grd (vp_in (nI t) 401) z = z := grd_y ((nvp (by omega)).mpr (by omega))
  by_cases hd : kdB (bt k) = 1 ∧ ∀ i, k ≤ i → i < e → 48 ≤ bt i ∧ bt i ≤ 57
  · obtain ⟨hk1, hdd⟩ := hd
    refine TT_for (e - k) (fun m s => s.2 = nI (k + m) ∧ Fr (S59 t) M s.1 ∧ mI s.1 59 t = nI (nmR bt k m)) ?_ (Nat.zero_le _) ⟨rfl, Fr.rf, h0⟩
    rintro m ⟨M1, x⟩ hm ⟨rfl, hF, hv⟩
    simp only at hF hv
    have hM1 := hM.fr hF
    unfold LayM at hM1
    have g22 : mI M1 47 22 = nI t := by rw [hF.i (by unfold S59; omega)]; exact h22
    obtain ⟨-, hle⟩ := nm_eq (bt := bt) (a := k) (m := m) (fun i hi => hdd (k + i) (by omega) (by omega))
    unfold vlB
    simp only [hM1, grd_T, Option.bind_some, bv, g22, sg_digit _ hbk, g4]
    rw [TT_if, nleI (by omega) (by omega)]
    refine ⟨fun q => ?_, fun q => ?_⟩
    · obtain rfl : m = e - k := by omega
      rw [TT_some]
      exact ⟨hF, fun _ _ => hv⟩
    · have hd1 := hdd (k + m) (by omega) (by omega)
      have hb := ht.2.2.2 (k + m) (by omega)
      have g56 : mI M1 56 (k + m) = nI (bt (k + m)) := by rw [hF.i (by unfold S59; omega), hb.2.2, sg_lo _ (by omega)]
      rw [decide_eq_true hk1, if_neg (show ¬ b1 true = 0 by decide), nclampI (a := t) (by omega), hv, nclampI (a := k + m) (by omega), g56, nmR]
      by_cases w : 1000000 < nmR bt k m
      · rw [if_neg (show ¬ nI (nmR bt k m) ≤ 1000000 from fun e => by have := (nleI (b := 1000000) (by omega) (by decide)).mp e; omega), TT_some, if_pos w]
        exact ⟨by omega, by rw [nsucc, Nat.add_assoc], hF.wI ⟨rfl, rfl⟩, mI_wIs⟩
      · rw [if_pos (show nI (nmR bt k m) ≤ 1000000 from (nleI (b := 1000000) (by omega) (by decide)).mpr (by omega)), grd_y ((nvp (by omega)).mpr (by omega)), TT_some, if_neg w, show (10 : Int32) = nI 10 from rfl, show (48 : Int32) = nI 48 from rfl, nmul, nadd, nsub (by omega)]
        exact ⟨by omega, by rw [nsucc, Nat.add_assoc], hF.wI ⟨rfl, rfl⟩, mI_wIs⟩
  · by_cases hk1 : kdB (bt k) = 1
    · -- digits and others mixed: never asked, the loop still ends
      refine TT_for (e - k) (fun m s => s.2 = nI (k + m) ∧ Fr (S59 t) M s.1) ?_ (Nat.zero_le _) ⟨rfl, Fr.rf⟩
      rintro m ⟨M1, x⟩ hm ⟨rfl, hF⟩
      simp only at hF
      have hM1 := hM.fr hF
      unfold LayM at hM1
      have g22 : mI M1 47 22 = nI t := by rw [hF.i (by unfold S59; omega)]; exact h22
      unfold vlB
      simp only [hM1, grd_T, Option.bind_some, bv, g22, sg_digit _ hbk, g4]
      rw [TT_if, nleI (by omega) (by omega)]
      refine ⟨fun q => ?_, fun q => ?_⟩
      · rw [TT_some]
        exact ⟨hF, fun _ w => absurd ⟨hk1, w⟩ hd⟩
      · rw [decide_eq_true hk1, if_neg (show ¬ b1 true = 0 by decide), grd_y ((nvp (by omega)).mpr (show k + m < 400 by omega)), nclampI (a := t) (by omega), TT_if, TT_some, TT_some, nsucc]
        exact ⟨fun _ => ⟨by omega, by rw [Nat.add_assoc], hF.wI ⟨rfl, rfl⟩⟩, fun _ => ⟨by omega, by rw [Nat.add_assoc], hF.wI ⟨rfl, rfl⟩⟩⟩
    · have e1 : vlB (sgB (bt k)) (nI e) (M, nI k) = some (.inr M) := by
        unfold vlB
        simp only
        rw [sg_digit _ hbk, Option.bind_some, decide_eq_false hk1, if_pos (show b1 false = 0 from rfl)]
        split <;> rfl
      rw [loopO_eq, e1]
      exact ⟨_, rfl, Fr.rf, fun w => absurd w hk1⟩
end
