/-! cutting the tokens, whole -/
def tkT (bt : Nat → Nat) (n j : Nat) : Nat := ((cutA bt n 0)[j]?.map (·.1)).getD 256
def tkP (bt : Nat → Nat) (n j : Nat) : Nat := ((cutA bt n 0)[j]?.map (·.2)).getD n
def tkL (bt : Nat → Nat) (n : Nat) : Nat := (cutA bt n 0).length
def Stk (a _k : Nat) : Prop := a = 13 ∨ a = 14
section
variable {M : Mem} {n : Nat} {bt : Nat → Nat}
theorem tkT_end {j : Nat} (h : tkL bt n ≤ j) : tkT bt n j = 256 := by
  unfold tkT
  rw [List.getElem?_eq_none h]
  rfl
theorem tkL_le : tkL bt n ≤ n := cutA_len n 0 (by omega)
theorem cutA_mem (hb : ∀ i, i < n → bt i < 256) : ∀ m k, k + m = n → ∀ x ∈ cutA bt n k, ∃ i, i < n ∧ bt i ≠ 32 ∧ x = (tokC bt n i, i) := by
  intro m
  induction m using Nat.strongRecOn with
  | ind m ih =>
    intro k hk x hx
    by_cases h : k < n
    · have e := endT_le (bt := bt) h
      by_cases h2 : bt k = 32
      · rw [cutA_blank h h2] at hx
        exact ih (n - endT bt n k) (by omega) (endT bt n k) (by omega) x hx
      · rw [cutA_tok h h2] at hx
        rcases List.mem_cons.mp hx with hx | hx
        · exact ⟨k, h, h2, hx⟩
        · exact ih (n - endT bt n k) (by omega) (endT bt n k) (by omega) x hx
    · rw [cutA_end (by omega)] at hx
      cases hx
theorem tkT_in (hb : ∀ i, i < n → bt i < 256) {j : Nat} (h : j < tkL bt n) : ∃ i, i < n ∧ bt i ≠ 32 ∧ tkT bt n j = tokC bt n i ∧ tkP bt n j = i := by
  have hx : (cutA bt n 0)[j]? = some ((cutA bt n 0)[j]'h) := List.getElem?_eq_getElem h
  obtain ⟨i, h1, h2, h3⟩ := cutA_mem hb n 0 (by omega) _ (List.getElem_mem h)
  refine ⟨i, h1, h2, ?_, ?_⟩
  · unfold tkT
    rw [hx, h3]
    rfl
  · unfold tkP
    rw [hx, h3]
    rfl
theorem TAPE.fr {M1 : Mem} {S : Nat → Nat → Prop} (h : TAPE M n bt) (hF : Fr S M M1) (hs : ∀ a k, S a k → a ≠ 12 ∧ a ≠ 56 ∧ (a = 11 → k ≠ 4) ∧ (a = 47 → k ≠ 17)) : TAPE M1 n bt := by
  obtain ⟨h1, h2, h3, h4⟩ := h
  refine ⟨h1, by rw [hF.i (fun q => (hs _ _ q).2.2.1 rfl rfl)]; exact h2, by rw [hF.i (fun q => (hs _ _ q).2.2.2 rfl rfl)]; exact h3, fun i hi => ?_⟩
  rw [hF.i (fun q => (hs _ _ q).1 rfl), hF.i (fun q => (hs _ _ q).2.1 rfl)]
  exact h4 i hi
theorem stk_t : ∀ a k, Stk a k → a ≠ 12 ∧ a ≠ 56 ∧ (a = 11 → k ≠ 4) ∧ (a = 47 → k ≠ 17) := fun a k h => by
  unfold Stk at h
  omega
theorem TAPR.fr {M1 : Mem} {S : Nat → Nat → Prop} (h : TAPR M n bt) (hF : Fr S M M1) (hs : ∀ a k, S a k → a ≠ 12 ∧ a ≠ 56 ∧ (a = 11 → k ≠ 4) ∧ (a = 47 → k ≠ 17)) : TAPR M1 n bt := by
  obtain ⟨h1, h2, h3, h4⟩ := h
  refine ⟨h1, trivial, by rw [hF.i (fun q => (hs _ _ q).2.2.2 rfl rfl)]; exact h3, fun i hi => ?_⟩
  rw [hF.i (fun q => (hs _ _ q).1 rfl), hF.i (fun q => (hs _ _ q).2.1 rfl)]
  exact h4 i hi
theorem c_cut (hC : LayC M) (ht : TAPE M n bt) : TT (f_X7_cutTokens M 11) (fun M' => Fr Stk M M' ∧ ∀ j, j ≤ tkL bt n → mI M' 13 j = nI (tkT bt n j) ∧ mI M' 14 j = nI (tkP bt n j)) := by
  have h400 := ht.1
  unfold f_X7_cutTokens
  rw [TT_bind]
  refine TT.mono (Q := fun x => x.2 = nI (tkL bt n) ∧ Fr Stk M x.1 ∧ ∀ j, j < tkL bt n → mI x.1 13 j = nI (tkT bt n j) ∧ mI x.1 14 j = nI (tkP bt n j)) ?_ ?_
  · refine TT_loop (fun s => ∃ (pre : List (Nat × Nat)) (k : Nat), pre ++ cutA bt n k = cutA bt n 0 ∧ s.2 = (nI pre.length, nI k) ∧ k ≤ n ∧ pre.length ≤ k ∧ Fr Stk M s.1 ∧ ∀ j, j < pre.length → mI s.1 13 j = nI (tkT bt n j) ∧ mI s.1 14 j = nI (tkP bt n j)) (fun s => n - s.2.2.toNatClampNeg) ?_ _ ⟨[], 0, rfl, rfl, by omega, by simp, Fr.rf, fun j hj => by cases hj⟩
    rintro ⟨M1, x1, x2⟩ ⟨pre, k, hpre, hx, hk, hpk, hF, hrow⟩
    simp only [Prod.mk.injEq] at hx
    obtain ⟨rfl, rfl⟩ := hx
    simp only at hF hrow ⊢
    have hC1 := hC.fr hF
    have ht1 := ht.fr hF stk_t
    have hC2 := hC1
    unfold LayC at hC2
    simp only [hC2, grd_T, ht1.2.1, bv]
    rw [TT_if, nleI (by omega) (by omega)]
    refine ⟨fun q => ?_, fun q => ?_⟩
    · obtain rfl : k = n := by omega
      rw [cutA_end (Nat.le_refl _), List.append_nil] at hpre
      rw [TT_some]
      have e : tkL bt k = pre.length := by unfold tkL; rw [hpre]
      exact ⟨by rw [e], hF, fun j hj => hrow j (by rw [← e]; exact hj)⟩
    · have hkn : k < n := by omega
      have he := endT_le (bt := bt) hkn
      rw [if_neg (show ¬ (400 : Int32) ≤ nI pre.length from fun w => by have := (nleI (a := 400) (by decide) (by omega)).mp w; omega), c_kindAt hC1 ht1 hkn, Option.bind_some, nsucc, c_run1 hC1 ht1 hkn, Option.bind_some, c_byteAt hC1 ht1 hkn, Option.bind_some]
      have hb := (ht.2.2.2 k hkn).1
      have e32 : (nI (bt k) = 32) ↔ bt k = 32 := eL (by omega) 32 (by decide)
      by_cases q2 : bt k = 32
      · rw [if_pos (e32.mpr q2), TT_some]
        refine ⟨⟨pre, endT bt n k, by rw [← cutA_blank hkn q2]; exact hpre, rfl, he.2, by omega, hF, hrow⟩, ?_⟩
        simp only
        rw [nclampI (by omega), nclampI (by omega)]
        omega
      · rw [if_neg (fun w => q2 (e32.mp w)), c_tokenOf hC1 ht1 hkn]
        simp only [Option.bind_some, mR_wI, ok_wI, mL_wI, hC2, grd_T]
        rw [grd_y ((nvp (by omega)).mpr (by omega)), grd_y ((nvp (by omega)).mpr (by omega)), nclampI (by omega), TT_some, nsucc]
        have hg : (cutA bt n 0)[pre.length]? = some (tokC bt n k, k) := by
          rw [← hpre, cutA_tok hkn q2, List.getElem?_append_right (Nat.le_refl _), Nat.sub_self]
          rfl
        have eT : tkT bt n pre.length = tokC bt n k := by unfold tkT; rw [hg]; rfl
        have eP : tkP bt n pre.length = k := by unfold tkP; rw [hg]; rfl
        refine ⟨⟨pre ++ [(tokC bt n k, k)], endT bt n k, by rw [← hpre, cutA_tok hkn q2]; simp, by rw [List.length_append, List.length_singleton], he.2, by rw [List.length_append, List.length_singleton]; omega, (hF.wI (Or.inl rfl)).wI (Or.inr rfl), fun j hj => ?_⟩, ?_⟩
        · rw [List.length_append, List.length_singleton] at hj
          rw [mI_wI_row (b := 13) (by decide)]
          by_cases w : j = pre.length
          · subst w
            rw [mI_wIs, mI_wIs, eT, eP]
            exact ⟨rfl, rfl⟩
          · rw [mI_wI_ne w, mI_wI_ne w, mI_wI_row (b := 14) (by decide)]
            exact hrow j (by omega)
        · simp only
          rw [nclampI (by omega), nclampI (by omega)]
          omega
  · rintro ⟨M1, x⟩ ⟨rfl, hF, hrow⟩
    simp only at hF hrow ⊢
    have hC1 := hC.fr hF
    have ht1 := ht.fr hF stk_t
    have hle := tkL_le (bt := bt) (n := n)
    unfold LayC at hC1
    simp only [hC1, grd_T, Option.bind_some, bv, mR_wI, ok_wI, mL_wI]
    rw [grd_y ((nvp (by omega)).mpr (by omega)), grd_y ((nvp (by omega)).mpr (by omega)), nclampI (by omega), TT_some]
    refine ⟨(hF.wI (Or.inl rfl)).wI (Or.inr rfl), fun j hj => ?_⟩
    rw [mI_wI_row (b := 13) (by decide)]
    by_cases w : j = tkL bt n
    · subst w
      rw [mI_wIs, mI_wIs, tkT_end (Nat.le_refl _), mI_wI_row (b := 11) (by decide), ht1.2.1]
      refine ⟨rfl, ?_⟩
      unfold tkP
      rw [List.getElem?_eq_none (show (cutA bt n 0).length ≤ tkL bt n from Nat.le_refl _)]
      rfl
    · rw [mI_wI_ne w, mI_wI_ne w, mI_wI_row (b := 14) (by decide)]
      exact hrow j (by omega)
end
