/-! PARTS, TERMS, SUMS: both machines tell the same -/
section
variable {T : Nat → Nat} {len : Nat} {ord : Bool}
theorem JV_num {u p n : Nat} (hn : n ≤ 1000) : JV u p (p + 1) [16 * n + 1] (fun _ => some (n : Int)) := by
  refine ⟨fun W v hv => ?_, fun C L W hC => ?_⟩
  · cases hv
    exact ⟨by omega, by omega⟩
  · obtain ⟨c1, c2⟩ := hC.one
    rw [Nat.add_sub_cancel_left]
    exact EVM_num c2 c1
theorem JV_word {u p w : Nat} (hw : w < 88) : JV u p (p + 1) [16 * w + 2] (fun W => some (W w).toInt) := by
  refine ⟨fun W v hv => ?_, fun C L W hC => ?_⟩
  · cases hv
    exact S32_i _
  · obtain ⟨c1, c2⟩ := hC.one
    rw [Nat.add_sub_cancel_left]
    exact EVM_word (W := tI W) c2 hw c1
theorem JP_part (hT : ∀ j, len ≤ j → T j = 256) {d : Nat} {sq : PF3} (hs : ∀ k p u x, p ≤ 50 → k ≤ len → T k = 91 → sq k p u = .inr x → ∃ val, JV u p x.2.1 x.2.2 val ∧ RSV (f_X12_partOf (d + 1)) T len ord k x.1 val) : JP (f_X12_partOf (d + 1)) T len ord (pPart ord T sq) := by
  intro k p u x hp hk hx
  unfold pPart at hx
  by_cases h1 : T k = 91
  · rw [if_pos h1] at hx
    exact hs k p u x hp hk h1 hx
  rw [if_neg h1] at hx
  by_cases h2 : 50 ≤ p ∨ 2000 < T k
  · rw [if_pos h2] at hx
    cases hx
  rw [if_neg h2] at hx
  by_cases h3 : 1000 ≤ T k
  · rw [if_pos h3] at hx
    cases hx
    have hkl : k < len := lt_of_T hT (t := T k) rfl (by omega)
    exact ⟨_, JV_num (by omega), RS_num hT hkl h3 (by omega)⟩
  rw [if_neg h3] at hx
  unfold wrd at hx
  cases ord with
  | false =>
    simp only [Bool.false_eq_true, if_false] at hx
    by_cases h4 : 272 ≤ T k ∧ T k ≤ 279
    · rw [if_pos h4] at hx
      cases hx
      have hkl : k < len := lt_of_T hT (t := T k) rfl (by omega)
      exact ⟨_, JV_word (by omega), RS_law hT hkl (by omega) (by omega)⟩
    · rw [if_neg h4] at hx
      cases hx
  | true =>
    simp only [if_true] at hx
    by_cases h4 : 280 ≤ T k ∧ T k ≤ 283
    · rw [if_pos h4] at hx
      cases hx
      have hkl : k < len := lt_of_T hT (t := T k) rfl (by omega)
      exact ⟨_, JV_word (by omega), RS_ord hT hkl (by omega) (by omega)⟩
    rw [if_neg h4] at hx
    by_cases h5 : T k ≠ 275 ∧ T k ≠ 276
    · rw [if_pos h5] at hx
      cases hx
    rw [if_neg h5] at hx
    by_cases h6 : T (k + 1) < 1000 ∨ 1012 ≤ T (k + 1)
    · rw [if_pos h6] at hx
      cases hx
    rw [if_neg h6] at hx
    have hkl : k + 1 < len := lt_of_T hT (t := T (k + 1)) rfl (by omega)
    by_cases h7 : T k = 275
    · rw [if_pos h7] at hx
      cases hx
      exact ⟨_, JV_word (by omega), RS_long hT hkl (by omega) h7 (by omega)⟩
    rw [if_neg h7] at hx
    by_cases h8 : T (k + 2) < 1000 ∨ 1006 ≤ T (k + 2)
    · rw [if_pos h8] at hx
      cases hx
    rw [if_neg h8] at hx
    cases hx
    have hkl2 : k + 2 < len := lt_of_T hT (t := T (k + 2)) rfl (by omega)
    exact ⟨_, JV_word (by omega), RS_has hT hkl2 (by omega) (by omega) (by omega) (by omega) (by omega)⟩
theorem hoS : ∀ t o, opS t = some o → 3 ≤ o ∧ o ≤ 10 := by
  intro t o h
  rcases opS_or t with ⟨_, e⟩ | ⟨_, e⟩ | ⟨_, _, e⟩ <;> rw [e] at h <;> cases h <;> omega
theorem hoT : ∀ t o, opT t = some o → 3 ≤ o ∧ o ≤ 10 := by
  intro t o h
  rcases opT_or t with ⟨_, e⟩ | ⟨_, e⟩ | ⟨_, e⟩ | ⟨_, _, _, e⟩ <;> rw [e] at h <;> cases h <;> omega
theorem JP_sum_of (hT : ∀ j, len ≤ j → T j = 256) (hlen : len ≤ 400) {d : Nat} {f : PF3} (h : JP (f_X12_partOf (d + 1)) T len ord f) (hg : GD len f) : JP (f_X12_sumOf (d + 3)) T len ord (pSeq T (pSeq T f opT) opS) := by
  have ht : JP (f_X12_termOf (d + 2)) T len ord (pSeq T f opT) := JP_seq hT hlen rfl hoT h hg (BS_term hT) (fun M live hM => tm_eq hM)
  exact JP_seq hT hlen rfl hoS ht (GD_seq hT hg (fun _ _ => opT_ne)) (BS_sum hT) (fun M live hM => sm_eq hM)
theorem JP_sq (hT : ∀ j, len ≤ j → T j = 256) {d : Nat} {inner : PF3} (h : JP (f_X12_sumOf d) T len ord inner) : ∀ k p u x, p ≤ 50 → k ≤ len → T k = 91 → pSq T 93 inner k p u = .inr x → ∃ val, JV u p x.2.1 x.2.2 val ∧ RSV (f_X12_partOf (d + 1)) T len ord k x.1 val := by
  intro k p u x hp hk hTk hx
  have hkl : k < len := lt_of_T hT hTk (by decide)
  unfold pSq at hx
  cases hi : inner (k + 1) p u with
  | inl j =>
    rw [hi] at hx
    cases hx
  | inr y =>
    rw [hi] at hx
    simp only at hx
    by_cases hc : T y.1 = 93
    · rw [if_pos hc] at hx
      cases hx
      obtain ⟨val, h1, h2⟩ := h (k + 1) p u y hp hkl hi
      exact ⟨val, h1, RS_sq hT hkl hTk h2⟩
    · rw [if_neg hc] at hx
      cases hx
theorem JP_SUMr (hT : ∀ j, len ≤ j → T j = 256) (hlen : len ≤ 400) : ∀ r d, JP (f_X12_sumOf (3 * r + d + 3)) T len ord (SUMr ord T r)
  | 0, d => by
    rw [show 3 * 0 + d + 3 = d + 3 by omega]
    exact JP_sum_of hT hlen (JP_part hT (fun k p u x _ _ _ hx => by cases hx)) (GD_part hT GD_no)
  | r + 1, d => by
    rw [show 3 * (r + 1) + d + 3 = (3 * r + d + 3) + 3 by omega]
    exact JP_sum_of hT hlen (JP_part hT (JP_sq hT (JP_SUMr hT hlen r d))) (GD_partq hT (by decide) (GD_SUMr hT r))
/-- with the fuel that callers give -/
theorem JP_S (hT : ∀ j, len ≤ j → T j = 256) (hlen : len ≤ 400) {r : Nat} (hr : r ≤ 8) : JP (f_X12_sumOf 100) T len ord (SUMr ord T r) := by
  have := JP_SUMr (ord := ord) hT hlen r (97 - 3 * r)
  rw [show 3 * r + (97 - 3 * r) + 3 = 100 by omega] at this
  exact this
end
