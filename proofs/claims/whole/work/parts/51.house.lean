/-! a house more, on both sides -/
theorem num_rank {l l2 : List Nat} (hl : DL l) (hl2 : DL l2) (e : nI (num l) = nI (num l2)) : nI (rank l) = nI (rank l2) ∧ nI (tst l) = nI (tst l2) := by
  have h1 := p_rank_y hl
  rw [e, p_rank_y hl2] at h1
  have h2 : nI (rank l) = nI (rank l2) := (Option.some.inj h1).symm
  have h3 := p_tasteOf hl
  rw [h2, p_tasteOf hl2] at h3
  exact ⟨h2, (Option.some.inj h3).symm⟩
def HM1 (M : Mem) (n : Nat) (p1 p2 : Int32) (l : List Nat) : Mem := wI (ADDC M n p1 p2 (nI (rank l)) (nI (tst l))) 0 12 0
def HM2 (M : Mem) (n : Nat) (p1 p2 : Int32) (l : List Nat) : Mem := wI (wI (ADDM M n p1 p2 (nI (num l))) 47 0 0) 47 1 (mI M 47 1 + 1)
theorem STP.add {M : Mem} (h : REL M) {n : Nat} (hn : n < 12) (h56 : mI M 49 56 = nI n) {p1 : Int32} {y : Nat} {l : List Nat} (hp : p1 = -1 ∨ ∃ m, m < n ∧ p1 = nI m) (hy : y ≤ 999) (hl : DL l) : STP M (HM2 (HM1 M n p1 (nI y) l) n p1 (nI y) l) := by
  obtain ⟨hC, hM, hK, hV, hO⟩ := h
  have hF1 : Fr Ssm M (HM1 M n p1 (nI y) l) := ((((((Fr.rf.wI (show Ssm 5 n by unfold Ssm; omega)).wI (show Ssm 6 n by unfold Ssm; omega)).wI (show Ssm 7 n by unfold Ssm; omega)).wI (show Ssm 8 n by unfold Ssm; omega)).wI (show Ssm 1 14 by unfold Ssm; omega)).wI (show Ssm 1 8 by unfold Ssm; omega)).wI (show Ssm 0 12 by unfold Ssm; omega)
  have hF : Fr Ssm M (HM2 (HM1 M n p1 (nI y) l) n p1 (nI y) l) := (((((hF1.wI (show Ssm 49 (18 + 3 * n) by unfold Ssm; omega)).wI (show Ssm 49 (18 + 3 * n + 1) by unfold Ssm; omega)).wI (show Ssm 49 (18 + 3 * n + 2) by unfold Ssm; omega)).wI (show Ssm 49 56 by unfold Ssm; omega)).wI (show Ssm 47 0 by unfold Ssm; omega)).wI (show Ssm 47 1 by unfold Ssm; omega)
  have a49 : mI (HM1 M n p1 (nI y) l) 49 = mI M 49 := by
    unfold HM1 ADDC
    rw [mI_wI_row (by decide), mI_wI_row (by decide), mI_wI_row (by decide), mI_wI_row (by decide), mI_wI_row (by decide), mI_wI_row (by decide), mI_wI_row (by decide)]
  have e49 : mI (HM2 (HM1 M n p1 (nI y) l) n p1 (nI y) l) 49 = KADD (mI M 49) n p1 (nI y) (nI (num l)) := by
    unfold HM2
    rw [mI_wI_row (by decide), mI_wI_row (by decide)]
    funext k
    rw [addm_49, a49]
  have low : ∀ a k, a ≠ 47 → a ≠ 49 → mI (HM2 (HM1 M n p1 (nI y) l) n p1 (nI y) l) a k = mI (HM1 M n p1 (nI y) l) a k := fun a k h1 h2 => by
    unfold HM2 ADDM
    rw [mI_wI_row h1, mI_wI_row h1, mI_wI_row h2, mI_wI_row h2, mI_wI_row h2, mI_wI_row h2]
  have o2 : mI (HM2 (HM1 M n p1 (nI y) l) n p1 (nI y) l) 47 0 = 0 := by
    unfold HM2
    rw [mI_wI_ne (by decide), mI_wIs]
  have c12 : mI (HM1 M n p1 (nI y) l) 0 12 = 0 := mI_wIs
  have c8 : mI (HM1 M n p1 (nI y) l) 1 8 = nI (n + 1) := by
    unfold HM1 ADDC
    rw [mI_wI_row (by decide), mI_wIs]
  have c14 : mI (HM1 M n p1 (nI y) l) 1 14 = mI M 1 14 + 1 := by
    unfold HM1 ADDC
    rw [mI_wI_row (by decide), mI_wI_ne (by decide), mI_wIs]
  have c1 : ∀ k, k ≠ 8 → k ≠ 14 → mI (HM1 M n p1 (nI y) l) 1 k = mI M 1 k := fun k h1 h2 => by
    unfold HM1 ADDC
    rw [mI_wI_row (a := 0) (by decide), mI_wI_ne h1, mI_wI_ne h2, mI_wI_row (by decide), mI_wI_row (by decide), mI_wI_row (by decide), mI_wI_row (by decide)]
  have co : ∀ a k, a ≠ 0 → a ≠ 1 → a < 5 ∨ 8 < a → mI (HM1 M n p1 (nI y) l) a k = mI M a k := fun a k h0 h1 h2 => by
    unfold HM1 ADDC
    rw [mI_wI_row h0, mI_wI_row h1, mI_wI_row h1, mI_wI_row (by omega), mI_wI_row (by omega), mI_wI_row (by omega), mI_wI_row (by omega)]
  have c5 : ∀ k, mI (HM1 M n p1 (nI y) l) 5 k = if k = n then p1 else mI M 5 k := fun k => by
    unfold HM1 ADDC
    rw [mI_wI_row (by decide), mI_wI_row (by decide), mI_wI_row (by decide), mI_wI_row (by decide), mI_wI_row (by decide), mI_wI_row (by decide)]
    by_cases e : k = n
    · rw [e, mI_wIs, if_pos rfl]
    · rw [mI_wI_ne e, if_neg e]
  have c6 : ∀ k, mI (HM1 M n p1 (nI y) l) 6 k = if k = n then nI y else mI M 6 k := fun k => by
    unfold HM1 ADDC
    rw [mI_wI_row (by decide), mI_wI_row (by decide), mI_wI_row (by decide), mI_wI_row (by decide), mI_wI_row (by decide)]
    by_cases e : k = n
    · rw [e, mI_wIs, if_pos rfl]
    · rw [mI_wI_ne e, if_neg e, mI_wI_row (by decide)]
  have c7 : ∀ k, mI (HM1 M n p1 (nI y) l) 7 k = if k = n then nI (rank l) else mI M 7 k := fun k => by
    unfold HM1 ADDC
    rw [mI_wI_row (by decide), mI_wI_row (by decide), mI_wI_row (by decide), mI_wI_row (by decide)]
    by_cases e : k = n
    · rw [e, mI_wIs, if_pos rfl]
    · rw [mI_wI_ne e, if_neg e, mI_wI_row (by decide), mI_wI_row (by decide)]
  have c8r : ∀ k, mI (HM1 M n p1 (nI y) l) 8 k = if k = n then nI (tst l) else mI M 8 k := fun k => by
    unfold HM1 ADDC
    rw [mI_wI_row (by decide), mI_wI_row (by decide), mI_wI_row (by decide)]
    by_cases e : k = n
    · rw [e, mI_wIs, if_pos rfl]
    · rw [mI_wI_ne e, if_neg e, mI_wI_row (by decide), mI_wI_row (by decide), mI_wI_row (by decide)]
  have vv : mI (HM2 (HM1 M n p1 (nI y) l) n p1 (nI y) l) 47 1 = mI M 47 1 + 1 := by
    rw [← co 47 1 (by decide) (by decide) (by omega)]
    exact mI_wIs
  generalize HM2 (HM1 M n p1 (nI y) l) n p1 (nI y) l = M2 at *
  generalize HM1 M n p1 (nI y) l = M1 at *
  refine ⟨⟨hC.fr hF, hM.fr hF, by rw [e49]; exact hK.add hn h56 hp hy hl, ?_, ?_, fun m hm => ?_⟩, hF, Or.inr (Or.inr ⟨?_, ?_, fun k hk => ?_⟩), Or.inr vv⟩
  · rw [e49]
    refine ⟨fun u hu => ?_, ?_, fun n' g h1 h2 h3 => ?_⟩
    · rw [low 2 u (by decide) (by decide), low 3 u (by decide) (by decide), low 4 u (by decide) (by decide), co 2 u (by decide) (by decide) (by omega), co 3 u (by decide) (by decide) (by omega), co 4 u (by decide) (by decide) (by omega), KADD_old (by omega) (by omega), KADD_old (by omega) (by omega), KADD_old (by omega) (by omega)]
      exact hV.1 u hu
    · obtain ⟨a1, a2, a3, a4, a5⟩ := hV.2.1
      unfold CVo
      rw [low 1 8 (by decide) (by decide), low 1 9 (by decide) (by decide), low 1 10 (by decide) (by decide), low 1 11 (by decide) (by decide), low 1 12 (by decide) (by decide), c8, c1 9 (by decide) (by decide), c1 10 (by decide) (by decide), c1 11 (by decide) (by decide), c1 12 (by decide) (by decide), KADD_56, KADD_old (by omega) (by omega), KADD_old (by omega) (by omega), KADD_old (by omega) (by omega), KADD_old (by omega) (by omega)]
      exact ⟨rfl, a2, a3, a4, a5⟩
    · rw [KADD_56] at h2
      have hnn : n + 1 = n' := nI_inj (by omega) (by omega) h2
      rw [low 5 g (by decide) (by decide), low 6 g (by decide) (by decide), low 7 g (by decide) (by decide), low 8 g (by decide) (by decide), c5, c6, c7, c8r]
      by_cases e : g = n
      · subst e
        rw [if_pos rfl, if_pos rfl, if_pos rfl, if_pos rfl, KADD_0 hn, KADD_1 hn, KADD_2 hn]
        exact ⟨rfl, rfl, fun l2 hl2 q => num_rank hl hl2 q⟩
      · rw [if_neg e, if_neg e, if_neg e, if_neg e, KADD_old (by omega) (by omega), KADD_old (by omega) (by omega), KADD_old (by omega) (by omega)]
        exact hV.2.2 n g (by omega) h56 (by omega)
  · rw [o2, low 0 12 (by decide) (by decide), c12]
  · rw [low 45 _ (by decide) (by decide), low 48 _ (by decide) (by decide), co 45 _ (by decide) (by decide) (by omega), co 48 _ (by decide) (by decide) (by omega)]
    exact hO.2 m hm
  · rw [low 1 13 (by decide) (by decide), c1 13 (by decide) (by decide)]
  · rw [low 1 14 (by decide) (by decide), c14]
  · rw [e49, KADD_old (by omega) (by omega)]
