/-! force, terms: one cell of the valley and of the kept row -/
theorem nI_inj {a b : Nat} (ha : a < 2147483648) (hb : b < 2147483648) (h : nI a = nI b) : a = b := (neqI ha hb).mp h
theorem STP.set {M M2 : Mem} (h : REL M) {j kk : Nat} {v : Int32} (hp : (j = 10 ∧ kk = 58 ∧ (v = -1 ∨ ∃ f c, f < c ∧ c ≤ 6 ∧ mI M 49 57 = nI c ∧ v = nI f)) ∨ (j = 11 ∧ kk = 54 ∧ ∃ y, y ≤ 999 ∧ v = nI y) ∨ (j = 12 ∧ kk = 55 ∧ ∃ m, m ≤ 9 ∧ v = nI m)) (hF : Fr Ssm M M2) (e49 : ∀ k, mI M2 49 k = if k = kk then v else mI M 49 k) (e1 : ∀ i, 8 ≤ i → i ≤ 12 → mI M2 1 i = if i = j then v else mI M 1 i) (e28 : ∀ a k, 2 ≤ a → a ≤ 8 → mI M2 a k = mI M a k) (o1 : mI M2 0 12 = 0) (o2 : mI M2 47 0 = 0) (o45 : ∀ k, mI M2 45 k = mI M 45 k) (o48 : ∀ k, mI M2 48 k = mI M 48 k) (hs : STM M M2) (hw : mI M2 47 1 = mI M 47 1 + 1) : STP M M2 := by
  obtain ⟨hC, hM, ⟨hK1, hK2, hK3, hK4⟩, hV, hO⟩ := h
  have hkk : 54 ≤ kk ∧ kk ≤ 58 ∧ kk ≠ 56 ∧ kk ≠ 57 := by omega
  refine ⟨⟨hC.fr hF, hM.fr hF, ⟨fun t ht => ?_, ?_, ?_, ?_⟩, ⟨fun u hu => ?_, ?_, fun n g h1 h2 h3 => ?_⟩, by rw [o1, o2], fun n hn => by rw [o45, o48]; exact hO.2 n hn⟩, hF, hs, Or.inr hw⟩
  · rw [e49, e49, e49, if_neg (by omega), if_neg (by omega), if_neg (by omega)]
    exact hK1 t ht
  · unfold KTM
    rw [e49, e49]
    rcases hp with ⟨_, e, _⟩ | ⟨_, e, q⟩ | ⟨_, e, q⟩ <;> subst e
    · rw [if_neg (by omega), if_neg (by omega)]
      exact hK2
    · rw [if_pos rfl, if_neg (by omega)]
      exact ⟨q, hK2.2⟩
    · rw [if_neg (by omega), if_pos rfl]
      exact ⟨hK2.1, q⟩
  · unfold KLW
    rw [e49, e49, if_neg (by omega)]
    rcases hp with ⟨_, e, q⟩ | ⟨_, e, q⟩ | ⟨_, e, q⟩ <;> subst e
    · rw [if_pos rfl]
      obtain ⟨c, hc, hc2, _⟩ := hK3
      refine ⟨c, hc, hc2, ?_⟩
      rcases q with q | ⟨f, c', hf, hc6, hc', hv⟩
      · exact Or.inl q
      · rw [hc2] at hc'
        have := nI_inj (by omega) (by omega) hc'
        exact Or.inr ⟨f, by omega, hv⟩
    · rw [if_neg (by omega)]
      exact hK3
    · rw [if_neg (by omega)]
      exact hK3
  · unfold KHS
    rw [e49, if_neg (by omega)]
    obtain ⟨n, a, b, c⟩ := hK4
    refine ⟨n, a, b, fun g hg => ?_⟩
    rw [e49, e49, e49, if_neg (by omega), if_neg (by omega), if_neg (by omega)]
    exact c g hg
  · rw [e28 2 u (by omega) (by omega), e28 3 u (by omega) (by omega), e28 4 u (by omega) (by omega), e49, e49, e49, if_neg (by omega), if_neg (by omega), if_neg (by omega)]
    exact hV.1 u hu
  · obtain ⟨a1, a2, a3, a4, a5⟩ := hV.2.1
    unfold CVo
    rw [e1 8 (by omega) (by omega), e1 9 (by omega) (by omega), e1 10 (by omega) (by omega), e1 11 (by omega) (by omega), e1 12 (by omega) (by omega), e49, e49, e49, e49, e49, a1, a2, a3, a4, a5]
    rcases hp with ⟨e, e2, _⟩ | ⟨e, e2, _⟩ | ⟨e, e2, _⟩ <;> subst e <;> subst e2 <;> exact ⟨rfl, rfl, rfl, rfl, rfl⟩
  · rw [e49, if_neg (by omega)] at h2
    rw [e28 5 g (by omega) (by omega), e28 6 g (by omega) (by omega), e28 7 g (by omega) (by omega), e28 8 g (by omega) (by omega), e49, e49, e49, if_neg (by omega), if_neg (by omega), if_neg (by omega)]
    exact hV.2.2 n g h1 h2 h3
def STC (M : Mem) (j : Nat) (v : Int32) : Mem := wI (TR (wI M 1 j v)) 0 12 0
def STY (M : Mem) (v : Int32) : Mem := wI (wI (wI M 1 11 v) 1 14 (mI M 1 14 + 1)) 0 12 0
def STR (M : Mem) (kk : Nat) (v : Int32) : Mem := wI (wI (wI M 49 kk v) 47 0 0) 47 1 (mI M 47 1 + 1)
theorem STP.rules {M : Mem} (h : REL M) {j kk : Nat} {v : Int32} (hp : (j = 10 ∧ kk = 58 ∧ (v = -1 ∨ ∃ f c, f < c ∧ c ≤ 6 ∧ mI M 49 57 = nI c ∧ v = nI f)) ∨ (j = 12 ∧ kk = 55 ∧ ∃ m, m ≤ 9 ∧ v = nI m)) : STP M (STR (STC M j v) kk v) := by
  have hF : Fr Ssm M (STR (STC M j v) kk v) := by
    have h1 : Fr Ssm M (STC M j v) := (((Fr.rf.wI (show Ssm 1 j by unfold Ssm; omega)).wI (show Ssm 1 13 by unfold Ssm; omega)).wI (show Ssm 1 14 by unfold Ssm; omega)).wI (show Ssm 0 12 by unfold Ssm; omega)
    exact ((h1.wI (show Ssm 49 kk by unfold Ssm; omega)).wI (show Ssm 47 0 by unfold Ssm; omega)).wI (show Ssm 47 1 by unfold Ssm; omega)
  refine STP.set h (j := j) (kk := kk) (v := v) ?_ hF (fun k => ?_) (fun i h1 h2 => ?_) (fun a k h1 h2 => ?_) ?_ ?_ (fun k => ?_) (fun k => ?_) (Or.inr (Or.inl ⟨?_, ?_⟩)) ?_
  · rcases hp with q | q
    · exact Or.inl q
    · exact Or.inr (Or.inr q)
  · unfold STR STC TR
    rw [mI_wI_row (a := 47) (by decide), mI_wI_row (a := 47) (by decide), mI_wI, mI_wI_row (a := 0) (by decide), mI_wI_row (a := 1) (by decide), mI_wI_row (a := 1) (by decide), mI_wI_row (a := 1) (by decide)]
    by_cases e : k = kk
    · rw [if_pos e, if_pos ⟨rfl, e⟩]
    · rw [if_neg e, if_neg (fun q => e q.2)]
  · unfold STR STC TR
    rw [mI_wI_row (a := 47) (by decide), mI_wI_row (a := 47) (by decide), mI_wI_row (a := 49) (by decide), mI_wI_row (a := 0) (by decide), mI_wI_ne (by omega), mI_wI_ne (by omega), mI_wI]
    by_cases e : i = j
    · rw [if_pos e, if_pos ⟨rfl, e⟩]
    · rw [if_neg e, if_neg (fun q => e q.2)]
  · unfold STR STC TR
    rw [mI_wI_row (a := 47) (by omega), mI_wI_row (a := 47) (by omega), mI_wI_row (a := 49) (by omega), mI_wI_row (a := 0) (by omega), mI_wI_row (a := 1) (by omega), mI_wI_row (a := 1) (by omega), mI_wI_row (a := 1) (by omega)]
  · unfold STR STC
    rw [mI_wI_row (a := 47) (by decide), mI_wI_row (a := 47) (by decide), mI_wI_row (a := 49) (by decide), mI_wIs]
  · unfold STR
    rw [mI_wI_ne (by decide), mI_wIs]
  · unfold STR STC TR
    rw [mI_wI_row (a := 47) (by omega), mI_wI_row (a := 47) (by omega), mI_wI_row (a := 49) (by omega), mI_wI_row (a := 0) (by omega), mI_wI_row (a := 1) (by omega), mI_wI_row (a := 1) (by omega), mI_wI_row (a := 1) (by omega)]
  · unfold STR STC TR
    rw [mI_wI_row (a := 47) (by omega), mI_wI_row (a := 47) (by omega), mI_wI_row (a := 49) (by omega), mI_wI_row (a := 0) (by omega), mI_wI_row (a := 1) (by omega), mI_wI_row (a := 1) (by omega), mI_wI_row (a := 1) (by omega)]
  · unfold STR STC TR
    rw [mI_wI_row (a := 47) (by decide), mI_wI_row (a := 47) (by decide), mI_wI_row (a := 49) (by decide), mI_wI_row (a := 0) (by decide), mI_wI_ne (by decide), mI_wIs, mI_wI_ne (by omega)]
  · unfold STR STC TR
    rw [mI_wI_row (a := 47) (by decide), mI_wI_row (a := 47) (by decide), mI_wI_row (a := 49) (by decide), mI_wI_row (a := 0) (by decide), mI_wIs, mI_wI_ne (by omega)]
  · unfold STR STC TR
    rw [mI_wIs, mI_wI_row (a := 0) (by decide), mI_wI_row (a := 1) (by decide), mI_wI_row (a := 1) (by decide), mI_wI_row (a := 1) (by decide)]
theorem STP.year {M : Mem} (h : REL M) {v : Int32} (hv : ∃ y, y ≤ 999 ∧ v = nI y) : STP M (STR (STY M v) 54 v) := by
  have hF : Fr Ssm M (STR (STY M v) 54 v) := by
    have h1 : Fr Ssm M (STY M v) := ((Fr.rf.wI (show Ssm 1 11 by unfold Ssm; omega)).wI (show Ssm 1 14 by unfold Ssm; omega)).wI (show Ssm 0 12 by unfold Ssm; omega)
    exact ((h1.wI (show Ssm 49 54 by unfold Ssm; omega)).wI (show Ssm 47 0 by unfold Ssm; omega)).wI (show Ssm 47 1 by unfold Ssm; omega)
  have e49 : ∀ k, mI (STR (STY M v) 54 v) 49 k = if k = 54 then v else mI M 49 k := fun k => by
    unfold STR STY
    rw [mI_wI_row (a := 47) (by decide), mI_wI_row (a := 47) (by decide), mI_wI, mI_wI_row (a := 0) (by decide), mI_wI_row (a := 1) (by decide), mI_wI_row (a := 1) (by decide)]
    by_cases e : k = 54
    · rw [if_pos e, if_pos ⟨rfl, e⟩]
    · rw [if_neg e, if_neg (fun q => e q.2)]
  refine STP.set h (j := 11) (kk := 54) (v := v) (Or.inr (Or.inl ⟨rfl, rfl, hv⟩)) hF e49 (fun i h1 h2 => ?_) (fun a k h1 h2 => ?_) ?_ ?_ (fun k => ?_) (fun k => ?_) (Or.inr (Or.inr ⟨?_, ?_, fun k hk => ?_⟩)) ?_
  · unfold STR STY
    rw [mI_wI_row (a := 47) (by decide), mI_wI_row (a := 47) (by decide), mI_wI_row (a := 49) (by decide), mI_wI_row (a := 0) (by decide), mI_wI_ne (by omega), mI_wI]
    by_cases e : i = 11
    · rw [if_pos e, if_pos ⟨rfl, e⟩]
    · rw [if_neg e, if_neg (fun q => e q.2)]
  · unfold STR STY
    rw [mI_wI_row (a := 47) (by omega), mI_wI_row (a := 47) (by omega), mI_wI_row (a := 49) (by omega), mI_wI_row (a := 0) (by omega), mI_wI_row (a := 1) (by omega), mI_wI_row (a := 1) (by omega)]
  · unfold STR STY
    rw [mI_wI_row (a := 47) (by decide), mI_wI_row (a := 47) (by decide), mI_wI_row (a := 49) (by decide), mI_wIs]
  · unfold STR
    rw [mI_wI_ne (by decide), mI_wIs]
  · unfold STR STY
    rw [mI_wI_row (a := 47) (by omega), mI_wI_row (a := 47) (by omega), mI_wI_row (a := 49) (by omega), mI_wI_row (a := 0) (by omega), mI_wI_row (a := 1) (by omega), mI_wI_row (a := 1) (by omega)]
  · unfold STR STY
    rw [mI_wI_row (a := 47) (by omega), mI_wI_row (a := 47) (by omega), mI_wI_row (a := 49) (by omega), mI_wI_row (a := 0) (by omega), mI_wI_row (a := 1) (by omega), mI_wI_row (a := 1) (by omega)]
  · unfold STR STY
    rw [mI_wI_row (a := 47) (by decide), mI_wI_row (a := 47) (by decide), mI_wI_row (a := 49) (by decide), mI_wI_row (a := 0) (by decide), mI_wI_ne (by decide), mI_wI_ne (by decide)]
  · unfold STR STY
    rw [mI_wI_row (a := 47) (by decide), mI_wI_row (a := 47) (by decide), mI_wI_row (a := 49) (by decide), mI_wI_row (a := 0) (by decide), mI_wIs]
  · rw [e49, if_neg (by omega)]
  · unfold STR STY
    rw [mI_wIs, mI_wI_row (a := 0) (by decide), mI_wI_row (a := 1) (by decide), mI_wI_row (a := 1) (by decide)]
