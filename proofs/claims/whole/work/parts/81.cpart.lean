/-! the class reads PARTS -/
theorem eL {t : Nat} (h : t < 2147483648) (c : Nat) (hc : c < 2147483648) : (nI t = nI c) ↔ t = c := neqI h hc
theorem lL {t : Nat} (h : t < 2147483648) (c : Nat) (hc : c < 2147483648) : (nI t < nI c) ↔ t < c := nltI h hc
theorem gL {t : Nat} (h : t < 2147483648) (c : Nat) (hc : c < 2147483648) : (nI c < nI t) ↔ c < t := nltI hc h
section
variable {M : Mem} {T : Nat → Nat} {len : Nat} {pl : Nat → Nat} {ord ay : Bool} {k p u : Nat}
def wdO (r : Nat ⊕ (Nat × Nat)) : Int32 := match r with
  | .inl _ => -1
  | .inr w => nI w.1
def wdK (r : Nat ⊕ (Nat × Nat)) : Nat := match r with
  | .inl j => j
  | .inr w => w.2
theorem b1_or (a b : Bool) : b1 a ||| b1 b = b1 (a || b) := by
  cases a <;> cases b <;> decide
theorem b1_pb (a : Bool) : pb (b1 a) := by
  cases a <;> exact ⟨rfl, rfl⟩
theorem c_lawWord (h : CP M T len pl false k p u ay) : ∃ M' ay', f_X7_lawWord M 11 = some (M', wdO (wrd false T k)) ∧ Fr Sps M M' ∧ CP M' T len pl false (wdK (wrd false T k)) p u ay' ∧ (∀ i, mI M' 17 i = mI M 17 i) ∧ (ay = true → ay' = true) ∧ (T k = 278 → ay' = true) := by
  obtain ⟨h1, h2, h3, h4, h5, h6, h7, h8, h9, h10, h11⟩ := id h
  have hb := h3 k
  have hF : Fr Sps M (wI M 15 4 (b1 (ay || decide (T k = 278)))) := Fr.rf.wI (Or.inr (Or.inl (by omega)))
  have hk : wdK (wrd false T k) = k := by
    unfold wrd
    simp only [Bool.false_eq_true, if_false]
    split <;> rfl
  refine ⟨wI M 15 4 (b1 (ay || decide (T k = 278))), (ay || decide (T k = 278)), ?_, hF, ?_, fun i => by rw [mI_wI_row (by decide)], fun e => by rw [e]; rfl, fun e => by rw [decide_eq_true e, Bool.or_true]⟩
  · unfold f_X7_lawWord
    unfold LayC at h1
    simp only [h1, grd_T, Option.bind_some, bv, h7, h10]
    have e278 : (nI (T k) = 278) ↔ T k = 278 := eL hb 278 (by decide)
    have tail : ∀ X : Mem, mI X 11 8 = nI (T k) → (if (mI X 11 8) < 272 then (some (X, (-1)) : Option (Mem × Int32)) else (if 279 < (mI X 11 8) then (some (X, (-1))) else (some (X, (mI X 11 8) - 272)))) = some (X, wdO (wrd false T k)) := by
      intro X hX
      rw [hX]
      unfold wrd
      simp only [Bool.false_eq_true, if_false]
      by_cases q1 : T k < 272
      · rw [if_pos (show nI (T k) < 272 from (lL hb 272 (by decide)).mpr q1), if_neg (by omega)]
        rfl
      · rw [if_neg (show ¬ nI (T k) < 272 from fun w => q1 ((lL hb 272 (by decide)).mp w))]
        by_cases q2 : 279 < T k
        · rw [if_pos (show (279 : Int32) < nI (T k) from (gL hb 279 (by decide)).mpr q2), if_neg (by omega)]
          rfl
        · rw [if_neg (show ¬ (279 : Int32) < nI (T k) from fun w => q2 ((gL hb 279 (by decide)).mp w)), if_pos (by omega), show (272 : Int32) = nI 272 from rfl, nsub (by omega)]
          rfl
    by_cases q : T k = 278
    · rw [if_pos (e278.mpr q), decide_eq_true q, show (1 : Int32) = b1 true from rfl, b1_or, grd_y (b1_pb _)]
      exact tail _ (by rw [mI_wI_row (by decide)]; exact h7)
    · rw [if_neg (fun w => q (e278.mp w)), decide_eq_false q, show (0 : Int32) = b1 false from rfl, b1_or, grd_y (b1_pb _)]
      exact tail _ (by rw [mI_wI_row (by decide)]; exact h7)
  · rw [hk]
    exact h.fr hF (by rw [mI_wI_row (by decide)]) (by rw [mI_wI_row (by decide)]; exact h6) (by rw [mI_wI_row (by decide)]; exact h7) (by rw [mI_wI_row (by decide)]; exact h8) (by rw [mI_wI_ne (by decide)]; exact h9) mI_wIs h11
theorem c_orderWord (hT : ∀ j, len ≤ j → T j = 256) (h : CP M T len pl true k p u ay) : ∃ M', f_X7_orderWord M 11 = some (M', wdO (wrd true T k)) ∧ Fr Sps M M' ∧ CP M' T len pl true (wdK (wrd true T k)) p u ay ∧ (∀ i, mI M' 17 i = mI M 17 i) := by
  obtain ⟨h1, h2, h3, h4, h5, h6, h7, h8, h9, h10, h11⟩ := id h
  have hb := h3 k
  have hC := h1
  unfold LayC at hC
  unfold f_X7_orderWord
  simp only [hC, grd_T, bv, h7]
  have e275 : (nI (T k) = 275) ↔ T k = 275 := eL hb 275 (by decide)
  have e276 : (nI (T k) = 276) ↔ T k = 276 := eL hb 276 (by decide)
  have e280 : (nI (T k) < 280) ↔ T k < 280 := lL hb 280 (by decide)
  have e283 : ((283 : Int32) < nI (T k)) ↔ 283 < T k := gL hb 283 (by decide)
  have htI : ∀ j, (nI (T j) - 1000).toInt = (T j : Int) - 1000 := by
    intro j
    have := h3 j
    rw [nI_ii, show (1000 : Int32) = ii 1000 from rfl, ii_sub, ii_toInt ⟨by omega, by omega⟩]
  unfold wrd
  simp only [if_true]
  by_cases q1 : 280 ≤ T k ∧ T k ≤ 283
  · rw [if_neg (fun w => by have := e280.mp w; omega), if_neg (fun w => by have := e283.mp w; omega), if_pos q1, show (0 : Int32) = nI 0 from rfl, nadd, show (280 : Int32) = nI 280 from rfl, nsub (by omega), Nat.zero_add]
    exact ⟨M, rfl, Fr.rf, h, fun i => rfl⟩
  rw [if_neg q1]
  -- the joined way
  have way : ∀ (A : Option (Mem × Int32)) (x : Int32), (if nI (T k) < 280 then A else if 283 < nI (T k) then A else some (M, x)) = A := by
    intro A x
    by_cases q : T k < 280
    · rw [if_pos (e280.mpr q)]
    · rw [if_neg (fun w => q (e280.mp w)), if_pos (e283.mpr (by omega))]
  rw [way]
  by_cases q2 : T k ≠ 275 ∧ T k ≠ 276
  · rw [if_pos q2, if_neg (fun w => q2.1 (e275.mp w)), if_neg (fun w => q2.2 (e276.mp w))]
    exact ⟨M, rfl, Fr.rf, h, fun i => rfl⟩
  rw [if_neg q2]
  have hkl : k < len := lt_of_T hT (t := T k) rfl (by omega)
  have hn := c_next hT h hkl
  have hc1 := h.nxt hkl
  have t1 : mI (NXT M T k) 11 8 = nI (T (k + 1)) := hc1.2.2.2.2.2.2.1
  have hlt0 : ∀ j, (nI (T j) - 1000 < 0) ↔ T j < 1000 := by
    intro j
    rw [Int32.lt_iff_toInt_lt, htI, tI0]
    omega
  have hlt12 : ∀ j, (nI (T j) - 1000 < 12) ↔ T j < 1012 := by
    intro j
    rw [Int32.lt_iff_toInt_lt, htI, show (12 : Int32).toInt = 12 from rfl]
    omega
  have fail1 : ∃ M', (some (NXT M T k, (-1)) : Option (Mem × Int32)) = some (M', wdO (.inl (k + 1))) ∧ Fr Sps M M' ∧ CP M' T len pl true (wdK (.inl (k + 1))) p u ay ∧ (∀ i, mI M' 17 i = mI M 17 i) := ⟨_, rfl, fr_nxt, hc1, fun i => nxt_17⟩
  by_cases q4 : T k = 275
  · rw [if_pos (e275.mpr q4), if_pos (e275.mpr q4), hn, Option.bind_some, t1, if_neg (show ¬ (1 : Int32) = 0 by decide)]
    by_cases q5 : T (k + 1) < 1000 ∨ 1012 ≤ T (k + 1)
    · rw [if_pos q5]
      by_cases q6 : T (k + 1) < 1000
      · rw [if_pos ((hlt0 _).mpr q6)]
        exact fail1
      · rw [if_neg (fun w => q6 ((hlt0 _).mp w)), if_neg (fun w => by have := (hlt12 _).mp w; omega)]
        exact fail1
    · rw [if_neg q5, if_neg (fun w => by have := (hlt0 _).mp w; omega), if_pos ((hlt12 _).mpr (by omega)), if_pos q4, show (1000 : Int32) = nI 1000 from rfl, nsub (by omega), show (4 : Int32) = nI 4 from rfl, nadd]
      exact ⟨_, rfl, fr_nxt, hc1, fun i => nxt_17⟩
  · rw [if_neg (fun w => q4 (e275.mp w)), if_pos (e276.mpr (by omega)), if_neg (fun w => q4 (e275.mp w)), hn, Option.bind_some, t1]
    by_cases q5 : T (k + 1) < 1000 ∨ 1012 ≤ T (k + 1)
    · rw [if_pos q5]
      by_cases q6 : T (k + 1) < 1000
      · rw [if_pos ((hlt0 _).mpr q6)]
        exact fail1
      · rw [if_neg (fun w => q6 ((hlt0 _).mp w)), if_neg (fun w => by have := (hlt12 _).mp w; omega)]
        exact fail1
    · have hkl2 : k + 1 < len := lt_of_T hT (t := T (k + 1)) rfl (by omega)
      have hc2 := hc1.nxt hkl2
      have t2 : mI (NXT (NXT M T k) T (k + 1)) 11 8 = nI (T (k + 2)) := hc2.2.2.2.2.2.2.1
      have hF2 : Fr Sps M (NXT (NXT M T k) T (k + 1)) := fr_nxt.tr fr_nxt
      have b2 := h3 (k + 2)
      rw [if_neg q5, if_neg (fun w => by have := (hlt0 _).mp w; omega), if_pos ((hlt12 _).mpr (by omega)), if_neg q4, c_next hT hc1 hkl2, Option.bind_some, t2, c_isThing, Option.bind_some]
      by_cases q7 : T (k + 2) < 1000 ∨ 1006 ≤ T (k + 2)
      · have nin : ¬ (0 ≤ nI (T (k + 2)) - 1000 ∧ nI (T (k + 2)) - 1000 ≤ 5) := by
          rintro ⟨w1, w2⟩
          rw [Int32.le_iff_toInt_le, htI] at w1 w2
          rw [tI0] at w1
          rw [tI5] at w2
          omega
        rw [if_pos q7, if_neg nin, if_pos rfl]
        exact ⟨_, rfl, hF2, hc2, fun i => by rw [nxt_17, nxt_17]⟩
      · have yin : 0 ≤ nI (T (k + 2)) - 1000 ∧ nI (T (k + 2)) - 1000 ≤ 5 := by
          rw [Int32.le_iff_toInt_le, Int32.le_iff_toInt_le, htI, tI0, tI5]
          omega
        rw [if_neg q7, if_pos yin, if_neg (show ¬ (1 : Int32) = 0 by decide), show (1000 : Int32) = nI 1000 from rfl, nsub (by omega), nsub (by omega), show (6 : Int32) = nI 6 from rfl, nmul, show (16 : Int32) = nI 16 from rfl, nadd, nadd]
        exact ⟨_, rfl, hF2, hc2, fun i => by rw [nxt_17, nxt_17]⟩
end
