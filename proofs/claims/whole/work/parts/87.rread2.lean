/-! the reference reads PARTS -/
section
variable {T : Nat → Nat} {len : Nat} {pl : Nat → Nat} {ord : Bool}
theorem r_isValue {M : Mem} {k p : Nat} (h : RPS M T len pl ord k p) : f_X12_isValue M 47 (nI (rc (T k))) = some (b1 (if ord then decide (T k = 275 ∨ T k = 276 ∨ (280 ≤ T k ∧ T k ≤ 283)) else decide (272 ≤ T k ∧ T k ≤ 279))) := by
  obtain ⟨g1, g2, g3, g4, g5, g6, g7, g8, g9, g10⟩ := id h
  have hM := g1
  have hr := rc_le (T k)
  unfold LayM at hM
  unfold f_X12_isValue
  simp only [hM, grd_T, g5]
  have w7 : (7 ≤ rc (T k) ∧ rc (T k) ≤ 14) ↔ (272 ≤ T k ∧ T k ≤ 279) := by
    rcases g4 k with w | w
    · have key : ∀ t, t < 284 → ((7 ≤ rc t ∧ rc t ≤ 14) ↔ (272 ≤ t ∧ t ≤ 279)) := by decide +kernel
      exact key _ w
    · have := rc_num.mpr (show 284 ≤ T k by omega)
      omega
  have w15 : (15 ≤ rc (T k) ∧ rc (T k) ≤ 18) ↔ (280 ≤ T k ∧ T k ≤ 283) := by
    rcases g4 k with w | w
    · have key : ∀ t, t < 284 → ((15 ≤ rc t ∧ rc t ≤ 18) ↔ (280 ≤ t ∧ t ≤ 283)) := by decide +kernel
      exact key _ w
    · have := rc_num.mpr (show 284 ≤ T k by omega)
      omega
  have w10 : rc (T k) = 10 ↔ T k = 275 := by rw [← rc_275]; exact rc_word (by omega)
  have w11 : rc (T k) = 11 ↔ T k = 276 := by rw [← rc_276]; exact rc_word (by omega)
  have lies_b : ∀ (lo hi : Nat), lo < 400 → hi < 400 → f_X12_lies (nI (rc (T k))) (nI lo) (nI hi) = some (b1 (decide (lo ≤ rc (T k) ∧ rc (T k) ≤ hi))) := by
    intro lo hi h1 h2
    rw [p_lies]
    by_cases q : lo ≤ rc (T k) ∧ rc (T k) ≤ hi
    · rw [if_pos ⟨(nleI (by omega) (by omega)).mpr q.1, (nleI (by omega) (by omega)).mpr q.2⟩, decide_eq_true q]
      rfl
    · rw [if_neg (fun w => q ⟨(nleI (by omega) (by omega)).mp w.1, (nleI (by omega) (by omega)).mp w.2⟩), decide_eq_false q]
      rfl
  cases ord with
  | false =>
    rw [if_pos (show b1 false = 0 from rfl), show (7 : Int32) = nI 7 from rfl, show (14 : Int32) = nI 14 from rfl, lies_b 7 14 (by omega) (by omega), Option.bind_some, grd_y (b1_bl _)]
    simp only [w7, Bool.false_eq_true, if_false]
  | true =>
    rw [if_neg (show ¬ b1 true = 0 by decide)]
    simp only [if_true]
    by_cases q1 : T k = 275
    · rw [if_pos (show nI (rc (T k)) = 10 from by rw [w10.mpr q1]; rfl), decide_eq_true (Or.inl q1)]
      rfl
    rw [if_neg (show ¬ nI (rc (T k)) = 10 from fun w => q1 (w10.mp ((eL (by omega) 10 (by decide)).mp w)))]
    by_cases q2 : T k = 276
    · rw [if_pos (show nI (rc (T k)) = 11 from by rw [w11.mpr q2]; rfl), decide_eq_true (Or.inr (Or.inl q2))]
      rfl
    rw [if_neg (show ¬ nI (rc (T k)) = 11 from fun w => q2 (w11.mp ((eL (by omega) 11 (by decide)).mp w))), show (15 : Int32) = nI 15 from rfl, show (18 : Int32) = nI 18 from rfl, lies_b 15 18 (by omega) (by omega), Option.bind_some]
    by_cases q3 : 280 ≤ T k ∧ T k ≤ 283
    · rw [decide_eq_true (w15.mpr q3), if_neg (show ¬ b1 true = 0 by decide), decide_eq_true (Or.inr (Or.inr q3))]
      rfl
    · rw [decide_eq_false (fun w => q3 (w15.mp w)), if_pos (show b1 false = 0 from rfl), decide_eq_false (by omega)]
      rfl
theorem r_leaf_y {M : Mem} {k p : Nat} (h : RPS M T len pl ord k p) (hp : p < 50) (hk : k < len) : ∃ M', f_X12_leaf M 47 = some M' ∧ Fr Srp M M' ∧ RPS M' T len pl ord (k + 1) (p + 1) := by
  obtain ⟨g1, g2, g3, g4, g5, g6, g7, g8, g9, g10⟩ := id h
  have hM := g1
  unfold LayM at hM
  unfold f_X12_leaf
  simp only [hM, grd_T, g7, bv, nsucc]
  have hF : Fr Srp M (wI M 47 24 (nI (p + 1))) := Fr.rf.wI ⟨rfl, Or.inr (Or.inl rfl)⟩
  have h1 : RPS (wI M 47 24 (nI (p + 1))) T len pl ord k (p + 1) := h.fr hF (by rw [mI_wI_ne (by decide)]; exact g6) mI_wIs (by rw [mI_wI_ne (by decide)]; exact g8) g9 (by omega)
  rw [if_neg (show ¬ nI p = 50 from fun w => by have := (eL (t := p) (by omega) 50 (by decide)).mp w; omega), r_fine_y h1, Option.bind_some, if_neg (show ¬ (1 : Int32) = 0 by decide), mI_wI_ne (by decide), g6, nsucc]
  exact ⟨_, rfl, hF.tr fr_adv, h1.adv hk⟩
theorem r_leaf_50 {M : Mem} {k : Nat} (h : RPS M T len pl ord k 50) : ∃ M', f_X12_leaf M 47 = some M' ∧ RPQ M T len pl ord (.inl k) M' ∧ BAD M' ∧ ∀ a k, ¬ Srp a k → mI M' a k = mI M a k := by
  obtain ⟨g1, g2, g3, g4, g5, g6, g7, g8, g9, g10⟩ := id h
  have hM := g1
  unfold LayM at hM
  unfold f_X12_leaf
  simp only [hM, grd_T, g7, bv]
  rw [if_pos (show nI 50 = 50 from rfl), r_faults_y h, Option.bind_some]
  have hb := bad_flt h
  have hF : Fr Srp M (wI (FLT M pl k) 47 24 (mI (FLT M pl k) 47 24 + 1)) := ((RPQ_flt h (M0 := M) Fr.rf).1).wI ⟨rfl, Or.inr (Or.inl rfl)⟩
  have e25 : mI (wI (FLT M pl k) 47 24 (mI (FLT M pl k) 47 24 + 1)) 47 25 = nI (pl k) := by
    rw [mI_wI_ne (by decide)]
    exact mI_wIs
  have hq : RPQ M T len pl ord (.inl k) (wI (FLT M pl k) 47 24 (mI (FLT M pl k) 47 24 + 1)) := ⟨hF, e25, (g3 k g9).2.2.1⟩
  rw [r_fine_n (hq.bad g1), Option.bind_some, if_pos rfl]
  exact ⟨_, rfl, hq, hq.bad g1, fun a k hn => hF.i hn⟩
theorem RP_part (hT : ∀ j, len ≤ j → T j = 256) {d dep : Nat} {sq : PF3} (hs : ∀ M k p u, RPS M T len pl ord k p → p ≤ 50 → T k = 91 → TT (bv (fun (s56 : Mem) => Option.bind (f_X12_fine s56 47) (fun q60 => if q60 = 0 then (some s56) else (bv (wI s56 47 23 ((mI s56 47 23) + 1)) (fun M63 => Option.bind (f_X12_readSum d M63 47 (nI dep + 1)) (fun q67 => Option.bind (f_X12_must q67 47 (100 + 93)) (fun q75 => some q75)))))) (fun j55 => if nI dep = 8 then (Option.bind (f_X12_faults M 47) (fun q80 => j55 q80)) else (j55 M))) (RPQ M T len pl ord (sq k p u))) : RP (f_X12_readPart (d + 1)) dep T len pl ord (pPart ord T sq) := by
  refine ⟨fun M k p u h hp => ?_, fun M h => ?_⟩
  · obtain ⟨g1, g2, g3, g4, g5, g6, g7, g8, g9, g10⟩ := id h
    have hM := g1
    have hr := rc_le (T k)
    show TT (b_X12_readPart (f_X12_readSum d) M 47 (nI dep)) _
    unfold LayM at hM
    unfold b_X12_readPart f_X12_sign
    rw [r_fine_y h]
    simp only [hM, grd_T, Option.bind_some, g6]
    rw [if_neg (show ¬ (1 : Int32) = 0 by decide), grd_y ((nvp (by omega)).mpr (by omega)), nclampI (by omega), (g3 k g9).1, TT_bv]
    have c91 : (nI (rc (T k)) = 100 + 91) ↔ T k = 91 := sg 91 (by decide)
    unfold pPart
    by_cases q1 : T k = 91
    · rw [if_pos (c91.mpr q1), if_pos q1]
      exact hs M k p u h hp q1
    rw [if_neg (fun w => q1 (c91.mp w)), if_neg q1]
    simp only [bv]
    rw [r_isValue h, Option.bind_some, r_faults_y h, Option.bind_some, grd_y ((nvp (by omega)).mpr (by omega))]
    have c50 : (nI (rc (T k)) = 50) ↔ 1000 ≤ T k := by
      constructor
      · intro w
        have := rc_num.mp ((eL (by omega) 50 (by decide)).mp w)
        rcases g4 k with w2 | w2 <;> omega
      · intro w
        rw [rc_num.mpr (by omega)]
        rfl
    have c10 : (nI (rc (T k)) = 10) ↔ T k = 275 := (eL (by omega) 10 (by decide)).trans (by rw [← rc_275]; exact rc_word (by omega))
    have c11 : (nI (rc (T k)) = 11) ↔ T k = 276 := (eL (by omega) 11 (by decide)).trans (by rw [← rc_276]; exact rc_word (by omega))
    have flt := RPQ_flt h (M0 := M) Fr.rf
    -- a leaf, and what follows it
    have leafy : k < len → ∀ r : PR, (50 ≤ p → r = .inl k) → (p < 50 → ∀ M1, Fr Srp M M1 → RPS M1 T len pl ord (k + 1) (p + 1) → TT (if mI M1 47 14 = 0 then (if mI M1 47 14 = 0 then some M1 else if nI (rc (T k)) = 11 then (Option.bind (f_X12_mustNumber M1 47 0 5) (fun q26 => some q26)) else some M1) else (if nI (rc (T k)) = 10 then (Option.bind (f_X12_mustNumber M1 47 0 11) (fun q35 => if mI q35 47 14 = 0 then some q35 else if nI (rc (T k)) = 11 then (Option.bind (f_X12_mustNumber q35 47 0 5) (fun q26 => some q26)) else some q35)) else if nI (rc (T k)) = 11 then (Option.bind (f_X12_mustNumber M1 47 0 11) (fun q35 => if mI q35 47 14 = 0 then some q35 else if nI (rc (T k)) = 11 then (Option.bind (f_X12_mustNumber q35 47 0 5) (fun q26 => some q26)) else some q35)) else (if mI M1 47 14 = 0 then some M1 else if nI (rc (T k)) = 11 then (Option.bind (f_X12_mustNumber M1 47 0 5) (fun q26 => some q26)) else some M1))) (RPQ M T len pl ord r)) → TT (Option.bind (f_X12_leaf M 47) (fun q16 => if mI q16 47 14 = 0 then (if mI q16 47 14 = 0 then some q16 else if nI (rc (T k)) = 11 then (Option.bind (f_X12_mustNumber q16 47 0 5) (fun q26 => some q26)) else some q16) else (if nI (rc (T k)) = 10 then (Option.bind (f_X12_mustNumber q16 47 0 11) (fun q35 => if mI q35 47 14 = 0 then some q35 else if nI (rc (T k)) = 11 then (Option.bind (f_X12_mustNumber q35 47 0 5) (fun q26 => some q26)) else some q35)) else if nI (rc (T k)) = 11 then (Option.bind (f_X12_mustNumber q16 47 0 11) (fun q35 => if mI q35 47 14 = 0 then some q35 else if nI (rc (T k)) = 11 then (Option.bind (f_X12_mustNumber q35 47 0 5) (fun q26 => some q26)) else some q35)) else (if mI q16 47 14 = 0 then some q16 else if nI (rc (T k)) = 11 then (Option.bind (f_X12_mustNumber q16 47 0 5) (fun q26 => some q26)) else some q16)))) (RPQ M T len pl ord r) := by
      intro hk r hr1 hr2
      rcases Nat.lt_or_ge p 50 with q | q
      · obtain ⟨M1, e1, e2, e3⟩ := r_leaf_y h q hk
        rw [e1, Option.bind_some]
        exact hr2 q M1 e2 e3
      · obtain rfl : p = 50 := by omega
        obtain ⟨M1, e1, e2, e3, e4⟩ := r_leaf_50 h
        rw [e1, Option.bind_some, hr1 q, r_mnum_n e3, r_mnum_n e3]
        simp only [Option.bind_some, r_mnum_n e3, ite_self]
        rw [TT_some]
        exact e2
    by_cases q3 : 2000 < T k
    · -- too large a number
      obtain ⟨v, v1, v2, v3, v4⟩ := (g3 k g9).2.2.2 (by omega)
      rw [if_pos (Or.inr q3), if_pos (c50.mpr (by omega)), v2, if_neg (show ¬ nI v ≤ 1000 from fun w => by have := (nleI (b := 1000) v1 (by decide)).mp w; have := v4 q3; omega)]
      have e : (if ord = true then decide (T k = 275 ∨ T k = 276 ∨ 280 ≤ T k ∧ T k ≤ 283) else decide (272 ≤ T k ∧ T k ≤ 279)) = false := by
        cases ord <;> simp <;> omega
      rw [e, if_pos (show b1 false = 0 from rfl), TT_some]
      exact flt
    by_cases q4 : 1000 ≤ T k
    · have hkl : k < len := lt_of_T hT (t := T k) rfl (by omega)
      obtain ⟨v, v1, v2, v3, v4⟩ := (g3 k g9).2.2.2 q4
      rw [if_pos (c50.mpr q4), v2, if_pos (show nI v ≤ 1000 from (nleI (b := 1000) v1 (by decide)).mpr (by have := v3 (by omega); omega))]
      refine leafy hkl _ (fun w => by rw [if_pos (Or.inl w)]) (fun w M1 e1 e2 => ?_)
      rw [if_neg (show ¬ (50 ≤ p ∨ 2000 < T k) by omega), if_pos q4]
      have n10 : ¬ nI (rc (T k)) = 10 := fun w => by have := c10.mp w; omega
      have n11 : ¬ nI (rc (T k)) = 11 := fun w => by have := c11.mp w; omega
      simp only [n10, n11, if_false, ite_self]
      rw [TT_some]
      exact ⟨e1, e2⟩
    have n50 : ¬ nI (rc (T k)) = 50 := fun w => q4 (c50.mp w)
    rw [if_neg n50]
    have key : ∀ r : PR, r = (if 50 ≤ p ∨ 2000 < T k then .inl k else if 1000 ≤ T k then .inr (k + 1, p + 1, [16 * (T k - 1000) + 1]) else match wrd ord T k with
        | .inl j => .inl j
        | .inr w => .inr (w.2 + 1, p + 1, [16 * w.1 + 2])) → (50 ≤ p → r = .inl k) ∧ (p < 50 → r = match wrd ord T k with
        | .inl j => .inl j
        | .inr w => .inr (w.2 + 1, p + 1, [16 * w.1 + 2])) := by
      rintro r rfl
      refine ⟨fun w => by rw [if_pos (Or.inl w)], fun w => by rw [if_neg (by omega), if_neg q4]⟩
    obtain ⟨k1, k2⟩ := key _ rfl
    generalize (if 50 ≤ p ∨ 2000 < T k then (.inl k : PR) else if 1000 ≤ T k then .inr (k + 1, p + 1, [16 * (T k - 1000) + 1]) else match wrd ord T k with
        | .inl j => .inl j
        | .inr w => .inr (w.2 + 1, p + 1, [16 * w.1 + 2])) = r at k1 k2 ⊢
    cases ord with
    | false =>
      simp only [Bool.false_eq_true, if_false]
      by_cases q5 : 272 ≤ T k ∧ T k ≤ 279
      · have hkl : k < len := lt_of_T hT (t := T k) rfl (by omega)
        rw [decide_eq_true q5, if_neg (show ¬ b1 true = 0 by decide)]
        refine leafy hkl _ k1 (fun w M1 e1 e2 => ?_)
        have g14 : mI M1 47 14 = 0 := e2.2.2.2.2.1
        rw [if_pos g14, if_pos g14, TT_some, k2 w]
        unfold wrd
        simp only [Bool.false_eq_true, if_false]
        rw [if_pos q5]
        exact ⟨e1, e2⟩
      · rw [decide_eq_false q5, if_pos (show b1 false = 0 from rfl), TT_some]
        have : r = .inl k := by
          rcases Nat.lt_or_ge p 50 with w | w
          · rw [k2 w]
            unfold wrd
            simp only [Bool.false_eq_true, if_false]
            rw [if_neg q5]
          · exact k1 w
        rw [this]
        exact flt
    | true =>
      simp only [if_true]
      by_cases q5 : T k = 275 ∨ T k = 276 ∨ (280 ≤ T k ∧ T k ≤ 283)
      · have hkl : k < len := lt_of_T hT (t := T k) rfl (by omega)
        rw [decide_eq_true q5, if_neg (show ¬ b1 true = 0 by decide)]
        refine leafy hkl _ k1 (fun w M1 e1 e2 => ?_)
        have g14 : ¬ mI M1 47 14 = 0 := by
          rw [show mI M1 47 14 = b1 true from e2.2.2.2.2.1]
          decide
        rw [if_neg g14, if_neg g14, k2 w]
        unfold wrd
        simp only [if_true]
        by_cases q6 : 280 ≤ T k ∧ T k ≤ 283
        · have n10 : ¬ nI (rc (T k)) = 10 := fun w => by have := c10.mp w; omega
          have n11 : ¬ nI (rc (T k)) = 11 := fun w => by have := c11.mp w; omega
          rw [if_pos q6]
          simp only [n10, n11, if_false]
          rw [TT_some]
          exact ⟨e1, e2⟩
        rw [if_neg q6, if_neg (show ¬ (T k ≠ 275 ∧ T k ≠ 276) by omega)]
        have flt1 := RPQ_flt e2 e1
        have bad1 := bad_flt e2
        have m1 : f_X12_mustNumber M1 47 0 11 = some (if 1000 + 0 ≤ T (k + 1) ∧ T (k + 1) ≤ 1000 + 11 then ADV M1 (k + 1) else FLT M1 pl (k + 1)) := r_mnum_y e2 (lo := 0) (hi := 11) (by omega) (by omega)
        by_cases q7 : T k = 275
        · have n11 : ¬ nI (rc (T k)) = 11 := fun w => by have := c11.mp w; omega
          rw [if_pos (c10.mpr q7), m1, Option.bind_some]
          simp only [n11, if_false, ite_self]
          rw [TT_some]
          by_cases q8 : T (k + 1) < 1000 ∨ 1012 ≤ T (k + 1)
          · rw [if_pos q8, if_neg (show ¬ (1000 + 0 ≤ T (k + 1) ∧ T (k + 1) ≤ 1000 + 11) by omega)]
            exact flt1
          · have hkl2 : k + 1 < len := lt_of_T hT (t := T (k + 1)) rfl (by omega)
            rw [if_neg q8, if_pos q7, if_pos (show 1000 + 0 ≤ T (k + 1) ∧ T (k + 1) ≤ 1000 + 11 by omega)]
            exact ⟨e1.tr fr_adv, e2.adv hkl2⟩
        · have h276 : T k = 276 := by omega
          rw [if_neg (fun w => q7 (c10.mp w)), if_pos (c11.mpr h276), m1, Option.bind_some, if_pos (c11.mpr h276)]
          by_cases q8 : T (k + 1) < 1000 ∨ 1012 ≤ T (k + 1)
          · rw [if_pos q8, if_neg (show ¬ (1000 + 0 ≤ T (k + 1) ∧ T (k + 1) ≤ 1000 + 11) by omega), r_mnum_n bad1, Option.bind_some, ite_self, TT_some]
            exact flt1
          · have hkl2 : k + 1 < len := lt_of_T hT (t := T (k + 1)) rfl (by omega)
            have e3 := e2.adv hkl2
            have m2 : f_X12_mustNumber (ADV M1 (k + 1)) 47 0 5 = some (if 1000 + 0 ≤ T (k + 2) ∧ T (k + 2) ≤ 1000 + 5 then ADV (ADV M1 (k + 1)) (k + 2) else FLT (ADV M1 (k + 1)) pl (k + 2)) := r_mnum_y e3 (lo := 0) (hi := 5) (by omega) (by omega)
            have g14' : ¬ mI (ADV M1 (k + 1)) 47 14 = 0 := by
              rw [show mI (ADV M1 (k + 1)) 47 14 = b1 true from e3.2.2.2.2.1]
              decide
            rw [if_neg q8, if_pos (show 1000 + 0 ≤ T (k + 1) ∧ T (k + 1) ≤ 1000 + 11 by omega), if_neg g14', m2, Option.bind_some, if_neg q7, TT_some]
            by_cases q9 : T (k + 2) < 1000 ∨ 1006 ≤ T (k + 2)
            · rw [if_pos q9, if_neg (show ¬ (1000 + 0 ≤ T (k + 2) ∧ T (k + 2) ≤ 1000 + 5) by omega)]
              exact RPQ_flt e3 (e1.tr fr_adv)
            · have hkl3 : k + 2 < len := lt_of_T hT (t := T (k + 2)) rfl (by omega)
              rw [if_neg q9, if_pos (show 1000 + 0 ≤ T (k + 2) ∧ T (k + 2) ≤ 1000 + 5 by omega)]
              exact ⟨(e1.tr fr_adv).tr fr_adv, e3.adv hkl3⟩
      · rw [decide_eq_false q5, if_pos (show b1 false = 0 from rfl), TT_some]
        have : r = .inl k := by
          rcases Nat.lt_or_ge p 50 with w | w
          · rw [k2 w]
            unfold wrd
            simp only [if_true]
            rw [if_neg (by omega), if_pos (by omega)]
          · exact k1 w
        rw [this]
        exact flt
  · have hM := h.1
    show b_X12_readPart (f_X12_readSum d) M 47 (nI dep) = some M
    unfold LayM at hM
    unfold b_X12_readPart
    rw [r_fine_n h]
    simp only [hM, grd_T, Option.bind_some, if_true]
end
