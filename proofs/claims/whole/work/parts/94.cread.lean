/-! the class reads a CLAUSE of ORDERS, and whole TEXTS -/
noncomputable def tmX (m : Mem) : Option (Mem × Int32) := if (mI m 11 8) = 261 then (Option.bind (f_X7_next m 11) (fun q43 => if (mI q43 11 8) < 1001 then (Option.bind (f_X7_fail q43 11) (fun q52 => grd (bl q52.2) (some (q52.1, q52.2)))) else (if (mI q43 11 8) ≤ 1020 then (Option.bind (mR q43 11 3) (fun r58 => grd (okO q43 9 r58) (Option.bind (f_X9_set q43 r58 1 ((mI q43 11 8) - 1000)) (fun q60 => Option.bind (f_X7_next q60 11) (fun q65 => Option.bind (f_X7_condition q65 11) (fun q37 => grd (bl q37.2) (some (q37.1, q37.2)))))))) else (Option.bind (f_X7_fail q43 11) (fun q52 => grd (bl q52.2) (some (q52.1, q52.2))))))) else (Option.bind (f_X7_condition m 11) (fun q37 => grd (bl q37.2) (some (q37.1, q37.2))))
section
variable {T : Nat → Nat} {len : Nat} {pl : Nat → Nat} {ord : Bool}
theorem G_Tm (hT : ∀ j, len ≤ j → T j = 256) {k p u : Nat} (hp : p ≤ 50) (hk : k ≤ len) (hu : u ≤ k) : match pTm ord T k p u with
    | .inl j => j ≤ len
    | .inr y => k ≤ y.1 ∧ y.1 ≤ len ∧ p ≤ y.2.1 ∧ y.2.1 ≤ 50 ∧ u + y.2.2.1.length ≤ y.1 ∧ 1 ≤ y.2.2.2.1 ∧ y.2.2.2.1 ≤ 20 := by
  unfold pTm
  by_cases q : T k = 261
  · have hkl := lt_of_T hT q (by decide)
    rw [if_pos q]
    by_cases q1 : 1001 ≤ T (k + 1) ∧ T (k + 1) ≤ 1020
    · have hkl1 : k + 1 < len := lt_of_T hT (t := T (k + 1)) rfl (by omega)
      rw [if_pos q1]
      have g := G_Co hT (ord := ord) (k := k + 2) (u := u) hp (by omega) (by omega)
      cases hc : pCo ord T (k + 2) p u with
      | inl j => rw [hc] at g; exact g
      | inr y =>
        rw [hc] at g
        obtain ⟨c1, c2, c3, c4, c5⟩ := g
        exact ⟨by show k ≤ y.1; omega, c2, c3, c4, c5, by show 1 ≤ T (k + 1) - 1000; omega, by show T (k + 1) - 1000 ≤ 20; omega⟩
    · rw [if_neg q1]
      show k + 1 ≤ len
      omega
  · rw [if_neg q]
    have g := G_Co hT (ord := ord) (u := u) hp hk hu
    cases hc : pCo ord T k p u with
    | inl j => rw [hc] at g; exact g
    | inr y =>
      rw [hc] at g
      obtain ⟨c1, c2, c3, c4, c5⟩ := g
      exact ⟨c1, c2, c3, c4, c5, by show 1 ≤ 1; omega, by show 1 ≤ 20; omega⟩
theorem G_Ord (hT : ∀ j, len ≤ j → T j = 256) {k p u : Nat} (hp : p ≤ 50) (hk : k ≤ len) (hu : u ≤ k) : GC len k p u (pOrd ord T k p u) := by
  unfold pOrd
  by_cases q1 : T k = 260
  · have hkl := lt_of_T hT q1 (by decide)
    rw [if_pos q1]
    have g := G_SF hT (ord := ord) (u := u) hp hkl (by omega)
    cases hs : pSF ord T (k + 1) p u with
    | inl j => rw [hs] at g; exact g
    | inr x =>
      rw [hs] at g
      obtain ⟨b1', b2, b3, b4, b5⟩ := g
      have g := G_How hT (ord := ord) (u := u + x.2.2.length) b4 b2 b5
      simp only
      cases hh : pHow ord T x.1 x.2.1 (u + x.2.2.length) with
      | inl j => rw [hh] at g; exact g
      | inr h =>
        rw [hh] at g
        obtain ⟨c1, c2, c3, c4, c5, c6, c7⟩ := g
        have g := G_Tm hT (ord := ord) (u := u + x.2.2.length + h.2.2.1.length) c4 c2 c5
        simp only
        cases ht : pTm ord T h.1 h.2.1 (u + x.2.2.length + h.2.2.1.length) with
        | inl j => rw [ht] at g; exact g
        | inr y =>
          rw [ht] at g
          obtain ⟨d1, d2, d3, d4, d5, d6, d7⟩ := g
          refine ⟨by show k < y.1; omega, d2, by show p ≤ y.2.1; omega, d4, ?_⟩
          simp only [List.length_append]
          omega
  rw [if_neg q1]
  by_cases q2 : T k = 278
  · have hkl := lt_of_T hT q2 (by decide)
    rw [if_pos q2]
    have g := G_SF hT (ord := ord) (u := u) hp hkl (by omega)
    cases hs : pSF ord T (k + 1) p u with
    | inl j => rw [hs] at g; exact g
    | inr x =>
      rw [hs] at g
      obtain ⟨b1', b2, b3, b4, b5⟩ := g
      have g := G_Tm hT (ord := ord) (u := u + x.2.2.length) b4 b2 b5
      simp only
      cases ht : pTm ord T x.1 x.2.1 (u + x.2.2.length) with
      | inl j => rw [ht] at g; exact g
      | inr y =>
        rw [ht] at g
        obtain ⟨d1, d2, d3, d4, d5, d6, d7⟩ := g
        refine ⟨by show k < y.1; omega, d2, by show p ≤ y.2.1; omega, d4, ?_⟩
        simp only [List.length_append]
        omega
  rw [if_neg q2]
  exact hk
theorem G_Cl (hT : ∀ j, len ≤ j → T j = 256) {k p u : Nat} (hp : p ≤ 50) (hk : k ≤ len) (hu : u ≤ k) : GC len k p u (pCl ord T k p u) := by
  unfold pCl
  split
  · exact G_Ord hT hp hk hu
  · exact G_Law hT hp hk hu
theorem c_orderClause (hT : ∀ j, len ≤ j → T j = 256) {M : Mem} {k p u c : Nat} {ay : Bool} (h : CP M T len pl ord k p u ay) (h2 : mI M 15 2 = nI c) (hc : c < 12) (hp : p ≤ 50) (hu : u ≤ k) : TT (f_X7_orderClause M 11) (CQ M T len pl ord c u ay (clR (pOrd ord T k p u))) := by
  have hC := h.1
  have h7 : mI M 11 8 = nI (T k) := h.2.2.2.2.2.2.1
  have hb := h.2.2.1 k
  have e260 : (nI (T k) = 260) ↔ T k = 260 := eL hb 260 (by decide)
  have e278 : (nI (T k) = 278) ↔ T k = 278 := eL hb 278 (by decide)
  have n10 : ¬ (1 : Int32) = 0 := by decide
  unfold LayC at hC
  unfold f_X7_orderClause
  simp only [hC, grd_T, bv, h7, Option.bind_some]
  unfold pOrd
  by_cases q1 : T k = 260
  · have hkl := lt_of_T hT q1 (by decide)
    rw [if_pos (e260.mpr q1), if_pos q1]
    simp only [n10, if_false]
    obtain ⟨M1, e1, a1, a2, a3, a4⟩ := c_open (kind := nI 5) h h2 hc
    rw [show (5 : Int32) = nI 5 from rfl, e1, Option.bind_some, c_next hT a4.1 hkl, Option.bind_some, show (3 : Int32) = nI 3 from rfl]
    have gg := G_SF hT (ord := ord) (u := u) hp hkl (by omega)
    refine TT_preopen (k := k) a1 a2 a3 (CQ.bind (g := fun m => Option.bind (f_X7_how m 11) (fun q70 => if q70.2 = 0 then (some (q70.1, 0)) else tmX q70.1)) (c_sumFor (f := 3) hT (a4.nxt hkl) hp (by omega) (by omega)) (fun j hj => ?_) (fun x qq hx hq1 => ?_))
    · rw [sfR_inl hj]
      rfl
    · obtain ⟨y, hy, rfl⟩ := sfR_inr hx
      rw [hy] at gg ⊢
      obtain ⟨g1, g2, g3, g4, g5⟩ := gg
      have gh := G_How hT (ord := ord) (u := u + y.2.2.length) g4 g2 g5
      let r2 : PRF := match pHow ord T y.1 y.2.1 (u + y.2.2.length) with
        | .inl j => .inl j
        | .inr hh => catF hh.2.2.1 (tmR (pTm ord T hh.1 hh.2.1 (u + y.2.2.length + hh.2.2.1.length)) (fun i => if i = 0 then nI hh.2.2.2.1 else if i = 4 then (match hh.2.2.2.2.1 with
          | some t => nI t
          | none => -1) else if i = 5 then nI hh.2.2.2.2.2 else if i = 3 then nI u else opF (nI 5) i))
      have key := CQ.then (r := r2) hq1 (fun ay2 h3 => CQ.bind (g := tmX) (r2 := r2) (c_how hT h3 g4 g5) (fun j hj => ?_) (fun xx qx hxx hqx => ?_))
      · refine key.mono ?_
        intro q3 hq3
        simp only [r2] at hq3 ⊢
        cases hh : pHow ord T y.1 y.2.1 (u + y.2.2.length) with
        | inl j => rw [hh] at hq3; exact hq3
        | inr z =>
          rw [hh] at hq3
          simp only at hq3 ⊢
          cases ht : pTm ord T z.1 z.2.1 (u + y.2.2.length + z.2.2.1.length) with
          | inl j => rw [ht] at hq3; exact hq3
          | inr w =>
            rw [ht] at hq3
            simp only [tmR, catF] at hq3
            rw [← List.append_assoc] at hq3
            refine hq3.congr (fun i hi => ?_)
            have : i = 0 ∨ i = 1 ∨ i = 2 ∨ i = 3 ∨ i = 4 ∨ i = 5 := by omega
            rcases this with e | e | e | e | e | e <;> subst e
            · rfl
            · rfl
            · show (match w.2.2.2.2 with
                | some t => nI t
                | none => _) = oI w.2.2.2.2
              cases w.2.2.2.2 <;> rfl
            · rfl
            · show (match z.2.2.2.2.1 with
                | some t => nI t
                | none => _) = oI z.2.2.2.2.1
              cases z.2.2.2.2.1 <;> rfl
            · rfl
      · simp only [r2]
        cases hh : pHow ord T y.1 y.2.1 (u + y.2.2.length) with
        | inl j2 => rw [hh] at hj; cases hj; rfl
        | inr z => rw [hh] at hj; cases hj
      · simp only [r2]
        cases hh : pHow ord T y.1 y.2.1 (u + y.2.2.length) with
        | inl j2 => rw [hh] at hxx; cases hxx
        | inr z =>
          rw [hh] at hxx gh
          cases hxx
          obtain ⟨c1, c2, c3, c4, c5, c6, c7⟩ := gh
          have key2 := CQ.then hqx (fun ay3 h4 => c_times hT h4 rfl c4 c5)
          refine key2.mono ?_
          intro q4 hq4
          simp only at hq4 ⊢
          cases ht : pTm ord T z.1 z.2.1 (u + y.2.2.length + z.2.2.1.length) with
          | inl j => rw [ht] at hq4; exact hq4
          | inr w =>
            rw [ht] at hq4
            refine hq4.congr (fun i hi => ?_)
            have : i = 0 ∨ i = 1 ∨ i = 2 ∨ i = 3 ∨ i = 4 ∨ i = 5 := by omega
            rcases this with e | e | e | e | e | e <;> subst e <;> rfl
  rw [if_neg (fun w => q1 (e260.mp w)), if_neg q1]
  simp only [if_true]
  by_cases q2 : T k = 278
  · have hkl := lt_of_T hT q2 (by decide)
    rw [if_pos (e278.mpr q2), if_pos q2]
    obtain ⟨M1, e1, a1, a2, a3, a4⟩ := c_open (kind := nI 5) h h2 hc
    rw [show (5 : Int32) = nI 5 from rfl, e1, Option.bind_some, c_next hT a4.1 hkl, Option.bind_some, show (3 : Int32) = nI 3 from rfl]
    have gg := G_SF hT (ord := ord) (u := u) hp hkl (by omega)
    refine TT_preopen (k := k) a1 a2 a3 (CQ.bind (g := tmX) (c_sumFor (f := 3) hT (a4.nxt hkl) hp (by omega) (by omega)) (fun j hj => ?_) (fun x qq hx hq1 => ?_))
    · rw [sfR_inl hj]
      rfl
    · obtain ⟨y, hy, rfl⟩ := sfR_inr hx
      rw [hy] at gg ⊢
      obtain ⟨g1, g2, g3, g4, g5⟩ := gg
      have key := CQ.then hq1 (fun ay2 h3 => c_times hT h3 rfl g4 g5)
      refine key.mono ?_
      intro q3 hq3
      simp only at hq3 ⊢
      cases ht : pTm ord T y.1 y.2.1 (u + y.2.2.length) with
      | inl j => rw [ht] at hq3; exact hq3
      | inr w =>
        rw [ht] at hq3
        refine hq3.congr (fun i hi => ?_)
        have : i = 0 ∨ i = 1 ∨ i = 2 ∨ i = 3 ∨ i = 4 ∨ i = 5 := by omega
        rcases this with e | e | e | e | e | e <;> subst e
        · rfl
        · rfl
        · show (match w.2.2.2.2 with
            | some t => nI t
            | none => _) = oI w.2.2.2.2
          cases w.2.2.2.2 <;> rfl
        · rfl
        · rfl
        · rfl
  rw [if_neg (fun w => q2 (e278.mp w)), if_neg q2]
  obtain ⟨qf, f1, f2, f3⟩ := PSQ_fail h (M0 := M) (u0 := u) (ay0 := ay) (Nat.le_refl u) Fr.rf (fun i _ => rfl)
  rw [f1, Option.bind_some, grd_y f2, TT_some]
  obtain ⟨b1', b2, b3⟩ := f3
  exact ⟨b1'.up (fun a k w => Or.inl w), b2, fun j _ => b1'.i (by unfold Sps; omega), b3⟩
end
