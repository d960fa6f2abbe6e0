/-! the reference reads ORDERS and whole TEXTS -/
noncomputable def j57 (s : Mem) : Option Mem := Option.bind (f_X12_must s 47 25) (fun q62 => Option.bind (f_X12_readSum 100 q62 47 0) (fun q67 => tiX q67))
theorem j57_eq (s : Mem) : j57 s = Option.bind (atX s) tiX := by
  unfold j57 atX
  cases f_X12_must s 47 25 <;> rfl
noncomputable def hoX (s : Mem) : Option Mem := Option.bind (f_X12_takes0 s 47 24) (fun q52 => if q52.2 = 0 then (Option.bind (f_X12_takes0 q52.1 47 20) (fun q72 => if q72.2 = 0 then (Option.bind (f_X12_takes0 q72.1 47 21) (fun q77 => if q77.2 = 0 then (Option.bind (f_X12_takes0 q77.1 47 22) (fun q82 => if q82.2 = 0 then (Option.bind (f_X12_must q82.1 47 23) (fun q87 => j57 q87)) else (j57 q82.1))) else (j57 q77.1))) else (j57 q72.1))) else (Option.bind (f_X12_readSum 100 q52.1 47 0) (fun q92 => j57 q92)))
theorem ro_eq {M : Mem} (hM : LayM M) : f_X12_readOrder M 47 = Option.bind (f_X12_takes0 M 47 19) (fun q2 => if q2.2 = 0 then (Option.bind (f_X12_must q2.1 47 13) (fun q37 => Option.bind (f_X12_readSum 100 q37 47 0) (fun q42 => tiX q42))) else (Option.bind (f_X12_readSum 100 q2.1 47 0) (fun q47 => hoX q47))) := grd_y (by unfold LayM at hM; exact hM.1)
section
variable {T : Nat → Nat} {len : Nat} {pl : Nat → Nat} {ord : Bool}
theorem j57_bad (hT : ∀ j, len ≤ j → T j = 256) {M : Mem} (h : BAD M) : j57 M = some M := by
  rw [j57_eq, atX_bad hT h, Option.bind_some, tiX_bad h]
theorem hoX_bad (hT : ∀ j, len ≤ j → T j = 256) {M : Mem} (h : BAD M) : hoX M = some M := by
  unfold hoX
  rw [r_takes_n h, Option.bind_some, if_pos rfl, r_takes_n h, Option.bind_some, if_pos rfl, r_takes_n h, Option.bind_some, if_pos rfl, r_takes_n h, Option.bind_some, if_pos rfl, r_must_n h, Option.bind_some, j57_bad hT h]
def pkAT (r : PR) (t : Nat × Nat × List Nat → PK) : PK := match r with
  | .inl j => .inl j
  | .inr y => t y
theorem r_j57 (hT : ∀ j, len ≤ j → T j = 256) {M : Mem} {k p u : Nat} (h : RPS M T len pl ord k p) (hp : p ≤ 50) (hk : k ≤ len) (hu : u ≤ k) : TT (j57 M) (RK M T len pl ord (pkAT (pAt ord T k p u) (fun y => pkT (pTm ord T y.1 y.2.1 (u + y.2.2.length))))) := by
  rw [j57_eq]
  have gg := G_At hT (ord := ord) (u := u) hp hk hu
  refine RK.bind h.1 (r_at (u := u) hT h hp) (fun j hj => ?_) (fun M1 hb => tiX_bad hb) (fun x M1 hx h1 => ?_)
  · rw [pk3_inl hj]
    rfl
  · obtain ⟨s, hs⟩ := pk3_inr hx
    rw [hs] at gg ⊢
    obtain ⟨g1, g2, g3, g4, g5⟩ := gg
    exact r_ti hT h1 g4
def pkHT (r : Nat ⊕ (Nat × Nat × List Nat × Nat × Option Nat × Nat)) (t : Nat × Nat × List Nat × Nat × Option Nat × Nat → PK) : PK := match r with
  | .inl j => .inl j
  | .inr y => t y
theorem pw_le6 : ∀ c, c = 20 ∨ c = 21 ∨ c = 22 ∨ c = 23 ∨ c = 24 → c < 400 := by omega
theorem r_how (hT : ∀ j, len ≤ j → T j = 256) {M : Mem} {k p u : Nat} (h : RPS M T len pl ord k p) (hp : p ≤ 50) (hk : k ≤ len) (hu : u ≤ k) : TT (hoX M) (RK M T len pl ord (pkHT (pHow ord T k p u) (fun y => pkT (pTm ord T y.1 y.2.1 (u + y.2.2.1.length))))) := by
  have t24 : f_X12_takes0 M 47 24 = some (if rc (T k) = 24 then (ADV M k, 1) else (M, 0)) := r_takes_y h (c := 24) (by decide)
  have t20 : f_X12_takes0 M 47 20 = some (if rc (T k) = 20 then (ADV M k, 1) else (M, 0)) := r_takes_y h (c := 20) (by decide)
  have t21 : f_X12_takes0 M 47 21 = some (if rc (T k) = 21 then (ADV M k, 1) else (M, 0)) := r_takes_y h (c := 21) (by decide)
  have t22 : f_X12_takes0 M 47 22 = some (if rc (T k) = 22 then (ADV M k, 1) else (M, 0)) := r_takes_y h (c := 22) (by decide)
  have m23 : f_X12_must M 47 23 = some (if rc (T k) = 23 then ADV M k else FLT M pl k) := r_must_y h (c := 23) (by decide)
  have c24 : rc (T k) = 24 ↔ T k = 268 := rc_tok (by omega) (by decide)
  have c20 : rc (T k) = 20 ↔ T k = 267 := rc_tok (by omega) (by decide)
  have c21 : rc (T k) = 21 ↔ T k = 269 := rc_tok (by omega) (by decide)
  have c22 : rc (T k) = 22 ↔ T k = 270 := rc_tok (by omega) (by decide)
  have c23 : rc (T k) = 23 ↔ T k = 271 := rc_tok (by omega) (by decide)
  have n10 : ¬ (1 : Int32) = 0 := by decide
  unfold hoX
  rw [t24, Option.bind_some]
  unfold pHow
  by_cases q2 : T k = 268
  · have hkl := lt_of_T hT q2 (by decide)
    rw [if_pos (c24.mpr q2), if_neg n10, if_neg (show ¬ (T k < 267 ∨ 271 < T k) by omega), if_pos q2]
    have gg := G_SF hT (ord := ord) (u := u) hp hkl (by omega)
    have key := RK.bind (g := fun m => j57 m) (r2 := pkHT (match pSF ord T (k + 1) p u with
      | .inl j => .inl j
      | .inr x => match pAt ord T x.1 x.2.1 (u + x.2.2.length) with
        | .inl j => .inl j
        | .inr y => .inr (y.1, y.2.1, x.2.2 ++ y.2.2, 1, some u, u + x.2.2.length)) (fun y => pkT (pTm ord T y.1 y.2.1 (u + y.2.2.1.length)))) (h.adv hkl).1 (r_sf (u := u) hT (h.adv hkl) hp) (fun j hj => ?_) (fun M1 hb => j57_bad hT hb) (fun x M1 hx h1 => ?_)
    · refine key.mono ?_
      rintro M1 ⟨a1, a2⟩
      exact ⟨fr_adv.tr a1, a2⟩
    · rw [pk3_inl hj]
      rfl
    · obtain ⟨s, hs⟩ := pk3_inr hx
      rw [hs] at gg ⊢
      obtain ⟨g1, g2, g3, g4, g5⟩ := gg
      refine (r_j57 (u := u + s.length) hT h1 g4 g2 g5).mono ?_
      rintro M2 ⟨a1, a2⟩
      simp only
      cases hc : pAt ord T x.1 x.2 (u + s.length) with
      | inl j => rw [hc] at a2; exact ⟨a1, a2⟩
      | inr y =>
        rw [hc] at a2
        refine ⟨a1, ?_⟩
        simp only [pkAT, pkHT, List.length_append, ← Nat.add_assoc] at a2 ⊢
        exact a2
  · rw [if_neg (fun w => q2 (c24.mp w)), if_pos rfl, t20, Option.bind_some]
    have go : k < len → (267 ≤ T k ∧ T k ≤ 271) → TT (j57 (ADV M k)) (RK M T len pl ord (pkHT (if T k < 267 ∨ 271 < T k then .inl k else if T k = 268 then (match pSF ord T (k + 1) p u with
        | .inl j => .inl j
        | .inr x => match pAt ord T x.1 x.2.1 (u + x.2.2.length) with
          | .inl j => .inl j
          | .inr y => .inr (y.1, y.2.1, x.2.2 ++ y.2.2, 1, some u, u + x.2.2.length)) else (match pAt ord T (k + 1) p u with
        | .inl j => .inl j
        | .inr y => .inr (y.1, y.2.1, y.2.2, T k - 267, none, u))) (fun y => pkT (pTm ord T y.1 y.2.1 (u + y.2.2.1.length))))) := by
      intro hkl hr
      rw [if_neg (show ¬ (T k < 267 ∨ 271 < T k) by omega), if_neg q2]
      refine (r_j57 (u := u) hT (h.adv hkl) hp hkl (by omega)).mono ?_
      rintro M2 ⟨a1, a2⟩
      cases hc : pAt ord T (k + 1) p u with
      | inl j => rw [hc] at a2; exact ⟨fr_adv.tr a1, a2⟩
      | inr y => rw [hc] at a2; exact ⟨fr_adv.tr a1, a2⟩
    by_cases q0 : T k = 267
    · rw [if_pos (c20.mpr q0), if_neg n10]
      exact go (lt_of_T hT q0 (by decide)) (by omega)
    rw [if_neg (fun w => q0 (c20.mp w)), if_pos rfl, t21, Option.bind_some]
    by_cases q3 : T k = 269
    · rw [if_pos (c21.mpr q3), if_neg n10]
      exact go (lt_of_T hT q3 (by decide)) (by omega)
    rw [if_neg (fun w => q3 (c21.mp w)), if_pos rfl, t22, Option.bind_some]
    by_cases q4 : T k = 270
    · rw [if_pos (c22.mpr q4), if_neg n10]
      exact go (lt_of_T hT q4 (by decide)) (by omega)
    rw [if_neg (fun w => q4 (c22.mp w)), if_pos rfl, m23, Option.bind_some]
    by_cases q5 : T k = 271
    · rw [if_pos (c23.mpr q5)]
      exact go (lt_of_T hT q5 (by decide)) (by omega)
    · rw [if_neg (fun w => q5 (c23.mp w)), if_pos (show T k < 267 ∨ 271 < T k by omega), j57_bad hT (bad_flt h), TT_some]
      exact (RPQ_flt h Fr.rf).k
theorem r_order (hT : ∀ j, len ≤ j → T j = 256) {M : Mem} {k p u : Nat} (h : RPS M T len pl ord k p) (hp : p ≤ 50) (hu : u ≤ k) : TT (f_X12_readOrder M 47) (RK M T len pl ord (pkC (pOrd ord T k p u))) := by
  have t19 : f_X12_takes0 M 47 19 = some (if rc (T k) = 19 then (ADV M k, 1) else (M, 0)) := r_takes_y h (c := 19) (by decide)
  have m13 : f_X12_must M 47 13 = some (if rc (T k) = 13 then ADV M k else FLT M pl k) := r_must_y h (c := 13) (by decide)
  have c19 : rc (T k) = 19 ↔ T k = 260 := rc_tok (by omega) (by decide)
  have c13 : rc (T k) = 13 ↔ T k = 278 := rc_tok (by omega) (by decide)
  have n10 : ¬ (1 : Int32) = 0 := by decide
  rw [ro_eq h.1, t19, Option.bind_some]
  unfold pOrd
  by_cases q : T k = 260
  · have hkl := lt_of_T hT q (by decide)
    rw [if_pos (c19.mpr q), if_pos q, if_neg n10]
    have gg := G_SF hT (ord := ord) (u := u) hp hkl (by omega)
    have key := RK.bind (g := fun m => hoX m) (r2 := pkC (match pSF ord T (k + 1) p u with
      | .inl j => .inl j
      | .inr x => match pHow ord T x.1 x.2.1 (u + x.2.2.length) with
        | .inl j => .inl j
        | .inr h => match pTm ord T h.1 h.2.1 (u + x.2.2.length + h.2.2.1.length) with
          | .inl j => .inl j
          | .inr y => .inr (y.1, y.2.1, x.2.2 ++ h.2.2.1 ++ y.2.2.1, (h.2.2.2.1, y.2.2.2.1, y.2.2.2.2, some u, h.2.2.2.2.1, some h.2.2.2.2.2)))) (h.adv hkl).1 (r_sf (u := u) hT (h.adv hkl) hp) (fun j hj => ?_) (fun M1 hb => hoX_bad hT hb) (fun x M1 hx h1 => ?_)
    · refine key.mono ?_
      rintro M1 ⟨a1, a2⟩
      exact ⟨fr_adv.tr a1, a2⟩
    · rw [pk3_inl hj]
      rfl
    · obtain ⟨s, hs⟩ := pk3_inr hx
      rw [hs] at gg ⊢
      obtain ⟨g1, g2, g3, g4, g5⟩ := gg
      refine (r_how (u := u + s.length) hT h1 g4 g2 g5).mono ?_
      rintro M2 ⟨a1, a2⟩
      simp only
      cases hc : pHow ord T x.1 x.2 (u + s.length) with
      | inl j => rw [hc] at a2; exact ⟨a1, a2⟩
      | inr y =>
        rw [hc] at a2
        simp only [pkHT] at a2 ⊢
        cases ht : pTm ord T y.1 y.2.1 (u + s.length + y.2.2.1.length) with
        | inl j => rw [ht] at a2; exact ⟨a1, a2⟩
        | inr z => rw [ht] at a2; exact ⟨a1, a2⟩
  · rw [if_neg (fun w => q (c19.mp w)), if_neg q, if_pos rfl, m13, Option.bind_some]
    by_cases q2 : T k = 278
    · have hkl := lt_of_T hT q2 (by decide)
      rw [if_pos (c13.mpr q2), if_pos q2]
      have gg := G_SF hT (ord := ord) (u := u) hp hkl (by omega)
      have key := RK.bind (g := fun m => tiX m) (r2 := pkC (match pSF ord T (k + 1) p u with
        | .inl j => .inl j
        | .inr x => match pTm ord T x.1 x.2.1 (u + x.2.2.length) with
          | .inl j => .inl j
          | .inr y => .inr (y.1, y.2.1, x.2.2 ++ y.2.2.1, (5, y.2.2.2.1, y.2.2.2.2, some u, none, none)))) (h.adv hkl).1 (r_sf (u := u) hT (h.adv hkl) hp) (fun j hj => ?_) (fun M1 hb => tiX_bad hb) (fun x M1 hx h1 => ?_)
      · refine key.mono ?_
        rintro M1 ⟨a1, a2⟩
        exact ⟨fr_adv.tr a1, a2⟩
      · rw [pk3_inl hj]
        rfl
      · obtain ⟨s, hs⟩ := pk3_inr hx
        rw [hs] at gg ⊢
        obtain ⟨g1, g2, g3, g4, g5⟩ := gg
        refine (r_ti (u := u + s.length) hT h1 g4).mono ?_
        rintro M2 ⟨a1, a2⟩
        simp only
        cases ht : pTm ord T x.1 x.2 (u + s.length) with
        | inl j => rw [ht] at a2; exact ⟨a1, a2⟩
        | inr z => rw [ht] at a2; exact ⟨a1, a2⟩
    · rw [if_neg (fun w => q2 (c13.mp w)), if_neg q2, sf_bad hT (bad_flt h), Option.bind_some, tiX_bad (bad_flt h), TT_some]
      exact (RPQ_flt h Fr.rf).k
theorem r_one (hT : ∀ j, len ≤ j → T j = 256) {M : Mem} {k p u : Nat} (h : RPS M T len pl ord k p) (hp : p ≤ 50) (hu : u ≤ k) : TT (f_X12_readOne M 47) (RK M T len pl ord (pkC (pCl ord T k p u))) := by
  have hM := h.1
  have g5 : mI M 47 14 = b1 ord := h.2.2.2.2.1
  unfold LayM at hM
  unfold f_X12_readOne pCl
  simp only [hM, grd_T, g5]
  cases ord with
  | false =>
    rw [if_pos (show b1 false = 0 from rfl), TT_bind]
    simp only [TT_some, Bool.false_eq_true, if_false]
    exact r_law hT h hp hu
  | true =>
    rw [if_neg (show ¬ b1 true = 0 by decide), TT_bind]
    simp only [TT_some, if_true]
    exact r_order hT h hp hu
end
