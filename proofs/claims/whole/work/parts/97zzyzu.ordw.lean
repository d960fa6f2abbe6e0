/-! the codes of ORDERS -/
section
variable {T : Nat → Nat} {len : Nat}
theorem W8_Tm (hT : ∀ j, len ≤ j → T j = 256) (hlen : len ≤ 400) {k p u : Nat} {x : Nat × Nat × List Nat × Nat × Option Nat} (hp : p ≤ 50) (hk : k ≤ len) (hu : u ≤ k) (hx : pTm true T k p u = .inr x) : ∀ c, c ∈ x.2.2.1 → W8 true c := by
  intro c hc
  unfold pTm at hx
  by_cases q : T k = 261
  · have hkl := lt_of_T hT q (by decide)
    rw [if_pos q] at hx
    by_cases q2 : 1001 ≤ T (k + 1) ∧ T (k + 1) ≤ 1020
    · rw [if_pos q2] at hx
      have hkl2 : k + 1 < len := Nat.lt_of_not_le (fun z => by have := hT (k + 1) z; omega)
      cases h1 : pCo true T (k + 2) p u with
      | inl j => rw [h1] at hx; cases hx
      | inr z =>
        rw [h1] at hx
        cases hx
        exact W8_Co hT hlen hp (show k + 2 ≤ len by omega) (by omega) h1 c hc
    · rw [if_neg q2] at hx
      cases hx
  · rw [if_neg q] at hx
    cases h1 : pCo true T k p u with
    | inl j => rw [h1] at hx; cases hx
    | inr z =>
      rw [h1] at hx
      cases hx
      exact W8_Co hT hlen hp hk hu h1 c hc
theorem W8_How (hT : ∀ j, len ≤ j → T j = 256) {k p u : Nat} {h : Nat × Nat × List Nat × Nat × Option Nat × Nat} (hp : p ≤ 50) (hk : k ≤ len) (hu : u ≤ k) (hx : pHow true T k p u = .inr h) : ∀ c, c ∈ h.2.2.1 → W8 true c := by
  intro c hc
  unfold pHow at hx
  by_cases q0 : T k < 267 ∨ 271 < T k
  · rw [if_pos q0] at hx
    cases hx
  rw [if_neg q0] at hx
  have hkl : k < len := Nat.lt_of_not_le (fun z => by have := hT k z; omega)
  by_cases q1 : T k = 268
  · rw [if_pos q1] at hx
    have gg := G_SF hT (ord := true) (u := u) hp hkl (by omega)
    cases hs : pSF true T (k + 1) p u with
    | inl j => rw [hs] at hx; cases hx
    | inr x =>
      rw [hs] at hx gg
      obtain ⟨g1, g2, g3, g4, g5⟩ := gg
      simp only at hx
      unfold pAt at hx
      by_cases q2 : T x.1 = 266
      · rw [if_pos q2] at hx
        have hxl := lt_of_T hT q2 (by decide)
        cases hs2 : pSF true T (x.1 + 1) x.2.1 (u + x.2.2.length) with
        | inl j => rw [hs2] at hx; cases hx
        | inr y =>
          rw [hs2] at hx
          cases hx
          rcases List.mem_append.mp hc with hc | hc
          · exact W8_SF hT (k + 1) p u x hp hkl (by omega) hs c hc
          · exact W8_SF hT (x.1 + 1) x.2.1 (u + x.2.2.length) y g4 hxl (by omega) hs2 c hc
      · rw [if_neg q2] at hx
        cases hx
  · rw [if_neg q1] at hx
    unfold pAt at hx
    by_cases q2 : T (k + 1) = 266
    · rw [if_pos q2] at hx
      have hxl := lt_of_T hT q2 (by decide)
      cases hs2 : pSF true T (k + 1 + 1) p u with
      | inl j => rw [hs2] at hx; cases hx
      | inr y =>
        rw [hs2] at hx
        cases hx
        exact W8_SF hT (k + 1 + 1) p u y hp hxl (by omega) hs2 c hc
    · rw [if_neg q2] at hx
      cases hx
theorem W8_Ord (hT : ∀ j, len ≤ j → T j = 256) (hlen : len ≤ 400) {k p u : Nat} {x : Nat × Nat × List Nat × CL} (hp : p ≤ 50) (hk : k ≤ len) (hu : u ≤ k) (hx : pOrd true T k p u = .inr x) : ∀ c, c ∈ x.2.2.1 → W8 true c := by
  intro c hc
  unfold pOrd at hx
  by_cases q1 : T k = 260
  · have hkl := lt_of_T hT q1 (by decide)
    rw [if_pos q1] at hx
    have gg := G_SF hT (ord := true) (u := u) hp hkl (by omega)
    cases hs : pSF true T (k + 1) p u with
    | inl j => rw [hs] at hx; cases hx
    | inr a =>
      rw [hs] at hx gg
      obtain ⟨g1, g2, g3, g4, g5⟩ := gg
      simp only at hx
      have gH := G_How hT (ord := true) (u := u + a.2.2.length) g4 g2 (by omega)
      cases hh : pHow true T a.1 a.2.1 (u + a.2.2.length) with
      | inl j => rw [hh] at hx; cases hx
      | inr h =>
        rw [hh] at hx gH
        simp only at hx
        cases ht : pTm true T h.1 h.2.1 (u + a.2.2.length + h.2.2.1.length) with
        | inl j => rw [ht] at hx; cases hx
        | inr y =>
          rw [ht] at hx
          cases hx
          rcases List.mem_append.mp hc with hc | hc
          · rcases List.mem_append.mp hc with hc | hc
            · exact W8_SF hT (k + 1) p u a hp hkl (by omega) hs c hc
            · exact W8_How hT g4 g2 (by omega) hh c hc
          · exact W8_Tm hT hlen (by omega) (by omega) (by omega) ht c hc
  rw [if_neg q1] at hx
  by_cases q2 : T k = 278
  · have hkl := lt_of_T hT q2 (by decide)
    rw [if_pos q2] at hx
    have gg := G_SF hT (ord := true) (u := u) hp hkl (by omega)
    cases hs : pSF true T (k + 1) p u with
    | inl j => rw [hs] at hx; cases hx
    | inr a =>
      rw [hs] at hx gg
      obtain ⟨g1, g2, g3, g4, g5⟩ := gg
      simp only at hx
      cases ht : pTm true T a.1 a.2.1 (u + a.2.2.length) with
      | inl j => rw [ht] at hx; cases hx
      | inr y =>
        rw [ht] at hx
        cases hx
        rcases List.mem_append.mp hc with hc | hc
        · exact W8_SF hT (k + 1) p u a hp hkl (by omega) hs c hc
        · exact W8_Tm hT hlen g4 g2 (by omega) ht c hc
  · rw [if_neg q2] at hx
    cases hx
theorem W8_RdO (hT : ∀ j, len ≤ j → T j = 256) (hlen : len ≤ 400) : ∀ n k p u x, p ≤ 50 → k ≤ len → u ≤ k → pRd true T n k p u = .inr x → ∀ c, c ∈ x.2 → W8 true c := by
  intro n
  induction n with
  | zero => intro k p u x _ _ _ h; cases h
  | succ n ih =>
    intro k p u x hp hk hu hx
    rw [pRd] at hx
    have gc := G_Cl hT (ord := true) (u := u) hp hk hu
    cases hc : pCl true T k p u with
    | inl j => rw [hc] at hx; cases hx
    | inr c =>
      rw [hc] at hx gc
      obtain ⟨g1, g2, g3, g4, g5⟩ := gc
      have hcl : pOrd true T k p u = .inr c := by
        unfold pCl at hc
        exact hc
      have h1 := W8_Ord hT hlen hp hk hu hcl
      simp only at hx
      by_cases q1 : T c.1 = 256
      · rw [if_pos q1] at hx
        cases hx
        exact h1
      · rw [if_neg q1] at hx
        by_cases q2 : T c.1 = 59
        · rw [if_pos q2] at hx
          have hxl := lt_of_T hT q2 (by decide)
          cases hr : pRd true T n (c.1 + 1) c.2.1 (u + c.2.2.1.length) with
          | inl j => rw [hr] at hx; cases hx
          | inr r =>
            rw [hr] at hx
            cases hx
            intro v hv
            rcases List.mem_append.mp hv with hv | hv
            · exact h1 v hv
            · exact ih (c.1 + 1) c.2.1 (u + c.2.2.1.length) r g4 hxl (by omega) hr v hv
        · rw [if_neg q2] at hx
          cases hx
theorem ROX_b : ∀ (os : List OSM) (k : Nat), ROX T len k os → ∀ (i : Nat) (o : OSM), os[i]? = some o → o.1 ≤ 5 ∧ o.2.1 ≤ 20 := by
  intro os
  induction os with
  | nil => intro k h; exact h.elim
  | cons a r ih =>
    intro k h i o hi
    obtain ⟨k2, hr, hn⟩ := h
    cases i with
    | zero =>
      cases hi
      refine ⟨?_, hr.2.2.2.1⟩
      rcases hr.2.2.2.2.2 with ⟨z, -⟩ | ⟨z, -⟩
      · omega
      · omega
    | succ i =>
      rcases hn with ⟨-, n2⟩ | ⟨-, n2⟩
      · subst n2
        cases hi
      · exact ih (k2 + 1) n2 i o hi
/-- ORDERS that were read tell the same on both sides -/
theorem ord_read (hT : ∀ j, len ≤ j → T j = 256) (hlen : len ≤ 400) {x : List CL × List Nat} (hx : pRd true T 12 0 0 0 = .inr x) : ∃ os : List OSM, ROX T len 0 os ∧ HCL x.1 x.2 os ∧ ∀ v, v ∈ x.2 → v < 2147483648 := by
  obtain ⟨os, o1, o2, o3⟩ := sem_RdO hT hlen 12 0 0 0 x (by omega) (by omega) (by omega) hx
  have c0 : CodeAt (cdF x.2) x.2.length 0 x.2 := fun i v hv => by
    have hi := (List.getElem?_eq_some_iff.mp hv).1
    rw [Nat.zero_add]
    refine ⟨?_, hi⟩
    unfold cdF
    rw [List.getD_eq_getElem?_getD, hv]
    rfl
  refine ⟨os, o1, ⟨o2, fun i cl o h1 h2 => ⟨fun C L hC => (o3 C L hC).2 i cl o h1 h2, ((o3 _ _ c0).2 i cl o h1 h2).1, ((o3 _ _ c0).2 i cl o h1 h2).2.1, (ROX_b os 0 o1 i o h2).1, (ROX_b os 0 o1 i o h2).2⟩⟩, fun v hv => ?_⟩
  have := (W8_RdO hT hlen 12 0 0 0 x (by omega) (by omega) (by omega) hx v hv).1
  omega
end
