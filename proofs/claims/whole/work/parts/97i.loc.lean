/-! which words a LAW looks at -/
section
variable {T : Nat → Nat} {len : Nat}
theorem W8_Rd (hT : ∀ j, len ≤ j → T j = 256) (hlen : len ≤ 400) : ∀ n k p u x, p ≤ 50 → k ≤ len → u ≤ k → pRd false T n k p u = .inr x → ∀ c, c ∈ x.2 → W8 false c := by
  intro n
  induction n with
  | zero => intro k p u x _ _ _ h; cases h
  | succ n ih =>
    intro k p u x hp hk hu hx
    rw [pRd] at hx
    have gc := G_Cl hT (ord := false) (u := u) hp hk hu
    cases hc : pCl false T k p u with
    | inl j => rw [hc] at hx; cases hx
    | inr c =>
      rw [hc] at hx gc
      obtain ⟨g1, g2, g3, g4, g5⟩ := gc
      have hcl : pLaw false T k p u = .inr c := by
        unfold pCl at hc
        exact hc
      have h1 := W8_Law hT hlen hp hk hu hcl
      simp only at hx
      by_cases q1 : T c.1 = 256
      · rw [if_pos q1] at hx
        cases hx
        exact h1
      · rw [if_neg q1] at hx
        by_cases q2 : T c.1 = 59
        · rw [if_pos q2] at hx
          have hxl := lt_of_T hT q2 (by decide)
          cases hr : pRd false T n (c.1 + 1) c.2.1 (u + c.2.2.1.length) with
          | inl j => rw [hr] at hx; cases hx
          | inr r =>
            rw [hr] at hx
            cases hx
            intro v hv
            rcases List.mem_append.mp hv with hv | hv
            · exact h1 v hv
            · exact ih (c.1 + 1) c.2.1 (u + c.2.2.1.length) r g4 hxl (by omega) hr v hv
        · rw [if_neg q2] at hx
          cases hx
/-- the code of a text that was read, as the class keeps it -/
def cdF (code : List Nat) (i : Nat) : Nat := code.getD i 0
theorem cdF_mem {code : List Nat} {i : Nat} (h : i < code.length) : cdF code i ∈ code := by
  unfold cdF
  rw [List.getD_eq_getElem?_getD, List.getElem?_eq_getElem h]
  exact List.getElem_mem h
theorem cdF_at (code : List Nat) : CodeAt (cdF code) code.length 0 code := by
  intro i v hv
  refine ⟨?_, ?_⟩
  · unfold cdF
    rw [Nat.zero_add, List.getD_eq_getElem?_getD, hv]
    rfl
  · have := (List.getElem?_eq_some_iff.mp hv).1
    omega
/-- a LAW that was read: what it tells, on both sides -/
theorem law_read (hT : ∀ j, len ≤ j → T j = 256) (hlen : len ≤ 400) {x : List CL × List Nat} (hx : pRd false T 12 0 0 0 = .inr x) : ∃ sms : List SM, RTX T len 0 sms ∧ SMS (cdF x.2) x.2.length x.1 sms ∧ LOC8 sms ∧ (∀ i, i < x.2.length → cdF x.2 i < 2147483648) ∧ ((∀ v, v ∈ x.2 → v ≠ 98) → ∀ K y y' s t p n h, lawS sms (WRD K y s t p n h) = lawS sms (WRD K y' s t p n h)) := by
  obtain ⟨sms, s1, s2, s3⟩ := sem_Rd hT hlen 12 0 0 0 x (by omega) (by omega) (by omega) hx
  have hS := s3 (cdF x.2) x.2.length (cdF_at x.2)
  have h8 := W8_Rd hT hlen 12 0 0 0 x (by omega) (by omega) (by omega) hx
  refine ⟨sms, s1, hS, fun W W' hw => ?_, fun i hi => ?_, fun hy K y y' s t p n h => ?_⟩
  · exact lawS_loc hS (fun a ha h2 => hw _ ((h8 _ (cdF_mem ha)).2 rfl h2))
  · have := (h8 _ (cdF_mem hi)).1
    omega
  · refine lawS_loc hS (fun a ha h2 => ?_)
    have hne : cdF x.2 a / 16 ≠ 6 := by
      intro w
      exact hy _ (cdF_mem ha) (by omega)
    generalize cdF x.2 a / 16 = i at hne
    unfold WRD
    simp only [hne, if_false]
end
