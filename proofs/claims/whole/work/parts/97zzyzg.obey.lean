/-! ORDERS: small numbers, and births by them -/
def sm (v : Int) : Int32 := if 0 ≤ v ∧ v ≤ 1000000 then ii v else -1
theorem S32.r64 {v : Int} (h : S32 v) : R64 v := by
  obtain ⟨a, b⟩ := h
  exact ⟨by omega, by omega⟩
theorem r_small {v : Int} (h : S32 v) : f_X12_small (jj v) = some (sm v) := by
  have h6 : R64 v := h.r64
  have hz : R64 0 := by unfold R64; omega
  have hm : R64 1000000 := by unfold R64; omega
  unfold f_X12_small sm
  rw [show (0 : Int64) = jj 0 from rfl, show (1000000 : Int64) = jj 1000000 from rfl]
  by_cases a : v < 0
  · rw [if_pos ((lgc4 h6 hz).mpr a), if_neg (by omega)]
  · rw [if_neg (fun q => a ((lgc4 h6 hz).mp q))]
    by_cases b : v ≤ 1000000
    · rw [if_pos ((lgc3 h6 hm).mpr b), if_pos ⟨by omega, b⟩]
      obtain ⟨n, hn⟩ := Int.eq_ofNat_of_zero_le (show 0 ≤ v by omega)
      subst hn
      rw [jj_32 (by omega), nI_ii]
    · rw [if_neg (fun q => b ((lgc3 h6 hm).mp q)), if_neg (by omega)]
theorem jj_ii {v : Int} (h : S32 v) : (jj v).toInt32 = ii v := by
  unfold jj ii
  exact Int64.toInt32_ofInt
theorem sm_or {v : Int} (h : S32 v) : sm v = ii v ∨ (sm v = -1 ∧ ∀ n, n ≤ 1000 → ¬ (0 ≤ ii v ∧ ii v ≤ nI n)) := by
  unfold sm
  by_cases q : 0 ≤ v ∧ v ≤ 1000000
  · rw [if_pos q]
    exact Or.inl rfl
  · rw [if_neg q]
    refine Or.inr ⟨rfl, fun n hn w => ?_⟩
    obtain ⟨s1, s2⟩ := h
    by_cases z : v = 2147483648
    · subst z
      exact absurd w.1 (by decide)
    · have hr : R32 v := ⟨by omega, by omega⟩
      have w1 := (ii_le (a := 0) ⟨by omega, by omega⟩ hr).mp (show ii 0 ≤ ii v from w.1)
      have w2 := w.2
      rw [nI_ii, ii_le hr ⟨by omega, by omega⟩] at w2
      omega
theorem n1_not {n : Nat} : ¬ (0 ≤ (-1 : Int32) ∧ (-1 : Int32) ≤ nI n) := fun q => absurd q.1 (by decide)
theorem gbO_sm {K : Nat → Int32} {A : List (Option Nat × Nat × List Nat)} {y : Nat} (h12 : A.length ≤ 12) {v pl th : Int} (hv : S32 v) (hp : S32 pl) (ht : S32 th) (k : Int32) : gbO K A y (sm v) k (sm pl) (sm th) = gbO K A y (ii v) k (ii pl) (ii th) := by
  have lt_le : ∀ p : Int32, (0 ≤ p ∧ p < nI A.length) → 0 ≤ p ∧ p ≤ nI 1000 := fun p q => by
    obtain ⟨m, hm, e⟩ := in_nat h12 q
    subst e
    rw [show (0 : Int32) = nI 0 from rfl, nleI (by omega) (by omega), nleI (by omega) (by omega)]
    omega
  unfold gbO
  rcases sm_or hp with e2 | ⟨e2, f2⟩
  · rw [e2]
    rcases sm_or ht with e3 | ⟨e3, f3⟩
    · rw [e3]
      rcases sm_or hv with e1 | ⟨e1, f1⟩
      · rw [e1]
      · rw [e1, if_neg (show ¬ (0 ≤ (-1 : Int32) ∧ (-1 : Int32) < nI A.length) from fun q => absurd q.1 (by decide)), if_neg (show ¬ (0 ≤ ii v ∧ ii v < nI A.length) from fun q => f1 1000 (by omega) (lt_le _ q))]
    · rw [e3]
      by_cases k1 : k = 1
      · rw [if_neg (fun q => absurd (q.2.2 k1).1 (by decide)), if_neg (fun q => f3 5 (by omega) (q.2.2 k1))]
      · rw [if_neg k1, if_neg k1]
        have x : ∀ p : Int32, ((0 ≤ k ∧ k ≤ 4) ∧ (0 ≤ ii pl ∧ ii pl ≤ 5) ∧ (k = 1 → 0 ≤ p ∧ p ≤ 5)) ↔ ((0 ≤ k ∧ k ≤ 4) ∧ (0 ≤ ii pl ∧ ii pl ≤ 5)) := fun p => ⟨fun q => ⟨q.1, q.2.1⟩, fun q => ⟨q.1, q.2, fun z => absurd z k1⟩⟩
        simp only [x]
        rcases sm_or hv with e1 | ⟨e1, f1⟩
        · rw [e1]
        · rw [e1, if_neg (show ¬ (0 ≤ (-1 : Int32) ∧ (-1 : Int32) < nI A.length) from fun q => absurd q.1 (by decide)), if_neg (show ¬ (0 ≤ ii v ∧ ii v < nI A.length) from fun q => f1 1000 (by omega) (lt_le _ q))]
  · rw [e2, if_neg (fun q => absurd q.2.1.1 (by decide)), if_neg (fun q => f2 5 (by omega) q.2.1)]
theorem gbO_inl {K : Nat → Int32} {A : List (Option Nat × Nat × List Nat)} {y : Nat} {p1 p2 p3 p4 : Int32} {r : Nat} (h : gbO K A y p1 p2 p3 p4 = .inl r) : r = 1 ∨ r = 2 ∨ r = 3 ∨ r = 5 := by
  unfold gbO gbC at h
  split at h
  · split at h
    · split at h
      · cases h; omega
      · split at h
        · cases h; omega
        · split at h
          · cases h; omega
          · cases h
    · cases h; omega
  · cases h; omega
theorem gbO_inr {K : Nat → Int32} (hk : KTH K) {A : List (Option Nat × Nat × List Nat)} {y : Nat} (h12 : A.length ≤ 12) (hA : ∀ (h : Nat) (e : Option Nat × Nat × List Nat), A[h]? = some e → DL e.2.2) {p1 p2 p3 p4 : Int32} {l : List Nat} (h : gbO K A y p1 p2 p3 p4 = .inr l) : (∃ g, g < A.length ∧ p1 = nI g) ∧ A.length < 12 ∧ DL l := by
  unfold gbO gbC at h
  split at h
  · rename_i w1
    split at h
    · rename_i w2
      obtain ⟨g, hg, rfl⟩ := in_nat h12 w2
      have eg := List.getElem?_eq_getElem hg
      have egd : A.getD (nI g).toNatClampNeg (none, 0, []) = A[g] := by
        rw [nclampI (by omega), List.getD_eq_getElem?_getD, eg]
        rfl
      rw [egd] at h
      split at h
      · cases h
      · split at h
        · cases h
        · rename_i c hc
          split at h
          · cases h
          · cases h
            refine ⟨⟨g, hg, rfl⟩, by omega, (cmk_DL (hA g _ eg) (fun s t p n h w e => lwK_le e) (fun t ht u q => ((sdK_v hk ht).2 u q).1) ?_ hc).1⟩
            by_cases z : p2 = 1
            · rw [if_pos z]
              obtain ⟨t, ht, e⟩ := up_nat (n := 5) (by omega) (w1.2.2 z)
              rw [e, nclampI (by omega)]
              omega
            · rw [if_neg z]
              omega
    · cases h
  · cases h
theorem gbO_ag {K K' : Nat → Int32} (hk : KTH K) (hl : KLW K) (ha : AGK K K') {A : List (Option Nat × Nat × List Nat)} {y : Nat} (h12 : A.length ≤ 12) (hA : ∀ (h : Nat) (e : Option Nat × Nat × List Nat), A[h]? = some e → DL e.2.2) (p1 p2 p3 p4 : Int32) : gbO K' A y p1 p2 p3 p4 = gbO K A y p1 p2 p3 p4 := by
  unfold gbO
  by_cases w1 : (0 ≤ p2 ∧ p2 ≤ 4) ∧ (0 ≤ p3 ∧ p3 ≤ 5) ∧ (p2 = 1 → 0 ≤ p4 ∧ p4 ≤ 5)
  · rw [if_pos w1, if_pos w1]
    by_cases w2 : 0 ≤ p1 ∧ p1 < nI A.length
    · rw [if_pos w2, if_pos w2]
      obtain ⟨g, hg, rfl⟩ := in_nat h12 w2
      have eg := List.getElem?_eq_getElem hg
      have egd : A.getD (nI g).toNatClampNeg (none, 0, []) = A[g] := by
        rw [nclampI (by omega), List.getD_eq_getElem?_getD, eg]
        rfl
      rw [egd]
      have ht : (if p2 = 1 then p4.toNatClampNeg else 0) < 6 := by
        by_cases z : p2 = 1
        · rw [if_pos z]
          obtain ⟨t, ht, e⟩ := up_nat (n := 5) (by omega) (w1.2.2 z)
          rw [e, nclampI (by omega)]
          omega
        · rw [if_neg z]
          omega
      unfold gbC
      obtain ⟨aw, ak⟩ := ha
      obtain ⟨c, c1, c2, c3⟩ := hl
      have ecm : ∀ s p t, t < 6 → cmk (gtK K') (sdK K') (lwK K' y) A[g].2.2 s p t = cmk (gtK K) (sdK K) (lwK K y) A[g].2.2 s p t := fun s p t ht => cmk_cg (hA g _ eg) (fun t ht u q => ((sdK_v hk ht).2 u q).1) (fun t ht => by unfold sdK; rw [ak (12 + t) (by omega)]) (fun t ht => by unfold gtK; rw [ak (6 + t) (by omega)]) (fun s t p n h ht => aw.eK (by
        rcases c3 with q | ⟨f, q1, q2⟩
        · exact Or.inl q
        · exact Or.inr ⟨f, by omega, q2⟩) ht) ht
      rw [ecm _ _ _ ht]
    · rw [if_neg w2, if_neg w2]
  · rw [if_neg w1, if_neg w1]
