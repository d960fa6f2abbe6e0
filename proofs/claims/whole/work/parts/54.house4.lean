/-! house, class and reference together -/
theorem rfc_49 {M : Mem} {n : Nat} : mI (RFC M n) 49 = mI M 49 := by
  unfold RFC
  rw [mI_wI_row (by decide), mI_wI_row (by decide)]
theorem hm1_49 {M : Mem} {n : Nat} {p1 p2 : Int32} {l : List Nat} : mI (HM1 M n p1 p2 l) 49 = mI M 49 := by
  unfold HM1 ADDC
  rw [mI_wI_row (by decide), mI_wI_row (by decide), mI_wI_row (by decide), mI_wI_row (by decide), mI_wI_row (by decide), mI_wI_row (by decide), mI_wI_row (by decide)]
theorem c_settle_y {M : Mem} (hC : LayC M) {n : Nat} (hn : n < 2147483648) : f_X11_settle M 0 (nI n) = some (wI M 0 12 0, nI n) := by
  have h0 : 0 ≤ nI n := by
    rw [show (0 : Int32) = nI 0 from rfl, nleI (by omega) hn]
    omega
  have e := c_accept hC (v := nI n)
  have hok : okO M 11 0 := hC.1
  unfold f_X11_settle
  rw [if_pos h0, grd_y hok, e, Option.bind_some]
theorem c_settle_5 {M : Mem} (hC : LayC M) : f_X11_settle M 0 (-5) = some (RFC M 5, -5) := by
  have e : f_X11_refuse M 0 (-5) = some (RFC M 5, -5) := c_refuse hC (n := 5) (Or.inr (Or.inr (Or.inr (Or.inl rfl))))
  have hok : okO M 11 0 := hC.1
  unfold f_X11_settle
  rw [if_neg (by decide), grd_y hok, e, Option.bind_some]
theorem house_end {M : Mem} (h : REL M) {n : Nat} (hn : n ≤ 12) (h56 : mI M 49 56 = nI n) {p1 : Int32} {y : Nat} {l : List Nat} (hp : p1 = -1 ∨ ∃ m, m < n ∧ p1 = nI m) (hy : y ≤ 999) (hl : DL l)
    (hc : f_X11_house M 0 p1 (nI y) (nI (num l)) = Option.bind (f_X10_add M 1 p1 (nI y) (nI (rank l))) (fun q28 => Option.bind (f_X11_settle q28.1 0 q28.2) (fun q33 => some (q33.1, q33.2))))
    (hw : ∀ M1, LayM M1 → mI M1 49 = mI M 49 → f_X12_whyNot M1 47 p1 (nI y) (nI (num l)) = if n = 12 then some (-5) else some 0) : BOTH M (fun M => f_X11_house M 0 p1 (nI y) (nI (num l))) (fun M => f_X12_house M 47 p1 (nI y) (nI (num l))) := by
  have hC := h.1
  have hM := h.2.1
  have h8 : mI M 1 8 = nI n := by rw [h.2.2.2.1.2.1.1, h56]
  by_cases e : n = 12
  · subst e
    refine ⟨RFC M 5, RFM (RFC M 5) 5, -5, ?_, ?_, STP.refuse h (Or.inr (Or.inr (Or.inr (Or.inl rfl))))⟩
    · show f_X11_house M 0 p1 (nI y) (nI (num l)) = _
      rw [hc, c_add_no hC h8, Option.bind_some]
      simp only
      rw [c_settle_5 hC, Option.bind_some]
    · have hw1 := hw (RFC M 5) hM.rfc rfc_49
      rw [if_pos rfl] at hw1
      exact r_house_no hM.rfc (n := 5) (Or.inr (Or.inr (Or.inr (Or.inl rfl)))) hw1
  · have hn2 : n < 12 := by omega
    refine ⟨HM1 M n p1 (nI y) l, HM2 (HM1 M n p1 (nI y) l) n p1 (nI y) l, nI n, ?_, ?_, STP.add h hn2 h56 hp hy hl⟩
    · have hLA : LayC (ADDC M n p1 (nI y) (nI (rank l)) (nI (tst l))) := hC.w.w.w.w.w.w
      show f_X11_house M 0 p1 (nI y) (nI (num l)) = _
      rw [hc, c_add hC hn2 h8 hl, Option.bind_some]
      simp only
      rw [c_settle_y hLA (by omega), Option.bind_some]
      rfl
    · have hLH : LayM (HM1 M n p1 (nI y) l) := hM.w.w.w.w.w.w.w
      have hw1 := hw (HM1 M n p1 (nI y) l) hLH hm1_49
      rw [if_neg e] at hw1
      exact r_house_y hLH hn2 (by rw [hm1_49]; exact h56) hw1
theorem both_house {M : Mem} (h : REL M) (p1 p2 p3 : Int32) : BOTH M (fun M => f_X11_house M 0 p1 p2 p3) (fun M => f_X12_house M 47 p1 p2 p3) := by
  have hC := h.1
  have hM := h.2.1
  obtain ⟨n, hn, h56, hh⟩ := h.2.2.1.2.2.2
  have h8 : mI M 1 8 = nI n := by rw [h.2.2.2.1.2.1.1, h56]
  have hc := c_house hC hn h8 (p1 := p1) (p2 := p2) (p3 := p3)
  have hwy : ∀ M1, LayM M1 → mI M1 49 = mI M 49 → _ := fun M1 hL1 e => r_why hL1 hn (by rw [e]; exact h56) (p1 := p1) (p2 := p2) (p3 := p3)
  have no : ∀ k, RN k → f_X11_house M 0 p1 p2 p3 = some (RFC M k, -(nI k)) → f_X12_whyNot (RFC M k) 47 p1 p2 p3 = some (-(nI k)) → BOTH M (fun M => f_X11_house M 0 p1 p2 p3) (fun M => f_X12_house M 47 p1 p2 p3) := fun k hk q1 q2 => ⟨RFC M k, RFM (RFC M k) k, -(nI k), q1, r_house_no hM.rfc hk q2, STP.refuse h hk⟩
  have w1 := hwy (RFC M 1) hM.rfc rfc_49
  rcases dn_or p3 with ⟨l, hl, rfl⟩ | hnd
  · have hr := hl.rank
    have hrn : ¬ nI (rank l) = -1 := nne_m1 (by omega)
    rw [p_rank_y hl, Option.bind_some] at hc
    rw [p_dish_y hl, Option.bind_some, if_neg (show ¬ (1 : Int32) = 0 by decide)] at w1
    by_cases a : 0 ≤ p2 ∧ p2 ≤ 999
    · obtain ⟨y, hy, rfl⟩ := up_nat (n := 999) (by omega) a
      rw [if_neg (show ¬ (¬ (0 ≤ nI y ∧ nI y ≤ 999) ∨ nI (rank l) = -1) from fun q => q.elim (fun q => q a) hrn)] at hc
      have hw : ∀ M1, LayM M1 → mI M1 49 = mI M 49 → f_X12_whyNot M1 47 p1 (nI y) (nI (num l)) = (if p1 = -1 then (if n = 12 then some (-5) else some 0) else if ¬ (0 ≤ p1 ∧ p1 < nI n) then some (-2) else Option.bind (f_X12_fact M1 47 p1 1) (fun q => if q ≤ nI y then (if n = 12 then some (-5) else some 0) else some (-3))) := fun M1 hL1 e => by
        have q := hwy M1 hL1 e
        rw [p_dish_y hl, Option.bind_some, if_neg (show ¬ (1 : Int32) = 0 by decide), if_neg (show ¬ ¬ (0 ≤ nI y ∧ nI y ≤ 999) from fun q => q a)] at q
        exact q
      by_cases c : p1 = -1
      · rw [if_neg (show ¬ (p1 ≠ -1 ∧ ¬ (0 ≤ p1 ∧ p1 < nI n)) from fun q => q.1 c), if_neg (show ¬ (p1 ≠ -1 ∧ ¬ mI M 6 p1.toNatClampNeg ≤ nI y) from fun q => q.1 c)] at hc
        exact house_end h hn h56 (Or.inl c) hy hl hc (fun M1 hL1 e => by rw [hw M1 hL1 e, if_pos c])
      · by_cases d : 0 ≤ p1 ∧ p1 < nI n
        · obtain ⟨m, hm, rfl⟩ := in_nat hn d
          have hs6 : mI M 6 m = mI M 49 (18 + 3 * m + 1) := by
            rw [(h.2.2.2.1.2.2 n m hn h56 hm).2.1]
            congr 1
            omega
          have hcl : (nI m).toNatClampNeg = m := nclampI (by omega)
          rw [if_neg (show ¬ (nI m ≠ -1 ∧ ¬ (0 ≤ nI m ∧ nI m < nI n)) from fun q => q.2 d), hcl] at hc
          have hw2 : ∀ M1, LayM M1 → mI M1 49 = mI M 49 → f_X12_whyNot M1 47 (nI m) (nI y) (nI (num l)) = if mI M 6 m ≤ nI y then (if n = 12 then some (-5) else some 0) else some (-3) := fun M1 hL1 e => by
            have hf : f_X12_fact M1 47 (nI m) 1 = some (mI M1 49 (18 + 3 * m + 1)) := r_fact hL1 (m := m) (j := 1) (by omega) (by omega)
            rw [hw M1 hL1 e, if_neg c, if_neg (show ¬ ¬ (0 ≤ nI m ∧ nI m < nI n) from fun q => q d), hf, Option.bind_some, e, ← hs6]
          by_cases f : mI M 6 m ≤ nI y
          · rw [if_neg (show ¬ (nI m ≠ -1 ∧ ¬ mI M 6 m ≤ nI y) from fun q => q.2 f)] at hc
            exact house_end h hn h56 (Or.inr ⟨m, hm, rfl⟩) hy hl hc (fun M1 hL1 e => by rw [hw2 M1 hL1 e, if_pos f])
          · rw [if_pos (show nI m ≠ -1 ∧ ¬ mI M 6 m ≤ nI y from ⟨c, f⟩)] at hc
            exact no 3 (Or.inr (Or.inr (Or.inl rfl))) hc (by rw [hw2 _ hM.rfc rfc_49, if_neg f]; rfl)
        · rw [if_pos (show p1 ≠ -1 ∧ ¬ (0 ≤ p1 ∧ p1 < nI n) from ⟨c, d⟩)] at hc
          exact no 2 (Or.inr (Or.inl rfl)) hc (by rw [hw _ hM.rfc rfc_49, if_neg c, if_pos d]; rfl)
    · rw [if_pos (Or.inl a)] at hc
      rw [if_pos a] at w1
      exact no 1 (Or.inl rfl) hc w1
  · rw [p_rankOf_n hnd, Option.bind_some, if_pos (Or.inr rfl)] at hc
    rw [p_isDish_n hnd, Option.bind_some, if_pos rfl, ite_self] at w1
    exact no 1 (Or.inl rfl) hc w1
