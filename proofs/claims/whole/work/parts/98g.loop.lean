/-! THE LAW: all turns (written by wip/whole/lawloop.py) -/
theorem zd120 : mn (XD dL120) = 47 := by decide +kernel
theorem lcC_len {xS : Nat → Int32} {LS a0 a1 : Nat} {i0 : Int32} {N : Mem} {jj6 : Mem → Option LwR} : (lcC xS LS a0 a1 i0 N jj6).length = 36 := rfl
theorem lw_step {xS : Nat → Int32} {LS c : Nat} (hc : c < 600) (hLS : LS ≤ 3072) (hl : 6 * c + 6 ≤ LS) {M : Mem} (h : INV1 c M) : ∃ M2, lwB xS LS 0 47 (M, nI (6 * c)) = some (.inl (M2, nI (6 * (c + 1)))) ∧ LST c M M2 := by
  have vd : ∀ d, d < 6 → vp_in (nI (6 * c) + nI d) LS := fun d hd => by
    rw [nadd]
    exact (nvp (by omega)).mpr (by omega)
  have v0 : vp_in (nI (6 * c)) LS := (nvp (by omega)).mpr (by omega)
  have v1 : vp_in (nI (6 * c) + 1) LS := vd 1 (by omega)
  have v2 : vp_in (nI (6 * c) + 2) LS := vd 2 (by omega)
  have v3 : vp_in (nI (6 * c) + 3) LS := vd 3 (by omega)
  have v4 : vp_in (nI (6 * c) + 4) LS := vd 4 (by omega)
  have v5 : vp_in (nI (6 * c) + 5) LS := vd 5 (by omega)
  have hlt : ¬ (Int32.ofNat LS - 6 < nI (6 * c)) := by
    show ¬ (nI LS - nI 6 < nI (6 * c))
    rw [nsub (by omega), nltI (by omega) (by omega)]
    omega
  have e6 : nI (6 * c) + 6 = nI (6 * (c + 1)) := by
    rw [show (6 : Int32) = nI 6 from rfl, nadd]
    congr 1
  unfold lwB
  simp only
  rw [if_neg hlt, grd_y v0]
  show ∃ M2, swO ((xS (nI (6 * c)).toNatClampNeg) &&& 63) (swC 0 (lcC xS LS 0 47 (nI (6 * c)) M (fun (s37 : Mem) => some (.inl (s37, nI (6 * c) + 6))))) (some (.inl (M, nI (6 * c) + 6))) = _ ∧ LST c M M2
  generalize (xS (nI (6 * c)).toNatClampNeg) &&& 63 = X
  rw [e6]
  generalize nI (6 * c) = i0 at *
  generalize nI (6 * (c + 1)) = i1 at *
  by_cases h0 : X.toInt = 0
  · obtain ⟨M2, e, hs⟩ := lcs_0 (xS := xS) (jj6 := fun (s37 : Mem) => some (.inl (s37, i1))) hc h v1 v2 v3 v4 v5
    exact ⟨M2, (sw_at (l := lcC xS LS 0 47 i0 M (fun (s37 : Mem) => some (.inl (s37, i1)))) (i := 0) rfl h0 (by rw [lcC_len]; omega)).trans e, hs⟩
  by_cases h1 : X.toInt = 1
  · obtain ⟨M2, e, hs⟩ := lcs_1 (xS := xS) (jj6 := fun (s37 : Mem) => some (.inl (s37, i1))) hc h v1 v2 v3 v4 v5
    exact ⟨M2, (sw_at (l := lcC xS LS 0 47 i0 M (fun (s37 : Mem) => some (.inl (s37, i1)))) (i := 1) rfl h1 (by rw [lcC_len]; omega)).trans e, hs⟩
  by_cases h2 : X.toInt = 2
  · obtain ⟨M2, e, hs⟩ := lcs_2 (xS := xS) (jj6 := fun (s37 : Mem) => some (.inl (s37, i1))) hc h v1 v2 v3 v4 v5
    exact ⟨M2, (sw_at (l := lcC xS LS 0 47 i0 M (fun (s37 : Mem) => some (.inl (s37, i1)))) (i := 2) rfl h2 (by rw [lcC_len]; omega)).trans e, hs⟩
  by_cases h3 : X.toInt = 3
  · obtain ⟨M2, e, hs⟩ := lcs_3 (xS := xS) (jj6 := fun (s37 : Mem) => some (.inl (s37, i1))) hc h v1 v2 v3 v4 v5
    exact ⟨M2, (sw_at (l := lcC xS LS 0 47 i0 M (fun (s37 : Mem) => some (.inl (s37, i1)))) (i := 3) rfl h3 (by rw [lcC_len]; omega)).trans e, hs⟩
  by_cases h4 : X.toInt = 4
  · obtain ⟨M2, e, hs⟩ := lcs_4 (xS := xS) (jj6 := fun (s37 : Mem) => some (.inl (s37, i1))) hc h v1 v2 v3 v4 v5
    exact ⟨M2, (sw_at (l := lcC xS LS 0 47 i0 M (fun (s37 : Mem) => some (.inl (s37, i1)))) (i := 4) rfl h4 (by rw [lcC_len]; omega)).trans e, hs⟩
  by_cases h5 : X.toInt = 5
  · obtain ⟨M2, e, hs⟩ := lcs_5 (xS := xS) (jj6 := fun (s37 : Mem) => some (.inl (s37, i1))) hc h v1 v2 v3 v4 v5
    exact ⟨M2, (sw_at (l := lcC xS LS 0 47 i0 M (fun (s37 : Mem) => some (.inl (s37, i1)))) (i := 5) rfl h5 (by rw [lcC_len]; omega)).trans e, hs⟩
  by_cases h6 : X.toInt = 6
  · obtain ⟨M2, e, hs⟩ := lcs_6 (xS := xS) (jj6 := fun (s37 : Mem) => some (.inl (s37, i1))) hc h v1 v2 v3 v4 v5
    exact ⟨M2, (sw_at (l := lcC xS LS 0 47 i0 M (fun (s37 : Mem) => some (.inl (s37, i1)))) (i := 6) rfl h6 (by rw [lcC_len]; omega)).trans e, hs⟩
  by_cases h7 : X.toInt = 7
  · obtain ⟨M2, e, hs⟩ := lcs_7 (xS := xS) (jj6 := fun (s37 : Mem) => some (.inl (s37, i1))) hc h v1 v2 v3 v4 v5
    exact ⟨M2, (sw_at (l := lcC xS LS 0 47 i0 M (fun (s37 : Mem) => some (.inl (s37, i1)))) (i := 7) rfl h7 (by rw [lcC_len]; omega)).trans e, hs⟩
  by_cases h8 : X.toInt = 8
  · obtain ⟨M2, e, hs⟩ := lcs_8 (xS := xS) (jj6 := fun (s37 : Mem) => some (.inl (s37, i1))) hc h v1 v2 v3 v4 v5
    exact ⟨M2, (sw_at (l := lcC xS LS 0 47 i0 M (fun (s37 : Mem) => some (.inl (s37, i1)))) (i := 8) rfl h8 (by rw [lcC_len]; omega)).trans e, hs⟩
  by_cases h9 : X.toInt = 9
  · obtain ⟨M2, e, hs⟩ := lcs_9 (xS := xS) (jj6 := fun (s37 : Mem) => some (.inl (s37, i1))) hc h v1 v2 v3 v4 v5
    exact ⟨M2, (sw_at (l := lcC xS LS 0 47 i0 M (fun (s37 : Mem) => some (.inl (s37, i1)))) (i := 9) rfl h9 (by rw [lcC_len]; omega)).trans e, hs⟩
  by_cases h10 : X.toInt = 10
  · obtain ⟨M2, e, hs⟩ := lcs_10 (xS := xS) (jj6 := fun (s37 : Mem) => some (.inl (s37, i1))) hc h v1 v2 v3 v4 v5
    exact ⟨M2, (sw_at (l := lcC xS LS 0 47 i0 M (fun (s37 : Mem) => some (.inl (s37, i1)))) (i := 10) rfl h10 (by rw [lcC_len]; omega)).trans e, hs⟩
  by_cases h11 : X.toInt = 11
  · obtain ⟨M2, e, hs⟩ := lcs_11 (xS := xS) (jj6 := fun (s37 : Mem) => some (.inl (s37, i1))) hc h v1 v2 v3 v4 v5
    exact ⟨M2, (sw_at (l := lcC xS LS 0 47 i0 M (fun (s37 : Mem) => some (.inl (s37, i1)))) (i := 11) rfl h11 (by rw [lcC_len]; omega)).trans e, hs⟩
  by_cases h12 : X.toInt = 12
  · obtain ⟨M2, e, hs⟩ := lcs_12 (xS := xS) (jj6 := fun (s37 : Mem) => some (.inl (s37, i1))) hc h v1 v2 v3 v4 v5
    exact ⟨M2, (sw_at (l := lcC xS LS 0 47 i0 M (fun (s37 : Mem) => some (.inl (s37, i1)))) (i := 12) rfl h12 (by rw [lcC_len]; omega)).trans e, hs⟩
  by_cases h13 : X.toInt = 13
  · obtain ⟨M2, e, hs⟩ := lcs_13 (xS := xS) (jj6 := fun (s37 : Mem) => some (.inl (s37, i1))) hc h v1 v2 v3 v4 v5
    exact ⟨M2, (sw_at (l := lcC xS LS 0 47 i0 M (fun (s37 : Mem) => some (.inl (s37, i1)))) (i := 13) rfl h13 (by rw [lcC_len]; omega)).trans e, hs⟩
  by_cases h14 : X.toInt = 14
  · obtain ⟨M2, e, hs⟩ := lcs_14 (xS := xS) (jj6 := fun (s37 : Mem) => some (.inl (s37, i1))) hc h v1 v2 v3 v4 v5
    exact ⟨M2, (sw_at (l := lcC xS LS 0 47 i0 M (fun (s37 : Mem) => some (.inl (s37, i1)))) (i := 14) rfl h14 (by rw [lcC_len]; omega)).trans e, hs⟩
  by_cases h15 : X.toInt = 15
  · obtain ⟨M2, e, hs⟩ := lcs_15 (xS := xS) (jj6 := fun (s37 : Mem) => some (.inl (s37, i1))) hc h v1 v2 v3 v4 v5
    exact ⟨M2, (sw_at (l := lcC xS LS 0 47 i0 M (fun (s37 : Mem) => some (.inl (s37, i1)))) (i := 15) rfl h15 (by rw [lcC_len]; omega)).trans e, hs⟩
  by_cases h16 : X.toInt = 16
  · obtain ⟨M2, e, hs⟩ := lcs_16 (xS := xS) (jj6 := fun (s37 : Mem) => some (.inl (s37, i1))) hc h v1 v2 v3 v4 v5
    exact ⟨M2, (sw_at (l := lcC xS LS 0 47 i0 M (fun (s37 : Mem) => some (.inl (s37, i1)))) (i := 16) rfl h16 (by rw [lcC_len]; omega)).trans e, hs⟩
  by_cases h17 : X.toInt = 17
  · obtain ⟨M2, e, hs⟩ := lcs_17 (xS := xS) (jj6 := fun (s37 : Mem) => some (.inl (s37, i1))) hc h v1 v2 v3 v4 v5
    exact ⟨M2, (sw_at (l := lcC xS LS 0 47 i0 M (fun (s37 : Mem) => some (.inl (s37, i1)))) (i := 17) rfl h17 (by rw [lcC_len]; omega)).trans e, hs⟩
  by_cases h18 : X.toInt = 18
  · obtain ⟨M2, e, hs⟩ := lcs_18 (xS := xS) (jj6 := fun (s37 : Mem) => some (.inl (s37, i1))) hc h v1 v2 v3 v4 v5
    exact ⟨M2, (sw_at (l := lcC xS LS 0 47 i0 M (fun (s37 : Mem) => some (.inl (s37, i1)))) (i := 18) rfl h18 (by rw [lcC_len]; omega)).trans e, hs⟩
  by_cases h19 : X.toInt = 19
  · obtain ⟨M2, e, hs⟩ := lcs_19 (xS := xS) (jj6 := fun (s37 : Mem) => some (.inl (s37, i1))) hc h v1 v2 v3 v4 v5
    exact ⟨M2, (sw_at (l := lcC xS LS 0 47 i0 M (fun (s37 : Mem) => some (.inl (s37, i1)))) (i := 19) rfl h19 (by rw [lcC_len]; omega)).trans e, hs⟩
  by_cases h20 : X.toInt = 20
  · obtain ⟨M2, e, hs⟩ := lcs_20 (xS := xS) (jj6 := fun (s37 : Mem) => some (.inl (s37, i1))) hc h v1 v2 v3 v4 v5
    exact ⟨M2, (sw_at (l := lcC xS LS 0 47 i0 M (fun (s37 : Mem) => some (.inl (s37, i1)))) (i := 20) rfl h20 (by rw [lcC_len]; omega)).trans e, hs⟩
  by_cases h21 : X.toInt = 21
  · obtain ⟨M2, e, hs⟩ := lcs_21 (xS := xS) (jj6 := fun (s37 : Mem) => some (.inl (s37, i1))) hc h v1 v2 v3 v4 v5
    exact ⟨M2, (sw_at (l := lcC xS LS 0 47 i0 M (fun (s37 : Mem) => some (.inl (s37, i1)))) (i := 21) rfl h21 (by rw [lcC_len]; omega)).trans e, hs⟩
  by_cases h22 : X.toInt = 22
  · obtain ⟨M2, e, hs⟩ := lcs_22 (xS := xS) (jj6 := fun (s37 : Mem) => some (.inl (s37, i1))) hc h v1 v2 v3 v4 v5
    exact ⟨M2, (sw_at (l := lcC xS LS 0 47 i0 M (fun (s37 : Mem) => some (.inl (s37, i1)))) (i := 22) rfl h22 (by rw [lcC_len]; omega)).trans e, hs⟩
  by_cases h23 : X.toInt = 23
  · obtain ⟨M2, e, hs⟩ := lcs_23 (xS := xS) (jj6 := fun (s37 : Mem) => some (.inl (s37, i1))) hc h v1 v2 v3 v4 v5
    exact ⟨M2, (sw_at (l := lcC xS LS 0 47 i0 M (fun (s37 : Mem) => some (.inl (s37, i1)))) (i := 23) rfl h23 (by rw [lcC_len]; omega)).trans e, hs⟩
  by_cases h24 : X.toInt = 24
  · obtain ⟨M2, e, hs⟩ := lcs_24 (xS := xS) (jj6 := fun (s37 : Mem) => some (.inl (s37, i1))) hc h v1 v2 v3 v4 v5
    exact ⟨M2, (sw_at (l := lcC xS LS 0 47 i0 M (fun (s37 : Mem) => some (.inl (s37, i1)))) (i := 24) rfl h24 (by rw [lcC_len]; omega)).trans e, hs⟩
  by_cases h25 : X.toInt = 25
  · obtain ⟨M2, e, hs⟩ := lcs_25 (xS := xS) (jj6 := fun (s37 : Mem) => some (.inl (s37, i1))) hc h v1 v2 v3 v4 v5
    exact ⟨M2, (sw_at (l := lcC xS LS 0 47 i0 M (fun (s37 : Mem) => some (.inl (s37, i1)))) (i := 25) rfl h25 (by rw [lcC_len]; omega)).trans e, hs⟩
  by_cases h26 : X.toInt = 26
  · obtain ⟨M2, e, hs⟩ := lcs_26 (xS := xS) (jj6 := fun (s37 : Mem) => some (.inl (s37, i1))) hc h v1 v2 v3 v4 v5
    exact ⟨M2, (sw_at (l := lcC xS LS 0 47 i0 M (fun (s37 : Mem) => some (.inl (s37, i1)))) (i := 26) rfl h26 (by rw [lcC_len]; omega)).trans e, hs⟩
  by_cases h27 : X.toInt = 27
  · obtain ⟨M2, e, hs⟩ := lcs_27 (xS := xS) (jj6 := fun (s37 : Mem) => some (.inl (s37, i1))) hc h v1 v2 v3 v4 v5
    exact ⟨M2, (sw_at (l := lcC xS LS 0 47 i0 M (fun (s37 : Mem) => some (.inl (s37, i1)))) (i := 27) rfl h27 (by rw [lcC_len]; omega)).trans e, hs⟩
  by_cases h28 : X.toInt = 28
  · obtain ⟨M2, e, hs⟩ := lcs_28 (xS := xS) (jj6 := fun (s37 : Mem) => some (.inl (s37, i1))) hc h v1 v2 v3 v4 v5
    exact ⟨M2, (sw_at (l := lcC xS LS 0 47 i0 M (fun (s37 : Mem) => some (.inl (s37, i1)))) (i := 28) rfl h28 (by rw [lcC_len]; omega)).trans e, hs⟩
  by_cases h29 : X.toInt = 29
  · obtain ⟨M2, e, hs⟩ := lcs_29 (xS := xS) (jj6 := fun (s37 : Mem) => some (.inl (s37, i1))) hc h v1 v2 v3 v4 v5
    exact ⟨M2, (sw_at (l := lcC xS LS 0 47 i0 M (fun (s37 : Mem) => some (.inl (s37, i1)))) (i := 29) rfl h29 (by rw [lcC_len]; omega)).trans e, hs⟩
  by_cases h30 : X.toInt = 30
  · obtain ⟨M2, e, hs⟩ := lcs_30 (xS := xS) (jj6 := fun (s37 : Mem) => some (.inl (s37, i1))) hc h v1 v2 v3 v4 v5
    exact ⟨M2, (sw_at (l := lcC xS LS 0 47 i0 M (fun (s37 : Mem) => some (.inl (s37, i1)))) (i := 30) rfl h30 (by rw [lcC_len]; omega)).trans e, hs⟩
  by_cases h31 : X.toInt = 31
  · obtain ⟨M2, e, hs⟩ := lcs_31 (xS := xS) (jj6 := fun (s37 : Mem) => some (.inl (s37, i1))) hc h v1 v2 v3 v4 v5
    exact ⟨M2, (sw_at (l := lcC xS LS 0 47 i0 M (fun (s37 : Mem) => some (.inl (s37, i1)))) (i := 31) rfl h31 (by rw [lcC_len]; omega)).trans e, hs⟩
  by_cases h32 : X.toInt = 32
  · obtain ⟨M2, e, hs⟩ := lcs_32 (xS := xS) (jj6 := fun (s37 : Mem) => some (.inl (s37, i1))) hc h v1 v2 v3 v4 v5
    exact ⟨M2, (sw_at (l := lcC xS LS 0 47 i0 M (fun (s37 : Mem) => some (.inl (s37, i1)))) (i := 32) rfl h32 (by rw [lcC_len]; omega)).trans e, hs⟩
  by_cases h33 : X.toInt = 33
  · obtain ⟨M2, e, hs⟩ := lcs_33 (xS := xS) (jj6 := fun (s37 : Mem) => some (.inl (s37, i1))) hc h v1 v2 v3 v4 v5
    exact ⟨M2, (sw_at (l := lcC xS LS 0 47 i0 M (fun (s37 : Mem) => some (.inl (s37, i1)))) (i := 33) rfl h33 (by rw [lcC_len]; omega)).trans e, hs⟩
  by_cases h34 : X.toInt = 34
  · obtain ⟨M2, e, hs⟩ := lcs_34 (xS := xS) (jj6 := fun (s37 : Mem) => some (.inl (s37, i1))) hc h v1 v2 v3 v4 v5
    exact ⟨M2, (sw_at (l := lcC xS LS 0 47 i0 M (fun (s37 : Mem) => some (.inl (s37, i1)))) (i := 34) rfl h34 (by rw [lcC_len]; omega)).trans e, hs⟩
  by_cases h35 : X.toInt = 35
  · obtain ⟨M2, e, hs⟩ := lcs_35 (xS := xS) (jj6 := fun (s37 : Mem) => some (.inl (s37, i1))) hc h v1 v2 v3 v4 v5
    exact ⟨M2, (sw_at (l := lcC xS LS 0 47 i0 M (fun (s37 : Mem) => some (.inl (s37, i1)))) (i := 35) rfl h35 (by rw [lcC_len]; omega)).trans e, hs⟩
  refine ⟨M, sw_no (l := lcC xS LS 0 47 i0 M (fun (s37 : Mem) => some (.inl (s37, i1)))) (by rw [lcC_len]; omega) ?_, h.stay hc Fr.rf⟩
  rw [lcC_len]
  omega
theorem lw_ar {a b c Z : Nat} (h1 : b ≤ Z + 500 * c) (h2 : a ≤ b + 500) : a ≤ Z + 500 * (c + 1) := by
  rw [Nat.mul_add, Nat.mul_one, ← Nat.add_assoc]
  exact Nat.le_trans h2 (Nat.add_le_add_right h1 500)
theorem lw_loop {xS : Nat → Int32} {LS : Nat} (hLS : LS ≤ 3072) : ∀ n c M, c + n = LS / 6 → INV1 c M → mz M + rmz M ≤ 606968 + 500 * c → ∃ M2, loopO (lwB xS LS 0 47) (M, nI (6 * c)) = some (.inl M2) ∧ mn M2 ≤ 600000 ∧ mz M2 ≤ 7302250 := by
  intro n
  induction n with
  | zero =>
    intro c M hc h hz
    have hlt : Int32.ofNat LS - 6 < nI (6 * c) := by
      show nI LS - nI 6 < nI (6 * c)
      rw [nI_ii, nI_ii, nI_ii, ii_sub, ii_lt ⟨by omega, by omega⟩ ⟨by omega, by omega⟩]
      omega
    refine ⟨M, ?_, ?_, by omega⟩
    · rw [loopO_eq, show lwB xS LS 0 47 (M, nI (6 * c)) = some (.inr (.inl M)) from by
        unfold lwB
        simp only
        rw [if_pos hlt]]
    · have := h.1.2.1.2.1
      omega
  | succ n ih =>
    intro c M hc h hz
    obtain ⟨M2, e, hI, hr⟩ := lw_step (xS := xS) (show c < 600 by omega) hLS (by omega) h
    rw [loopO_eq, e]
    exact ih (c + 1) M2 (by omega) hI (lw_ar hz hr)
theorem pure_law (xS : Nat → Int32) (LS : Nat) (hLS : LS ≤ 3072) : ∃ q : Mem × Int32, f_L_law xS LS M00 = some q ∧ q.2 = 1 ∧ mn q.1 ≤ 600000 ∧ mz q.1 ≤ 7302250 := by
  obtain ⟨M2, e, h1, h2⟩ := lw_loop (xS := xS) hLS (LS / 6) 0 (XD dL328) (by omega) st_inv st_room
  have e0 : loopO (lwB xS LS (mn M00) 47) (XD dL328, 0) = some (Sum.inl M2) := e
  refine ⟨(M2, 1), ?_, rfl, h1, h2⟩
  rw [law_eq]
  refine bvE (XD dL1) rfl ?_
  refine bndE (x := XD dL120) si_12 ?_
  refine bvE (XD dL121) rfl ?_
  refine bndE (x := XD dL328) (by rw [zd120]; exact si_13) ?_
  rw [zd120]
  refine bndE (x := (Sum.inl M2 : Mem ⊕ Mem)) e0 ?_
  rfl
