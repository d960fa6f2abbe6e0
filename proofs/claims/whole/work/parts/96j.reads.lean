/-! reading a tape, whole, on both sides -/
def Srd (a k : Nat) : Prop := (a = 11 ∧ 5 ≤ k) ∨ a = 13 ∨ a = 14 ∨ (a = 15 ∧ 2 ≤ k) ∨ a = 16 ∨ a = 17
theorem Scl_rd : ∀ a k, Scl a k → Srd a k := fun a k h => by
  unfold Scl Sps at h
  unfold Srd
  omega
section
variable {M : Mem} {n : Nat} {bt : Nat → Nat} {ord : Bool}
theorem tk_hT : ∀ j, tkL bt n ≤ j → tkT bt n j = 256 := fun j h => tkT_end h
theorem tk_lt (hb : ∀ i, i < n → bt i < 256) (j : Nat) : tkT bt n j < 2147483648 ∧ (tkT bt n j < 284 ∨ 1000 ≤ tkT bt n j) ∧ (j < tkL bt n → tkT bt n j ≠ 256) := by
  rcases Nat.lt_or_ge j (tkL bt n) with h | h
  · obtain ⟨i, h1, h2, h3, -⟩ := tkT_in hb h
    have := tokC_b hb h1
    rw [h3]
    exact ⟨by omega, by omega, fun _ => this.2.2⟩
  · rw [tkT_end h]
    exact ⟨by decide, by decide, fun w => by omega⟩
theorem tkP_le (hb : ∀ i, i < n → bt i < 256) (j : Nat) : tkP bt n j ≤ n := by
  rcases Nat.lt_or_ge j (tkL bt n) with h | h
  · obtain ⟨i, h1, h2, -, h3⟩ := tkT_in hb h
    omega
  · unfold tkP
    rw [List.getElem?_eq_none h]
    exact Nat.le_refl _
def RDA (ord : Bool) (bt : Nat → Nat) (n : Nat) (M : Mem) (q : Mem × Int32) : Prop := Fr Srd M q.1 ∧ match pRd ord (tkT bt n) 12 0 0 0 with
  | .inl j => q.2 = 0 ∧ mI q.1 11 5 = nI (tkP bt n j)
  | .inr x => q.2 = 1 ∧ mI q.1 11 5 = -1 ∧ mI q.1 15 2 = nI x.1.length ∧ mI q.1 15 3 = nI x.2.length ∧ TXT q.1 0 0 x.1 x.2 ∧ x.2.length ≤ 400 ∧ x.1.length ≤ 12 ∧ ∃ ay', mI q.1 15 4 = b1 ay' ∧ (ord = false → ay' = false → ∀ v ∈ x.2, v ≠ 98)
theorem c_read (hC : LayC M) (ht : TAPE M n bt) : TT (f_X7_read M 11 (b1 ord)) (RDA ord bt n M) := by
  have hb : ∀ i, i < n → bt i < 256 := fun i hi => (ht.2.2.2 i hi).1
  have h400 := ht.1
  have hle := tkL_le (bt := bt) (n := n)
  have hC2 := hC
  unfold LayC at hC2
  have e0 : f_X7_read M 11 (b1 ord) = grd (okO M 7 11) (grd (pb (b1 ord)) (Option.bind (mR (wI (wI (wI M 11 6 (b1 ord)) 11 5 (-1)) 11 9 0) 11 3) (fun r15 => grd (okO (wI (wI (wI M 11 6 (b1 ord)) 11 5 (-1)) 11 9 0) 9 r15) (Option.bind (f_X9_clear (wI (wI (wI M 11 6 (b1 ord)) 11 5 (-1)) 11 9 0) r15) (fun q17 => Option.bind (f_X7_cutTokens q17 11) (fun q22 => Option.bind (mR (wI q22 11 7 0) 11 1) (fun r31 => grd (okO (wI q22 11 7 0) 14 r31) (grd (vp_in 0 (mL (wI q22 11 7 0) r31)) (Option.bind (loopO rdB (wI (wI q22 11 7 0) 11 8 (mI (wI q22 11 7 0) r31 (0 : Int32).toNatClampNeg), 0)) (Sum.elim (fun (x51 : Mem) => Option.bind (f_X7_fail x51 11) (fun q81 => grd (bl q81.2) (some (q81.1, q81.2)))) (Sum.elim (fun (x53 : Mem) => some (x53, 0)) (Sum.elim (fun (x55 : Mem) => some (x55, 1)) (fun (x57 : Mem) => Option.bind (f_X7_fail x57 11) (fun q88 => grd (bl q88.2) (some (q88.1, q88.2)))))))))))))))) := rfl
  rw [e0]
  clear e0
  have hF1 : Fr Srd M (wI (wI (wI M 11 6 (b1 ord)) 11 5 (-1)) 11 9 0) := ((Fr.rf.wI (Or.inl (by omega))).wI (Or.inl (by omega))).wI (Or.inl (by omega))
  have k6 : mI (wI (wI (wI M 11 6 (b1 ord)) 11 5 (-1)) 11 9 0) 11 6 = b1 ord := by rw [mI_wI_ne (by decide), mI_wI_ne (by decide), mI_wIs]
  have k5 : mI (wI (wI (wI M 11 6 (b1 ord)) 11 5 (-1)) 11 9 0) 11 5 = -1 := by rw [mI_wI_ne (by decide), mI_wIs]
  have k9 : mI (wI (wI (wI M 11 6 (b1 ord)) 11 5 (-1)) 11 9 0) 11 9 = 0 := mI_wIs
  generalize wI (wI (wI M 11 6 (b1 ord)) 11 5 (-1)) 11 9 0 = M1 at *
  have hC1 := hC.fr hF1
  have hC12 := hC1
  unfold LayC at hC12
  simp only [hC2, hC12, grd_T, Option.bind_some]
  rw [grd_y (b1_pb ord)]
  have ecl : f_X9_clear M1 15 = some (wI (wI (wI M1 15 2 0) 15 3 0) 15 4 0) := by
    unfold f_X9_clear
    simp only [hC12, grd_T, bv]
  rw [ecl, Option.bind_some]
  have hF2 : Fr Srd M (wI (wI (wI M1 15 2 0) 15 3 0) 15 4 0) := ((hF1.wI (Or.inr (Or.inr (Or.inr (Or.inl (by omega)))))).wI (Or.inr (Or.inr (Or.inr (Or.inl (by omega)))))).wI (Or.inr (Or.inr (Or.inr (Or.inl (by omega)))))
  have l2 : mI (wI (wI (wI M1 15 2 0) 15 3 0) 15 4 0) 15 2 = 0 := by rw [mI_wI_ne (by decide), mI_wI_ne (by decide), mI_wIs]
  have l3 : mI (wI (wI (wI M1 15 2 0) 15 3 0) 15 4 0) 15 3 = 0 := by rw [mI_wI_ne (by decide), mI_wIs]
  have l4 : mI (wI (wI (wI M1 15 2 0) 15 3 0) 15 4 0) 15 4 = 0 := mI_wIs
  have l11 : ∀ j, mI (wI (wI (wI M1 15 2 0) 15 3 0) 15 4 0) 11 j = mI M1 11 j := fun j => by rw [mI_wI_row (by decide), mI_wI_row (by decide), mI_wI_row (by decide)]
  generalize wI (wI (wI M1 15 2 0) 15 3 0) 15 4 0 = M2 at *
  have ht2 : TAPE M2 n bt := ht.fr hF2 (fun a k w => by unfold Srd at w; omega)
  rw [TT_bind]
  refine (c_cut (hC.fr hF2) ht2).mono ?_
  rintro M3 ⟨hF3, hrow⟩
  have m11 : ∀ j, mI M3 11 j = mI M1 11 j := fun j => by rw [hF3.i (by unfold Stk; omega), l11]
  have m15 : ∀ j, mI M3 15 j = mI M2 15 j := fun j => hF3.i (by unfold Stk; omega)
  have hF3' : Fr Srd M M3 := hF2.tr (hF3.up (fun a k w => by unfold Stk at w; unfold Srd; omega))
  have hC3 := hC.fr hF3'
  have hC32 := hC3
  unfold LayC at hC32
  simp only [hC32, grd_T, Option.bind_some, mR_wI, ok_wI, mL_wI]
  rw [show (0 : Int32) = nI 0 from rfl, grd_y ((nvp (by omega)).mpr (by omega)), nclampI (by omega), mI_wI_row (b := 13) (by decide), (hrow 0 (by omega)).1]
  have hF4 : Fr Srd M (wI (wI M3 11 7 (nI 0)) 11 8 (nI (tkT bt n 0))) := (hF3'.wI (Or.inl (by omega))).wI (Or.inl (by omega))
  have hcp : CP (wI (wI M3 11 7 (nI 0)) 11 8 (nI (tkT bt n 0))) (tkT bt n) (tkL bt n) (tkP bt n) ord 0 0 0 false := by
    refine ⟨hC.fr hF4, by omega, fun j => (tk_lt hb j).1, fun j hj => ⟨?_, ?_, ?_⟩, ?_, ?_, mI_wIs, ?_, ?_, ?_, by omega⟩
    · rw [mI_wI_row (by decide), mI_wI_row (by decide)]; exact (hrow j hj).1
    · rw [mI_wI_row (by decide), mI_wI_row (by decide)]; exact (hrow j hj).2
    · rw [mI_wI_ne (by decide), mI_wI_ne (by decide), m11, k5]
    · rw [mI_wI_ne (by decide), mI_wI_ne (by decide), m11, k6]
    · rw [mI_wI_ne (by decide), mI_wIs]
    · rw [mI_wI_ne (by decide), mI_wI_ne (by decide), m11, k9]
      rfl
    · rw [mI_wI_row (by decide), mI_wI_row (by decide), m15, l3]
      rfl
    · rw [mI_wI_row (by decide), mI_wI_row (by decide), m15, l4]
      rfl
  have h15 : mI (wI (wI M3 11 7 (nI 0)) 11 8 (nI (tkT bt n 0))) 15 2 = nI 0 := by
    rw [mI_wI_row (by decide), mI_wI_row (by decide), m15, l2]
    rfl
  generalize wI (wI M3 11 7 (nI 0)) 11 8 (nI (tkT bt n 0)) = M4 at *
  rw [TT_bind]
  refine (c_readL tk_hT 12 0 0 0 0 false M4 rfl hcp h15 (by omega) (by omega)).mono ?_
  intro z hz
  refine hz.mono ?_
  rintro q ⟨a1, a2, a3, a4⟩
  refine ⟨hF4.tr (a1.up Scl_rd), ?_⟩
  cases hr : pRd ord (tkT bt n) 12 0 0 0 with
  | inl j => rw [hr] at a4; exact a4
  | inr x =>
    rw [hr] at a4
    obtain ⟨f1, f2, f3, f4, f5, f6, f7, ay', f8, f9, f10⟩ := a4
    rw [Nat.zero_add] at f3 f4 f6 f7
    exact ⟨f1, f2, f3, f4, f5, f6, f7, ay', f8, f10⟩
def Srr (a k : Nat) : Prop := Ssp a k ∨ (a = 47 ∧ (k = 17 ∨ k = 18 ∨ (22 ≤ k ∧ k ≤ 25)))
theorem r_reads (hM : LayM M) (hR : RWB M) (ht : TAPR M n bt) (h14 : mI M 47 14 = b1 ord) : TT (f_X12_reads M 47) (fun q => Fr Srr M q.1 ∧ mI q.1 47 17 = 0 ∧ mI q.1 47 22 = nI (tkL bt n) ∧ (∀ j, j ≤ tkL bt n → SPT q.1 bt n j) ∧ match tlR (pRd ord (tkT bt n) 12 0 0 0) with
    | some j => q.2 = 0 ∧ mI q.1 47 18 = nI (tkP bt n j)
    | none => q.2 = 1 ∧ mI q.1 47 18 = -1) := by
  have hb : ∀ i, i < n → bt i < 256 := fun i hi => (ht.2.2.2 i hi).1
  have h400 := ht.1
  have hle := tkL_le (bt := bt) (n := n)
  have hM2 := hM
  unfold LayM at hM2
  have e0 : f_X12_reads M 47 = grd (okO M 12 47) (Option.bind (f_X12_splits M 47 (mI M 47 17)) (fun q2 => Option.bind (f_X12_readOne (wI (wI (wI (wI q2 47 17 0) 47 23 0) 47 24 0) 47 25 (-1)) 47) (fun q23 => Option.bind (loopO rrB (q23, 1)) (fun (x35 : Mem) => Option.bind (f_X12_fine x35 47) (fun q70 => bv (fun (s74 : Mem) => bv (wI s74 47 18 (mI s74 47 25)) (fun M78 => Option.bind (f_X12_fine M78 47) (fun q82 => grd (bl q82) (some (M78, q82))))) (fun j73 => if q70 = 0 then (j73 x35) else (if (mI x35 47 22) ≤ (mI x35 47 23) then (j73 x35) else (Option.bind (f_X12_faults x35 47) (fun q86 => j73 q86))))))))) := rfl
  rw [e0, grd_y hM2.1, ht.2.2.1, TT_bind]
  refine (r_splits hM hR ht).mono ?_
  rintro M1 ⟨hF1, h22, hrow⟩
  have hF2 : Fr Srr M (wI (wI (wI (wI M1 47 17 0) 47 23 0) 47 24 0) 47 25 (-1)) := ((((hF1.up (fun a k w => Or.inl w)).wI (Or.inr (by omega))).wI (Or.inr (by omega))).wI (Or.inr (by omega))).wI (Or.inr (by omega))
  have r0 : ∀ a j, a ≠ 47 → mI (wI (wI (wI (wI M1 47 17 0) 47 23 0) 47 24 0) 47 25 (-1)) a j = mI M1 a j := fun a j h => by rw [mI_wI_row h, mI_wI_row h, mI_wI_row h, mI_wI_row h]
  have k22 : mI (wI (wI (wI (wI M1 47 17 0) 47 23 0) 47 24 0) 47 25 (-1)) 47 22 = nI (tkL bt n) := by rw [mI_wI_ne (by decide), mI_wI_ne (by decide), mI_wI_ne (by decide), mI_wI_ne (by decide)]; exact h22
  have k17 : mI (wI (wI (wI (wI M1 47 17 0) 47 23 0) 47 24 0) 47 25 (-1)) 47 17 = 0 := by rw [mI_wI_ne (by decide), mI_wI_ne (by decide), mI_wI_ne (by decide), mI_wIs]
  have hrps : RPS (wI (wI (wI (wI M1 47 17 0) 47 23 0) 47 24 0) 47 25 (-1)) (tkT bt n) (tkL bt n) (tkP bt n) ord 0 0 := by
    refine ⟨hM.fr hF2, by omega, fun j hj => ?_, fun j => (tk_lt hb j).2.1, ?_, ?_, ?_, mI_wIs, by omega, by omega⟩
    · rw [r0 58 j (by decide), r0 60 j (by decide), r0 59 j (by decide)]
      obtain ⟨s1, s2, s3⟩ := hrow j hj
      exact ⟨s1, s2, by have := tkP_le hb j; omega, s3⟩
    · rw [mI_wI_ne (by decide), mI_wI_ne (by decide), mI_wI_ne (by decide), mI_wI_ne (by decide), hF1.i (by unfold Ssp; omega)]
      exact h14
    · rw [mI_wI_ne (by decide), mI_wI_ne (by decide), mI_wIs]
      rfl
    · rw [mI_wI_ne (by decide), mI_wIs]
      rfl
  have hrow2 : ∀ j, j ≤ tkL bt n → SPT (wI (wI (wI (wI M1 47 17 0) 47 23 0) 47 24 0) 47 25 (-1)) bt n j := fun j hj => by
    unfold SPT
    rw [r0 58 j (by decide), r0 60 j (by decide), r0 59 j (by decide)]
    exact hrow j hj
  generalize wI (wI (wI (wI M1 47 17 0) 47 23 0) 47 24 0) 47 25 (-1) = M2 at *
  refine (r_readsT tk_hT (fun j hj => (tk_lt hb j).2.2 hj) hrps k22).mono ?_
  rintro q ⟨a1, a2⟩
  have ne : ∀ a k, (a ≠ 47 ∨ (k = 17 ∨ k = 22)) → mI q.1 a k = mI M2 a k := fun a k h => a1.i (by unfold Srp; omega)
  refine ⟨hF2.tr (a1.up (fun a k w => Or.inr (by unfold Srp at w; omega))), by rw [ne 47 17 (by omega)]; exact k17, by rw [ne 47 22 (by omega)]; exact k22, fun j hj => ?_, a2⟩
  unfold SPT
  rw [ne 58 j (by omega), ne 60 j (by omega), ne 59 j (by omega)]
  exact hrow2 j hj
end
