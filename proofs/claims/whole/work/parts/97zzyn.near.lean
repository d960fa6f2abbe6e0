/-! LINES: the class's tables -/
theorem lyP {M : Mem} (h : LayC M) : okO M 5 34 ∧ mR M 34 1 = some 36 ∧ okO M 14 36 ∧ mL M 36 = 36 ∧ mR M 34 2 = some 37 ∧ okO M 14 37 ∧ mL M 37 = 6 := by
  unfold LayC at h
  simp only [h, and_self]
theorem lyP2 {M : Mem} (h : LayC M) : mR M 34 0 = some 35 ∧ okO M 14 35 ∧ mL M 35 = 6 ∧ mR M 34 3 = some 38 ∧ okO M 14 38 ∧ mL M 38 = 6 ∧ mR M 34 4 = some 39 ∧ okO M 14 39 ∧ mL M 39 = 64 := by
  unfold LayC at h
  simp only [h, and_self]
theorem lyP3 {M : Mem} (h : LayC M) : mR M 34 5 = some 40 ∧ okO M 14 40 ∧ mL M 40 = 7 ∧ mR M 34 6 = some 41 ∧ okO M 14 41 ∧ mL M 41 = 7 := by
  unfold LayC at h
  simp only [h, and_self]
def PDW (M : Mem) (n : Nat) (W : Nat → Nat → Nat) : Prop := mI M 34 7 = nI n ∧ ∀ i j, i < n → j < n → mI M 36 (i * 6 + j) = nI (W i j)
theorem PDW.fr {S : Nat → Nat → Prop} {M M1 : Mem} {n : Nat} {W : Nat → Nat → Nat} (h : PDW M n W) (hF : Fr S M M1) (h1 : ¬ S 34 7) (h2 : ∀ k, ¬ S 36 k) : PDW M1 n W := ⟨by rw [hF.i h1]; exact h.1, fun i j hi hj => by rw [hF.i (h2 _)]; exact h.2 i j hi hj⟩
theorem mmin_i {a b : Nat} (ha : a < 2147483648) (hb : b < 2147483648) : mmin (nI a) (nI b) = nI (if a ≤ b then a else b) := by
  unfold mmin
  by_cases w : b < a
  · rw [if_pos ((nltI hb ha).mpr w), if_neg (by omega)]
  · rw [if_neg (fun q => w ((nltI hb ha).mp q)), if_pos (by omega)]
theorem mmax_i {a b : Nat} (ha : a < 2147483648) (hb : b < 2147483648) : mmax (nI a) (nI b) = nI (if b ≤ a then a else b) := by
  unfold mmax
  by_cases w : a < b
  · rw [if_pos ((nltI ha hb).mpr w), if_neg (by omega)]
  · rw [if_neg (fun q => w ((nltI ha hb).mp q)), if_pos (by omega)]
noncomputable def nr0 (M : Mem) (a0 : Nat) (p1 p2 : Int32) : Int32 × Int32 → Option ((Int32 × Int32) ⊕ Int32) := (fun s1 => grd (okO M 5 a0) (if (mI M a0 7) ≤ s1.2 then (some (.inr s1.1)) else (bv (fun (s11 : Int32) => bv (s1.2 + 1 : Int32) (fun x14 => some (.inl (s11, x14)))) (fun j10 => if ((sr p1 s1.2) &&& 1) = 1 then (Option.bind (mR M a0 1) (fun r15 => grd (okO M 14 r15) (grd (vp_in ((s1.2 * 6) + p2) (mL M r15)) (bv (mmin s1.1 (mI M r15 ((s1.2 * 6) + p2).toNatClampNeg) : Int32) (fun x18 => j10 x18))))) else (j10 s1.1)))))
theorem nearest_eq {M : Mem} {a0 : Nat} {p1 p2 : Int32} : f_X5_nearest M a0 p1 p2 = Option.bind (loopO (nr0 M a0 p1 p2) (1000000, 0)) (fun (x7 : Int32) => some x7) := rfl
theorem c_nearest {M : Mem} (hC : LayC M) {n : Nat} (hn : n ≤ 6) {W : Nat → Nat → Nat} (hW : PDW M n W) (bW : ∀ i j, W i j ≤ 1000000) {b d : Nat} (hb : b < 64) (hd : d < n) : ∃ x, NRS W n b.testBit d x ∧ f_X5_nearest M 34 (nI b) (nI d) = some (nI x) := by
  obtain ⟨l1, l2, l3, l4, -⟩ := lyP hC
  have key : TT (loopO (nr0 M 34 (nI b) (nI d)) (1000000, 0)) (fun z => ∃ x, NRS W n b.testBit d x ∧ z = nI x) := by
    refine TT_for n (fun k s => ∃ x, NRS W k b.testBit d x ∧ s = (nI x, nI k)) ?_ (Nat.zero_le _) ⟨1000000, ⟨Nat.le_refl _, (fun i hi => by omega), Or.inl rfl⟩, rfl⟩
    rintro k s hk ⟨x, hx, rfl⟩
    unfold nr0
    simp only
    rw [grd_y l1, hW.1]
    by_cases w : k = n
    · rw [if_pos ((nleI (by omega) (by omega)).mpr (by omega)), TT_some]
      subst w
      exact ⟨x, hx, rfl⟩
    · have hlt : k < n := by omega
      rw [if_neg (fun q => w (by have := (nleI (by omega) (by omega)).mp q; omega)), TT_bv]
      have hxl := hx.1
      by_cases wb : b.testBit k = true
      · have hWk := bW k d
        rw [if_pos ((bit_n (by omega) (by omega)).mpr wb), l2, Option.bind_some, grd_y l3, l4, show nI k * 6 = nI (k * 6) from nmul k 6, nadd, grd_y ((nvp (by omega)).mpr (by omega)), nclampI (by omega), hW.2 k d hlt hd, mmin_i (by omega) (by omega), TT_bv, TT_bv, TT_some]
        refine ⟨hlt, if x ≤ W k d then x else W k d, ?_, by rw [nsucc]⟩
        by_cases z : x ≤ W k d
        · rw [if_pos z]
          refine ⟨hx.1, fun i hi hp => ?_, ?_⟩
          · by_cases u : i = k
            · rw [u]; exact z
            · exact hx.2.1 i (by omega) hp
          · rcases hx.2.2 with q | ⟨i, q1, q2, q3⟩
            · exact Or.inl q
            · exact Or.inr ⟨i, by omega, q2, q3⟩
        · rw [if_neg z]
          refine ⟨hWk, fun i hi hp => ?_, Or.inr ⟨k, by omega, wb, rfl⟩⟩
          by_cases u : i = k
          · rw [u]; exact Nat.le_refl _
          · have := hx.2.1 i (by omega) hp
            omega
      · rw [if_neg (fun q => wb ((bit_n (by omega) (by omega)).mp q)), TT_bv, TT_some]
        refine ⟨hlt, x, ⟨hx.1, fun i hi hp => ?_, ?_⟩, by rw [nsucc]⟩
        · by_cases u : i = k
          · rw [u] at hp
            exact absurd hp wb
          · exact hx.2.1 i (by omega) hp
        · rcases hx.2.2 with q | ⟨i, q1, q2, q3⟩
          · exact Or.inl q
          · exact Or.inr ⟨i, by omega, q2, q3⟩
  obtain ⟨z, e, x, h1, h2⟩ := key
  exact ⟨x, h1, by rw [nearest_eq, e, Option.bind_some, h2]⟩
theorem others_n : ∀ b, b < 64 → ∀ d, d < 6 → nI b &&& ((sl 1 (nI d)) ^^^ (-1)) = nI (clr b d) := by decide +kernel
theorem one_n : ∀ n, n < 7 → sl 1 (nI n) = nI (2 ^ n) := by decide +kernel
theorem sng_pc : ∀ n, n < 7 → ∀ b, b < 64 → b < 2 ^ n → (pc b = 1 ↔ ∃ d, d < n ∧ b = 2 ^ d) := by
  intro n hn b hb hbn
  constructor
  · intro h
    have : ∀ b, b < 64 → pc b = 1 → ∃ d, d < 6 ∧ b = 2 ^ d := by decide +kernel
    obtain ⟨d, h1, h2⟩ := this b hb h
    refine ⟨d, ?_, h2⟩
    refine Classical.byContradiction (fun q => ?_)
    have := Nat.pow_le_pow_right (n := 2) (by omega) (show n ≤ d by omega)
    omega
  · rintro ⟨d, h1, rfl⟩
    have : ∀ d, d < 6 → pc (2 ^ d) = 1 := by decide +kernel
    exact this d (by omega)
theorem clr_ne : ∀ b, b < 64 → ∀ d, d < 6 → (clr b d = b ↔ b.testBit d = false) := by decide +kernel
noncomputable def wf0i (a0 : Nat) (set : Int32) : Mem × Int32 → Option ((Mem × Int32) ⊕ (Mem)) := (fun s24 => if (mI s24.1 a0 7) ≤ s24.2 then (some (.inr s24.1)) else (bv (set &&& ((sl 1 s24.2) ^^^ (-1)) : Int32) (fun x33 => bv (fun (s35 : Mem) => bv (s24.2 + 1 : Int32) (fun x39 => some (.inl (s35, x39)))) (fun j34 => if x33 = set then (j34 s24.1) else (if x33 = 0 then (j34 s24.1) else (Option.bind (mR s24.1 a0 4) (fun r40 => Option.bind (mR s24.1 a0 4) (fun r41 => grd (okO s24.1 14 r41) (grd (vp_in set (mL s24.1 r41)) (Option.bind (mR s24.1 a0 4) (fun r44 => grd (okO s24.1 14 r44) (grd (vp_in x33 (mL s24.1 r44)) (Option.bind (f_X5_nearest s24.1 a0 x33 s24.2) (fun q47 => grd (okO s24.1 14 r40) (grd (vp_in set (mL s24.1 r40)) (bv (wI s24.1 r40 set.toNatClampNeg (mmin (mI s24.1 r41 set.toNatClampNeg) ((mI s24.1 r44 x33.toNatClampNeg) + q47))) (fun M52 => j34 M52)))))))))))))))))
noncomputable def wfo (a0 : Nat) : Mem × Int32 → Option ((Mem × Int32) ⊕ (Mem)) := (fun s1 => grd (okO s1.1 5 a0) (if (sl 1 (mI s1.1 a0 7)) ≤ s1.2 then (some (.inr s1.1)) else (Option.bind (mR s1.1 a0 4) (fun r10 => Option.bind (f_J6_bitCount_0f7a4 s1.2) (fun q11 => bv (fun (s15 : Int32) => grd (okO s1.1 14 r10) (grd (vp_in s1.2 (mL s1.1 r10)) (bv (wI s1.1 r10 s1.2.toNatClampNeg s15) (fun M20 => Option.bind (loopO (wf0i a0 s1.2) (M20, 0)) (fun (x31 : Mem) => bv (s1.2 + 1 : Int32) (fun x57 => some (.inl (x31, x57)))))))) (fun j14 => if q11 = 1 then (j14 0) else (j14 1000000)))))))
theorem workFewest_eq {M : Mem} {a0 : Nat} : f_X5_workFewest M a0 = Option.bind (loopO (wfo a0) (M, 1)) (fun (x7 : Mem) => some x7) := rfl
def S39 (a _k : Nat) : Prop := a = 39
/-- one set, all daughters of it below d tried: v is the least so far -/
def FWI (W : Nat → Nat → Nat) (n : Nat) (F : Nat → Nat) (b d v : Nat) : Prop := v ≤ 1000000 ∧ (∀ e x, e < d → b.testBit e = true → clr b e ≠ 0 → NRS W n (clr b e).testBit e x → v ≤ F (clr b e) + x) ∧ (v = 1000000 ∨ ∃ e x, e < d ∧ b.testBit e = true ∧ clr b e ≠ 0 ∧ NRS W n (clr b e).testBit e x ∧ v = F (clr b e) + x)
