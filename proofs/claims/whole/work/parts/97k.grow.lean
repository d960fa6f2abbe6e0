/-! a frame for what allocates: old rows stay, but for the cells of S and the references of R -/
def Fw (S R : Nat → Nat → Prop) (M M' : Mem) : Prop := mn M ≤ mn M' ∧ mz M ≤ mz M' ∧ (∀ a, a < mn M → mK M' a = mK M a ∧ mL M' a = mL M a) ∧ (∀ a k, a < mn M → ¬ R a k → mR M' a k = mR M a k) ∧ ∀ a k, a < mn M → ¬ S a k → mI M' a k = mI M a k ∧ mJ M' a k = mJ M a k
section
variable {S R S' R' : Nat → Nat → Prop} {M M1 M2 : Mem}
theorem Fw.rf : Fw S R M M := ⟨Nat.le_refl _, Nat.le_refl _, fun _ _ => ⟨rfl, rfl⟩, fun _ _ _ _ => rfl, fun _ _ _ _ => ⟨rfl, rfl⟩⟩
theorem Fw.tr (h : Fw S R M M1) (h2 : Fw S R M1 M2) : Fw S R M M2 := by
  obtain ⟨a1, a2, a3, a4, a5⟩ := h
  obtain ⟨b1', b2, b3, b4, b5⟩ := h2
  refine ⟨Nat.le_trans a1 b1', Nat.le_trans a2 b2, fun a ha => ?_, fun a k ha hr => ?_, fun a k ha hs => ?_⟩
  · rw [(b3 a (by omega)).1, (b3 a (by omega)).2]
    exact a3 a ha
  · rw [b4 a k (by omega) hr]
    exact a4 a k ha hr
  · rw [(b5 a k (by omega) hs).1, (b5 a k (by omega) hs).2]
    exact a5 a k ha hs
theorem Fw.up (h : Fw S R M M1) (hs : ∀ a k, S a k → S' a k) (hr : ∀ a k, R a k → R' a k) : Fw S' R' M M1 := ⟨h.1, h.2.1, h.2.2.1, fun a k ha w => h.2.2.2.1 a k ha (fun q => w (hr a k q)), fun a k ha w => h.2.2.2.2 a k ha (fun q => w (hs a k q))⟩
theorem Fr.fw (h : Fr S M M1) : Fw S R M M1 := by
  obtain ⟨a1, a2, a3, a4, a5, a6⟩ := h
  exact ⟨by omega, by omega, fun a _ => ⟨by rw [a3], by rw [a4]⟩, fun a k _ _ => by rw [a5], fun a k _ w => a6 a k w⟩
theorem Fw.i (h : Fw S R M M1) {a k : Nat} (ha : a < mn M) (hs : ¬ S a k) : mI M1 a k = mI M a k := (h.2.2.2.2 a k ha hs).1
theorem Fw.r (h : Fw S R M M1) {a k : Nat} (ha : a < mn M) (hr : ¬ R a k) : mR M1 a k = mR M a k := h.2.2.2.1 a k ha hr
theorem Fw.ok (h : Fw S R M M1) {c a : Nat} (ho : okO M c a) : okO M1 c a := ⟨by have := ho.1; have := h.1; omega, by rw [(h.2.2.1 a ho.1).1]; exact ho.2⟩
theorem Fw.l (h : Fw S R M M1) {a : Nat} (ha : a < mn M) : mL M1 a = mL M a := (h.2.2.1 a ha).2
theorem Fw_nO {c n : Nat} : Fw S R M (nO M c n) := by
  refine ⟨by show _ ≤ mn M + 1; omega, by show _ ≤ mz M + n; omega, fun a ha => ⟨?_, rfl⟩, fun a k ha _ => ?_, fun a k ha _ => ⟨?_, rfl⟩⟩
  · show va_up (mK M) (mn M) c a = _
    unfold va_up
    rw [if_neg (by omega)]
  · show va_up (mR M) (mn M) (fun _ => none) a k = _
    unfold va_up
    rw [if_neg (by omega)]
  · show va_up (mI M) (mn M) (fun _ => 0) a k = _
    unfold va_up
    rw [if_neg (by omega)]
theorem Fw_nA {c n : Nat} : Fw S R M (nA M c n) := by
  refine ⟨by show _ ≤ mn M + 1; omega, by show _ ≤ mz M + n; omega, fun a ha => ⟨?_, ?_⟩, fun a k ha _ => ?_, fun a k ha _ => ⟨?_, ?_⟩⟩
  · show va_up (mK M) (mn M) c a = _
    unfold va_up
    rw [if_neg (by omega)]
  · show va_up (mL M) (mn M) n a = _
    unfold va_up
    rw [if_neg (by omega)]
  · show va_up (mR M) (mn M) (fun _ => none) a k = _
    unfold va_up
    rw [if_neg (by omega)]
  · show va_up (mI M) (mn M) (fun _ => 0) a k = _
    unfold va_up
    rw [if_neg (by omega)]
  · show va_up (mJ M) (mn M) (fun _ => 0) a k = _
    unfold va_up
    rw [if_neg (by omega)]
/-- references of the fixed rows that never change -/
def oldR (a k : Nat) : Bool := (decide (a < 78)) && !(decide (a = 9) || decide (a = 10) || (decide (a = 21) && decide (k = 3)) || decide (a = 33) || (decide (a = 32) && decide (3 ≤ k)) || (decide (a = 42) && decide (3 ≤ k)))
theorem LayC.fw (h : LayC M) (h78 : 78 ≤ mn M) (hF : Fw S R M M1) (hr : ∀ a k, oldR a k = true → ¬ R a k) : LayC M1 := by
  have eL : ∀ a, a < 78 → mL M1 a = mL M a := fun a ha => hF.l (Nat.lt_of_lt_of_le ha h78)
  have eR : ∀ a k, oldR a k = true → mR M1 a k = mR M a k := by
    intro a k w
    refine hF.r ?_ (hr a k w)
    have : a < 78 := by
      unfold oldR at w
      simp only [Bool.and_eq_true, decide_eq_true_eq] at w
      exact w.1
    omega
  unfold LayC at h ⊢
  obtain ⟨x0, x1, x2, x3, x4, x5, x6, x7, x8, x9, x10, x11, x12, x13, x14, x15, x16, x17, x18, x19, x20, x21, x22, x23, x24, x25, x26, x27, x28, x29, x30, x31, x32, x33, x34, x35, x36, x37, x38, x39, x40, x41, x42, x43, x44, x45, x46, x47, x48, x49, x50, x51, x52, x53, x54, x55, x56, x57, x58, x59, x60, x61, x62, x63, x64, x65, x66, x67, x68, x69, x70, x71, x72, x73, x74, x75, x76, x77, x78, x79, x80, x81, x82, x83, x84, x85, x86, x87, x88, x89, x90, x91, x92, x93, x94, x95, x96, x97, x98, x99, x100, x101, x102, x103, x104, x105, x106, x107, x108, x109, x110, x111, x112, x113, x114, x115, x116, x117, x118, x119, x120, x121, x122, x123, x124, x125, x126, x127, x128, x129, x130, x131, x132, x133⟩ := h
  exact ⟨hF.ok x0, hF.ok x1, hF.ok x2, (eL 2 (by decide)).trans x3, hF.ok x4, (eL 3 (by decide)).trans x5, hF.ok x6, (eL 4 (by decide)).trans x7, hF.ok x8, (eL 5 (by decide)).trans x9, hF.ok x10, (eL 6 (by decide)).trans x11, hF.ok x12, (eL 7 (by decide)).trans x13, hF.ok x14, (eL 8 (by decide)).trans x15, hF.ok x16, (eL 9 (by decide)).trans x17, hF.ok x18, (eL 10 (by decide)).trans x19, hF.ok x20, hF.ok x21, (eL 12 (by decide)).trans x22, hF.ok x23, (eL 13 (by decide)).trans x24, hF.ok x25, (eL 14 (by decide)).trans x26, hF.ok x27, hF.ok x28, (eL 16 (by decide)).trans x29, hF.ok x30, (eL 17 (by decide)).trans x31, hF.ok x32, hF.ok x33, (eL 19 (by decide)).trans x34, hF.ok x35, (eL 20 (by decide)).trans x36, hF.ok x37, hF.ok x38, hF.ok x39, (eL 23 (by decide)).trans x40, hF.ok x41, (eL 24 (by decide)).trans x42, hF.ok x43, (eL 25 (by decide)).trans x44, hF.ok x45, hF.ok x46, hF.ok x47, (eL 28 (by decide)).trans x48, hF.ok x49, (eL 29 (by decide)).trans x50, hF.ok x51, (eL 30 (by decide)).trans x52, hF.ok x53, (eL 31 (by decide)).trans x54, hF.ok x55, hF.ok x56, (eL 33 (by decide)).trans x57, hF.ok x58, hF.ok x59, (eL 35 (by decide)).trans x60, hF.ok x61, (eL 36 (by decide)).trans x62, hF.ok x63, (eL 37 (by decide)).trans x64, hF.ok x65, (eL 38 (by decide)).trans x66, hF.ok x67, (eL 39 (by decide)).trans x68, hF.ok x69, (eL 40 (by decide)).trans x70, hF.ok x71, (eL 41 (by decide)).trans x72, hF.ok x73, hF.ok x74, (eL 43 (by decide)).trans x75, hF.ok x76, (eL 44 (by decide)).trans x77, hF.ok x78, (eL 45 (by decide)).trans x79, hF.ok x80, (eL 46 (by decide)).trans x81, (eR 0 0 (by decide)).trans x82, (eR 0 1 (by decide)).trans x83, (eR 0 2 (by decide)).trans x84, (eR 0 3 (by decide)).trans x85, (eR 0 4 (by decide)).trans x86, (eR 0 5 (by decide)).trans x87, (eR 0 6 (by decide)).trans x88, (eR 0 7 (by decide)).trans x89, (eR 0 8 (by decide)).trans x90, (eR 0 9 (by decide)).trans x91, (eR 0 10 (by decide)).trans x92, (eR 1 0 (by decide)).trans x93, (eR 1 1 (by decide)).trans x94, (eR 1 2 (by decide)).trans x95, (eR 1 3 (by decide)).trans x96, (eR 1 4 (by decide)).trans x97, (eR 1 5 (by decide)).trans x98, (eR 1 6 (by decide)).trans x99, (eR 1 7 (by decide)).trans x100, (eR 11 0 (by decide)).trans x101, (eR 11 1 (by decide)).trans x102, (eR 11 2 (by decide)).trans x103, (eR 11 3 (by decide)).trans x104, (eR 15 0 (by decide)).trans x105, (eR 15 1 (by decide)).trans x106, (eR 18 0 (by decide)).trans x107, (eR 18 1 (by decide)).trans x108, (eR 21 0 (by decide)).trans x109, (eR 21 1 (by decide)).trans x110, (eR 21 2 (by decide)).trans x111, (eR 22 0 (by decide)).trans x112, (eR 22 1 (by decide)).trans x113, (eR 26 0 (by decide)).trans x114, (eR 26 1 (by decide)).trans x115, (eR 26 2 (by decide)).trans x116, (eR 26 3 (by decide)).trans x117, (eR 26 4 (by decide)).trans x118, (eR 27 0 (by decide)).trans x119, (eR 27 1 (by decide)).trans x120, (eR 32 0 (by decide)).trans x121, (eR 32 1 (by decide)).trans x122, (eR 32 2 (by decide)).trans x123, (eR 34 0 (by decide)).trans x124, (eR 34 1 (by decide)).trans x125, (eR 34 2 (by decide)).trans x126, (eR 34 3 (by decide)).trans x127, (eR 34 4 (by decide)).trans x128, (eR 34 5 (by decide)).trans x129, (eR 34 6 (by decide)).trans x130, (eR 42 0 (by decide)).trans x131, (eR 42 1 (by decide)).trans x132, (eR 42 2 (by decide)).trans x133⟩
theorem LayM.fw (h : LayM M) (h78 : 78 ≤ mn M) (hF : Fw S R M M1) (hr : ∀ a k, oldR a k = true → ¬ R a k) : LayM M1 := by
  have eL : ∀ a, a < 78 → mL M1 a = mL M a := fun a ha => hF.l (Nat.lt_of_lt_of_le ha h78)
  have eR : ∀ a k, oldR a k = true → mR M1 a k = mR M a k := by
    intro a k w
    refine hF.r ?_ (hr a k w)
    have : a < 78 := by
      unfold oldR at w
      simp only [Bool.and_eq_true, decide_eq_true_eq] at w
      exact w.1
    omega
  unfold LayM at h ⊢
  obtain ⟨x0, x1, x2, x3, x4, x5, x6, x7, x8, x9, x10, x11, x12, x13, x14, x15, x16, x17, x18, x19, x20, x21, x22, x23, x24, x25, x26, x27, x28, x29, x30, x31, x32, x33, x34, x35, x36, x37, x38, x39, x40, x41, x42, x43, x44, x45, x46, x47, x48, x49, x50, x51, x52, x53, x54, x55, x56, x57, x58, x59, x60, x61, x62, x63, x64, x65, x66, x67, x68, x69, x70, x71, x72, x73, x74, x75, x76, x77, x78, x79, x80, x81, x82, x83, x84, x85, x86, x87, x88, x89, x90⟩ := h
  exact ⟨hF.ok x0, hF.ok x1, (eL 48 (by decide)).trans x2, hF.ok x3, (eL 49 (by decide)).trans x4, hF.ok x5, (eL 50 (by decide)).trans x6, hF.ok x7, (eL 51 (by decide)).trans x8, hF.ok x9, (eL 52 (by decide)).trans x10, hF.ok x11, (eL 53 (by decide)).trans x12, hF.ok x13, (eL 54 (by decide)).trans x14, hF.ok x15, (eL 55 (by decide)).trans x16, hF.ok x17, (eL 56 (by decide)).trans x18, hF.ok x19, (eL 57 (by decide)).trans x20, hF.ok x21, (eL 58 (by decide)).trans x22, hF.ok x23, (eL 59 (by decide)).trans x24, hF.ok x25, (eL 60 (by decide)).trans x26, hF.ok x27, (eL 61 (by decide)).trans x28, hF.ok x29, (eL 62 (by decide)).trans x30, hF.ok x31, (eL 63 (by decide)).trans x32, hF.ok x33, (eL 64 (by decide)).trans x34, hF.ok x35, (eL 65 (by decide)).trans x36, hF.ok x37, (eL 66 (by decide)).trans x38, hF.ok x39, (eL 67 (by decide)).trans x40, hF.ok x41, (eL 68 (by decide)).trans x42, hF.ok x43, (eL 69 (by decide)).trans x44, hF.ok x45, (eL 70 (by decide)).trans x46, hF.ok x47, (eL 71 (by decide)).trans x48, hF.ok x49, (eL 72 (by decide)).trans x50, hF.ok x51, (eL 73 (by decide)).trans x52, hF.ok x53, (eL 74 (by decide)).trans x54, hF.ok x55, (eL 75 (by decide)).trans x56, hF.ok x57, (eL 76 (by decide)).trans x58, hF.ok x59, (eL 77 (by decide)).trans x60, (eR 47 2 (by decide)).trans x61, (eR 47 3 (by decide)).trans x62, (eR 47 4 (by decide)).trans x63, (eR 47 5 (by decide)).trans x64, (eR 47 6 (by decide)).trans x65, (eR 47 9 (by decide)).trans x66, (eR 47 10 (by decide)).trans x67, (eR 47 13 (by decide)).trans x68, (eR 47 15 (by decide)).trans x69, (eR 47 16 (by decide)).trans x70, (eR 47 19 (by decide)).trans x71, (eR 47 20 (by decide)).trans x72, (eR 47 21 (by decide)).trans x73, (eR 47 30 (by decide)).trans x74, (eR 47 31 (by decide)).trans x75, (eR 47 32 (by decide)).trans x76, (eR 47 33 (by decide)).trans x77, (eR 47 35 (by decide)).trans x78, (eR 47 36 (by decide)).trans x79, (eR 47 37 (by decide)).trans x80, (eR 47 38 (by decide)).trans x81, (eR 47 39 (by decide)).trans x82, (eR 47 40 (by decide)).trans x83, (eR 47 41 (by decide)).trans x84, (eR 47 42 (by decide)).trans x85, (eR 47 43 (by decide)).trans x86, (eR 47 44 (by decide)).trans x87, (eR 47 45 (by decide)).trans x88, (eR 47 55 (by decide)).trans x89, (eR 47 56 (by decide)).trans x90⟩
end
