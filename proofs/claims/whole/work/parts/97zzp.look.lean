/-! calls that ask for STEPS -/
def Spw (M : Mem) (a k : Nat) : Prop := Spc M a k ∨ (34 ≤ a ∧ a ≤ 41) ∨ Srv a k ∨ (63 ≤ a ∧ a ≤ 67) ∨ (69 ≤ a ∧ a ≤ 73) ∨ (a = 47 ∧ k = 34) ∨ (a = 32 ∧ 3 ≤ k) ∨ (78 ≤ a ∧ mK M a = 14 ∧ mL M a = 9331)
theorem spw_x {M : Mem} : ∀ a k, Spw M a k → (a < 78 ∧ ¬ (1 ≤ a ∧ a ≤ 20) ∧ ¬ (42 ≤ a ∧ a ≤ 46) ∧ ¬ (48 ≤ a ∧ a ≤ 51) ∧ ¬ (55 ≤ a ∧ a ≤ 60) ∧ a ≠ 62 ∧ a ≠ 0 ∧ ¬ 74 ≤ a ∧ ¬ (a = 47 ∧ (k ≤ 1 ∨ k = 12 ∨ k = 17 ∨ k = 18 ∨ k = 46 ∨ k = 57)) ∧ ¬ (a = 32 ∧ k < 3)) ∨ (78 ≤ a ∧ (mK M a = 2 ∨ mK M a = 16 ∨ (mK M a = 14 ∧ mL M a = 9331))) := fun a k w => by
  rcases w with (w | w | w | w) | w | w | w | w | w | w | w
  · left; omega
  · left; omega
  · left; omega
  · exact Or.inr ⟨w.1, by omega⟩
  · left; omega
  · unfold Srv at w; left; omega
  · left; omega
  · left; omega
  · left; omega
  · left; omega
  · exact Or.inr ⟨w.1, by omega⟩
def Rpx (a k : Nat) : Prop := Rpc a k ∨ (a = 32 ∧ k = 4)
theorem rpx_old : ∀ a k, Rpx a k → oldR a k = false ∧ a ≠ 9 ∧ a ≠ 10 ∧ a < 78 ∧ a ≠ 42 := fun a k w => by
  rcases w with (w | w) | w
  · obtain ⟨rfl, rfl⟩ := w
    exact ⟨by decide, by omega, by omega, by omega, by omega⟩
  · subst w
    exact ⟨by unfold oldR; simp, by omega, by omega, by omega, by omega⟩
  · obtain ⟨rfl, rfl⟩ := w
    exact ⟨by decide, by omega, by omega, by omega, by omega⟩
theorem spw_ht {M : Mem} : ∀ a k, Spw M a k → ¬ HT M a := fun a k w q => by
  rcases spw_x a k w with z | ⟨z1, z2⟩
  · have := q.1; omega
  · rcases z2 with z | z | z <;> rcases q.2 with u | u | u | ⟨u, v⟩ <;> omega
theorem INV0.lookP {c : Nat} {M M2 : Mem} (h : INV0 c M) (hF : Fw (Spw M) Rpx M M2) (hn : mn M2 ≤ mn M + 12) (hS : SCI (300 * (c + 1)) M2) : INV0 (c + 1) M2 ∧ QST M M2 := by
  have h78 := h.2.1.1
  have ex : ∀ a k, a < 78 → (1 ≤ a ∧ a ≤ 20) ∨ (43 ≤ a ∧ a ≤ 46) ∨ (48 ≤ a ∧ a ≤ 51) ∨ (55 ≤ a ∧ a ≤ 60) ∨ a = 0 ∨ a = 77 ∨ (a = 47 ∧ (k ≤ 1 ∨ k = 12 ∨ k = 17 ∨ k = 18 ∨ k = 46 ∨ k = 57)) → mI M2 a k = mI M a k := fun a k w1 w2 => hF.i (by omega) (fun q => by have := spw_x a k q; omega)
  obtain ⟨hmid, e49⟩ := h.mid.1.fw hF (fun a k w => ⟨fun z => by
    rcases spw_x a k w with u | u
    · unfold Frl at z; omega
    · unfold Frl at z; omega, spw_ht a k w⟩) (fun a k w => ⟨(rpx_old a k w).1, (rpx_old a k w).2.1, fun q => by have := (rpx_old a k w).2.2.2.1; omega⟩)
  obtain ⟨i1, i2, ⟨n, bt, t1, t2, t3, t4⟩, i4, i5, ⟨p1, p2, p3, k, p4, p5', p6, p7⟩, i7, i8⟩ := h
  have z0 : ∀ x : Int32, x = x + nI 0 := fun x => (Int32.add_zero x).symm
  have hq : QST M M2 := ⟨0, 0, 0, by omega, by omega, by omega, by rw [ex 1 13 (by decide) (by omega)]; exact z0 _, by rw [ex 1 14 (by decide) (by omega)]; exact z0 _, by rw [ex 47 1 (by decide) (by omega)]; exact z0 _, by rw [e49]; exact fun _ => AGK.rf, by rw [e49]; exact fun _ => ⟨AGK.rf, YHK.rf⟩, by rw [e49]; exact fun _ => ⟨AGK.rf, rfl⟩⟩
  have hO2 : OUTS M2 := ⟨by rw [ex 0 12 (by decide) (by omega), ex 47 0 (by decide) (by omega)]; exact i1.2.2.2.2.1, fun m hm => by rw [ex 45 _ (by decide) (by omega), ex 48 _ (by decide) (by omega)]; exact i1.2.2.2.2.2 m hm⟩
  refine ⟨⟨⟨hmid.1.1, hmid.1.2.1, hmid.1.2.2.1, hmid.1.2.2.2.1, hO2⟩, i2.q hq hF.1 hn, ⟨n, bt, t1, by rw [ex 11 4 (by decide) (by omega)]; exact t2, by rw [ex 47 17 (by decide) (by omega)]; exact t3, fun i hi => by rw [ex 12 i (by decide) (by omega), ex 56 i (by decide) (by omega)]; exact t4 i hi⟩, fun i hi => by rw [ex 55 i (by decide) (by omega)]; exact i4 i hi, i5.fw h78 hF (fun a k w => ⟨by have := spw_x a k w; omega, by have := spw_x a k w; omega, spw_ht a k w⟩) (fun a k w => ⟨(rpx_old a k w).2.2.1, fun q => by have := q.1; have := (rpx_old a k w).2.2.2.1; omega⟩), ⟨by rw [ex 0 13 (by decide) (by omega), ex 47 12 (by decide) (by omega)]; exact p1, by rw [ex 0 14 (by decide) (by omega), ex 47 18 (by decide) (by omega)]; exact p2, by rw [ex 0 15 (by decide) (by omega), ex 47 46 (by decide) (by omega)]; exact p3, k, p4, by rw [ex 0 11 (by decide) (by omega)]; exact p5', by rw [ex 47 57 (by decide) (by omega)]; exact p6, fun i hi => by rw [ex 46 i (by decide) (by omega), ex 77 i (by decide) (by omega)]; exact p7 i hi⟩, hmid.2.2, hS⟩, hq⟩
/-- room for what the tables and the sums still take -/
def fsk (M : Mem) : Nat := nn (mR M 32 4)
def PMX (M M1 : Mem) : Prop := mn M1 + 3 * ptk M1 + fsk M1 = mn M + 3 * ptk M + fsk M ∧ mz M1 + 18673 * ptk M1 + 9331 * fsk M1 = mz M + 18673 * ptk M + 9331 * fsk M
theorem PMX.tr {M M1 M2 : Mem} (h : PMX M M1) (h2 : PMX M1 M2) : PMX M M2 := ⟨h2.1.trans h.1, h2.2.trans h.2⟩
theorem PMX.rf {M : Mem} : PMX M M := ⟨rfl, rfl⟩
theorem PMX.fr {S : Nat → Nat → Prop} {M M1 : Mem} (h : Fr S M M1) : PMX M M1 := by
  unfold PMX ptk fsk
  rw [h.2.2.2.2.1, h.1, h.2.1]
  exact ⟨rfl, rfl⟩
theorem nn_le (o : Option Nat) : nn o ≤ 1 := by
  cases o
  · exact Nat.le_refl _
  · exact Nat.zero_le _
theorem PMX.mn {M M1 : Mem} (h : PMX M M1) : mn M1 ≤ mn M + 12 := by
  have a := nn_le (mR M 33 0)
  have b := nn_le (mR M 33 1)
  have c := nn_le (mR M 33 2)
  have d := nn_le (mR M 32 4)
  have e := h.1
  unfold ptk fsk at e
  omega
/-- what a call that asks for STEPS leaves behind -/
def PTQ (c : Nat) (M M2 : Mem) : Prop := INV0 (c + 1) M2 ∧ QST M M2 ∧ Fw (Spw M) Rpx M M2 ∧ PTH M2 ∧ NXC M2 ∧ PMX M M2 ∧ mI M2 49 = mI M 49
theorem Spw.tr {M M1 M2 : Mem} (h : Fw (Spw M) Rpx M M1) (h2 : Fw (Spw M1) Rpx M1 M2) : Fw (Spw M) Rpx M M2 := by
  refine ⟨Nat.le_trans h.1 h2.1, Nat.le_trans h.2.1 h2.2.1, fun a ha => ?_, fun a k ha w => ?_, fun a k ha w => ?_⟩
  · have ha1 : a < mn M1 := Nat.lt_of_lt_of_le ha h.1
    exact ⟨(h2.2.2.1 a ha1).1.trans (h.2.2.1 a ha).1, (h2.2.2.1 a ha1).2.trans (h.2.2.1 a ha).2⟩
  · have ha1 : a < mn M1 := Nat.lt_of_lt_of_le ha h.1
    exact (h2.2.2.2.1 a k ha1 w).trans (h.2.2.2.1 a k ha w)
  · have ha1 : a < mn M1 := Nat.lt_of_lt_of_le ha h.1
    have w1 : ¬ Spw M1 a k := fun q => w (by
      unfold Spw Spc at q ⊢
      rw [(h.2.2.1 a ha).1, (h.2.2.1 a ha).2] at q
      exact q)
    exact ⟨(h2.2.2.2.2 a k ha1 w1).1.trans (h.2.2.2.2 a k ha w).1, (h2.2.2.2.2 a k ha1 w1).2.trans (h.2.2.2.2 a k ha w).2⟩
theorem Spc.w {M M1 : Mem} (h : Fw (Spc M) Rpc M M1) : Fw (Spw M) Rpx M M1 := h.up (fun _ _ w => Or.inl w) (fun _ _ w => Or.inl w)
theorem Sms.w {M M1 : Mem} (h : Fr Sms M M1) : Fw (Spw M) Rpx M M1 := (h.fw (R := Rpx)).up (fun a k w => by
  rcases w with (w | w | w | w) | w
  · exact Or.inr (Or.inr (Or.inl w))
  · exact Or.inr (Or.inr (Or.inr (Or.inl (by omega))))
  · exact Or.inr (Or.inr (Or.inr (Or.inl (by omega))))
  · exact Or.inr (Or.inr (Or.inr (Or.inr (Or.inr (Or.inl w)))))
  · exact Or.inr (Or.inr (Or.inr (Or.inl (by omega))))) (fun _ _ w => w)
theorem PTH.fr {S : Nat → Nat → Prop} {M M1 : Mem} (h : PTH M) (h78 : 78 ≤ mn M) (hF : Fr S M M1) (hs : ∀ a k, S a k → a < 78 ∧ ¬ (a = 1 ∧ k = 13) ∧ a ≠ 49 ∧ a ≠ 32) : PTH M1 := h.op h78 (hF.fw (R := Rop)) hs
/-- no change in what the tables are of: the last memory is in step -/
theorem PTQ.mk {c : Nat} {M M2 : Mem} (h : INV0 c M) (hF : Fw (Spw M) Rpx M M2) (hS : SCI (300 * (c + 1)) M2) (hP : PTH M2) (hN : NXC M2) (hX : PMX M M2) (hK : mI M2 49 = mI M 49) : PTQ c M M2 := by
  obtain ⟨a, b⟩ := h.lookP hF hX.mn hS
  exact ⟨a, b, hF, hP, hN, hX, hK⟩
theorem PTQ.same {c : Nat} {M : Mem} (h : INV0 c M) (hP : PTH M) (hN : NXC M) : PTQ c M M := PTQ.mk h Fw.rf (h.mid.2.mono (by omega)) hP hN PMX.rf rfl
/-- what only first() and lines() keep is as it was -/
def KF (M M2 : Mem) : Prop := (∀ k, 4 ≤ k → mI M2 32 k = mI M 32 k) ∧ mR M2 32 4 = mR M 32 4 ∧ ∀ a k, 34 ≤ a → a ≤ 41 → mI M2 a k = mI M a k
theorem KF.rf {M : Mem} : KF M M := ⟨fun _ _ => rfl, rfl, fun _ _ _ _ => rfl⟩
theorem KF.mk {S : Nat → Nat → Prop} {M M1 M2 : Mem} (h78 : 78 ≤ mn M) (f1 : Fw (Spc M) Rpc M M1) (f2 : Fr S M1 M2) (hs : ∀ a k, S a k → 47 ≤ a) : KF M M2 := by
  refine ⟨fun k hk => ?_, ?_, fun a k h1 h2 => ?_⟩
  · rw [f2.i (fun q => by have := hs 32 k q; omega), f1.i (by omega) (fun q => by rcases q with q | q | q | q <;> omega)]
  · rw [f2.2.2.2.2.1, f1.r (by omega) (fun q => by
      rcases q with q | q
      · have := q.1; omega
      · omega)]
  · rw [f2.i (fun q => by have := hs a k q; omega), f1.i (by omega) (fun q => by rcases q with q | q | q | q <;> omega)]
def PCALL (c : Nat) (M : Mem) (f g : Mem → Option (Mem × Int32)) : Prop := ∃ M1 M2 x, f M = some (M1, x) ∧ g M1 = some (M2, x) ∧ PTQ c M M2 ∧ KF M M2
theorem PCALL.same {c : Nat} {M : Mem} {f g : Mem → Option (Mem × Int32)} (h : INV0 c M) (hP : PTH M) (hN : NXC M) (x : Int32) (hf : f M = some (M, x)) (hg : g M = some (M, x)) : PCALL c M f g := ⟨M, M, x, hf, hg, PTQ.same h hP hN, KF.rf⟩
theorem lay0 {M : Mem} (h : MID M) : okO M 11 0 ∧ mR M 0 0 = some 1 ∧ mR M 0 5 = some 26 ∧ mR M 0 6 = some 32 ∧ mR M 0 7 = some 34 ∧ okO M 1 26 ∧ okO M 5 34 := by
  have hL := h.1.1
  unfold LayC at hL
  simp only [hL, and_self]
theorem PMN.x {M M1 : Mem} {S : Nat → Nat → Prop} (h : PMN M M1) (h78 : 78 ≤ mn M) (hF : Fw S Rpc M M1) : PMX M M1 := by
  have hr : mR M1 32 4 = mR M 32 4 := hF.r (by omega) (fun q => by
    rcases q with q | q
    · have := q.1; omega
    · omega)
  unfold PMX fsk
  rw [hr]
  have := h.1
  have := h.2
  omega
/-- the reference's part behind the class's part -/
theorem isD_rk {K : Nat → Int32} {y a b d : Nat} : isD (adjK K y) a b d ↔ isD (rdjK K y) b a d := isD_rev (fun p q => Iff.rfl)
theorem opt_iff {o o' : Option Nat} (h : ∀ d, o = some d ↔ o' = some d) : o = o' := by
  cases o with
  | none =>
    cases o' with
    | none => rfl
    | some d => exact ((h d).mpr rfl)
  | some d => exact ((h d).mp rfl).symm
