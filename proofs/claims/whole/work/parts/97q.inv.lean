/-! the invariant, but for what Paths, Pedigree and Chances keep -/
/-- kept rows agree in all that rules are told by -/
def AGK (K K' : Nat → Int32) : Prop := AGW K K' ∧ ∀ k, k < 18 → K' k = K k
/-- and in the YEAR and the HOUSES -/
def YHK (K K' : Nat → Int32) : Prop := K' 54 = K 54 ∧ K' 56 = K 56 ∧ ∀ n h, n ≤ 12 → K 56 = nI n → h < n → K' (18 + 3 * h) = K (18 + 3 * h) ∧ K' (19 + 3 * h) = K (19 + 3 * h) ∧ K' (20 + 3 * h) = K (20 + 3 * h)
def QST (M M2 : Mem) : Prop := ∃ d1 d2 d3, d1 ≤ 1 ∧ d2 ≤ 300 ∧ d3 ≤ 1 ∧ mI M2 1 13 = mI M 1 13 + nI d1 ∧ mI M2 1 14 = mI M 1 14 + nI d2 ∧ mI M2 47 1 = mI M 47 1 + nI d3 ∧ (d1 = 0 → AGK (mI M 49) (mI M2 49)) ∧ (d2 = 0 → AGK (mI M 49) (mI M2 49) ∧ YHK (mI M 49) (mI M2 49)) ∧ (d3 = 0 → AGK (mI M 49) (mI M2 49) ∧ mI M2 49 54 = mI M 49 54)
theorem AGW.rf {K : Nat → Int32} : AGW K K := ⟨fun _ _ => rfl, rfl, rfl, fun _ _ _ => ⟨rfl, fun _ _ => ⟨rfl, rfl⟩⟩⟩
theorem AGK.rf {K : Nat → Int32} : AGK K K := ⟨AGW.rf, fun _ _ => rfl⟩
theorem YHK.rf {K : Nat → Int32} : YHK K K := ⟨rfl, rfl, fun _ _ _ _ _ => ⟨rfl, rfl, rfl⟩⟩
/-- an IMAGE of the class (its Valley v, its rows behind it) is told by a kept row -/
def IMV (M : Mem) (v : Nat) (K : Nat → Int32) : Prop := 78 ≤ v ∧ okO M 10 v ∧ (∀ j, j < 8 → mR M v j = some (v + 1 + j)) ∧ (∀ j, j < 3 → okO M 14 (v + 1 + j) ∧ mL M (v + 1 + j) = 6) ∧ (∀ j, j < 4 → okO M 14 (v + 4 + j) ∧ mL M (v + 4 + j) = 12) ∧ okO M 19 (v + 8) ∧ mL M (v + 8) = 6 ∧ KOK K ∧ CVt M (v + 1) (v + 2) (v + 3) K ∧ CVo M v K ∧ CVh M (v + 4) (v + 5) (v + 6) (v + 7) K ∧ LWS M (v + 8) K
def IMK (M : Mem) (k i : Nat) : Int32 := mI M 50 (5666 * k + i)
def IMG (M : Mem) : Prop := (∀ k, k < 2 → (mI M 51 k = 0 ∧ mR M 10 k = none) ∨ (mI M 51 k = 1 ∧ ∃ v, mR M 10 k = some v ∧ IMV M v (IMK M k))) ∧ ∀ v v', mR M 10 0 = some v → mR M 10 1 = some v' → v ≠ v'
theorem IMV.ht {M : Mem} {v : Nat} {K : Nat → Int32} (h : IMV M v K) {j : Nat} (hj : j ≤ 8) : HT M (v + j) := by
  obtain ⟨a1, a2, a3, a4, a5, a6, a7, _⟩ := h
  refine ⟨by omega, ?_⟩
  have c : j = 0 ∨ (∃ i, i < 3 ∧ v + j = v + 1 + i) ∨ (∃ i, i < 4 ∧ v + j = v + 4 + i) ∨ j = 8 := by
    by_cases h0 : j = 0
    · exact Or.inl h0
    · by_cases h1 : j < 4
      · exact Or.inr (Or.inl ⟨j - 1, by omega, by omega⟩)
      · by_cases h2 : j < 8
        · exact Or.inr (Or.inr (Or.inl ⟨j - 4, by omega, by omega⟩))
        · exact Or.inr (Or.inr (Or.inr (by omega)))
  rcases c with rfl | ⟨i, hi, e⟩ | ⟨i, hi, e⟩ | rfl
  · exact Or.inr (Or.inl a2.2)
  · rw [e]
    exact Or.inr (Or.inr (Or.inr ⟨(a4 i hi).1.2, by have := (a4 i hi).2; omega⟩))
  · rw [e]
    exact Or.inr (Or.inr (Or.inr ⟨(a5 i hi).1.2, by have := (a5 i hi).2; omega⟩))
  · exact Or.inr (Or.inr (Or.inl a6.2))
theorem IMV.lt {M : Mem} {v : Nat} {K : Nat → Int32} (h : IMV M v K) {j : Nat} (hj : j ≤ 8) : v + j < mn M := by
  obtain ⟨a1, a2, a3, a4, a5, a6, a7, _⟩ := h
  have := a6.1
  omega
theorem IMV.fw {S R : Nat → Nat → Prop} {M M1 : Mem} {v : Nat} {K : Nat → Int32} (h : IMV M v K) (hF : Fw S R M M1) (hs : ∀ a k, S a k → ¬ HT M a) (hr : ∀ a k, R a k → ¬ HT M a) : IMV M1 v K := by
  have l : ∀ j, j ≤ 8 → v + j < mn M := fun j hj => h.lt hj
  have e : ∀ j k, j ≤ 8 → mI M1 (v + j) k = mI M (v + j) k := fun j k hj => hF.i (l j hj) (fun q => hs _ _ q (h.ht hj))
  have er : ∀ j k, j ≤ 8 → mR M1 (v + j) k = mR M (v + j) k := fun j k hj => hF.r (l j hj) (fun q => hr _ _ q (h.ht hj))
  obtain ⟨a1, a2, a3, a4, a5, a6, a7, a8, a9, a10, a11, a12⟩ := h
  refine ⟨a1, hF.ok a2, fun j hj => ?_, fun j hj => ⟨hF.ok (a4 j hj).1, ?_⟩, fun j hj => ⟨hF.ok (a5 j hj).1, ?_⟩, hF.ok a6, ?_, a8, fun t ht => ?_, ?_, fun n h h1 h2 h3 => ?_, a12.fw (l 8 (by omega)) hF hs (fun a k q => ⟨fun w => hr _ _ q (by rw [w]; exact ⟨by omega, Or.inr (Or.inr (Or.inl a6.2))⟩), fun w1 w2 => hr _ _ q ⟨w1, Or.inl w2⟩⟩) (fun _ _ _ _ _ _ => rfl)⟩
  · rw [show mR M1 v j = mR M v j from er 0 j (by omega)]
    exact a3 j hj
  · rw [hF.l (by have := l (1 + j) (by omega); omega)]
    exact (a4 j hj).2
  · rw [hF.l (by have := l (4 + j) (by omega); omega)]
    exact (a5 j hj).2
  · rw [hF.l (l 8 (by omega))]
    exact a7
  · rw [e 1 t (by omega), e 2 t (by omega), e 3 t (by omega)]
    exact a9 t ht
  · unfold CVo
    rw [show ∀ k, mI M1 v k = mI M v k from fun k => e 0 k (by omega)]
    rw [show ∀ k, mI M1 v k = mI M v k from fun k => e 0 k (by omega)]
    rw [show ∀ k, mI M1 v k = mI M v k from fun k => e 0 k (by omega)]
    rw [show ∀ k, mI M1 v k = mI M v k from fun k => e 0 k (by omega)]
    rw [show ∀ k, mI M1 v k = mI M v k from fun k => e 0 k (by omega)]
    exact a10
  · rw [e 4 h (by omega), e 5 h (by omega), e 6 h (by omega), e 7 h (by omega)]
    exact a11 n h h1 h2 h3
theorem IMG.fw {S R : Nat → Nat → Prop} {M M1 : Mem} (h : IMG M) (h78 : 78 ≤ mn M) (hF : Fw S R M M1) (hs : ∀ a k, S a k → a ≠ 50 ∧ a ≠ 51 ∧ ¬ HT M a) (hr : ∀ a k, R a k → a ≠ 10 ∧ ¬ HT M a) : IMG M1 := by
  have er : ∀ k, mR M1 10 k = mR M 10 k := fun k => hF.r (by omega) (fun q => (hr _ _ q).1 rfl)
  have e51 : ∀ k, mI M1 51 k = mI M 51 k := fun k => hF.i (by omega) (fun q => (hs _ _ q).2.1 rfl)
  have eK : ∀ k, IMK M1 k = IMK M k := fun k => funext (fun i => hF.i (by omega) (fun q => (hs _ _ q).1 rfl))
  obtain ⟨h1, h2⟩ := h
  refine ⟨fun k hk => ?_, fun v v' e e' => h2 v v' (by rw [← er]; exact e) (by rw [← er]; exact e')⟩
  rw [e51, er, eK]
  rcases h1 k hk with q | ⟨q, v, q2, q3⟩
  · exact Or.inl q
  · exact Or.inr ⟨q, v, q2, q3.fw hF (fun a k w => (hs a k w).2.2) (fun a k w => (hr a k w).2)⟩
/-- the cells of single answers -/
def SMP (M : Mem) : Prop := mI M 0 13 = mI M 47 12 ∧ mI M 0 14 = mI M 47 18 ∧ mI M 0 15 = mI M 47 46 ∧ DRW M
def BND (c : Nat) (M : Mem) : Prop := 78 ≤ mn M ∧ mn M ≤ 78 + 12 * c ∧ (∃ ru, mI M 1 13 = nI ru ∧ 1 ≤ ru ∧ ru ≤ 1 + c) ∧ (∃ st, mI M 1 14 = nI st ∧ 1 ≤ st ∧ st ≤ 1 + 300 * c) ∧ ∃ ve, mI M 47 1 = nI ve ∧ ve ≤ c
def INV0 (c : Nat) (M : Mem) : Prop := REL M ∧ BND c M ∧ (∃ n bt, TAPE M n bt) ∧ RWB M ∧ IMG M ∧ SMP M ∧ LWS M 9 (mI M 49) ∧ SCI (300 * c) M
theorem BND.q {c : Nat} {M M2 : Mem} (h : BND c M) (hq : QST M M2) (h1 : mn M ≤ mn M2) (h2 : mn M2 ≤ mn M + 12) : BND (c + 1) M2 := by
  obtain ⟨a1, a2, ⟨ru, a3, a4, a5⟩, ⟨st, a6, a7, a8⟩, ve, a9, a10⟩ := h
  obtain ⟨d1, d2, d3, e1, e2, e3, e4, e5, e6, _⟩ := hq
  refine ⟨by omega, by omega, ⟨ru + d1, ?_, by omega, by omega⟩, ⟨st + d2, ?_, by omega, by omega⟩, ve + d3, ?_, by omega⟩
  · rw [e4, a3, nadd]
  · rw [e5, a6, nadd]
  · rw [e6, a9, nadd]
theorem SCI.q {B B' c : Nat} {M M2 : Mem} {S R : Nat → Nat → Prop} (hc : c < 600) (h : SCI B M) (hB : B ≤ B') (hb : BND c M) (hR : REL M) (hR2 : REL M2) (hq : QST M M2) (hF : Fw S R M M2) (hs : ∀ a k, S a k → a ≠ 21 ∧ a ≠ 25 ∧ ¬ HT M a) (hr : ∀ a k, R a k → ¬ (a = 21 ∧ k = 3) ∧ (78 ≤ a → mK M a ≠ 9)) : SCI B' M2 := by
  obtain ⟨tn, r, ru, y0, s1, s2, s3, s4, s5, s6, s7, s8, s9, s10, s11⟩ := h
  obtain ⟨a1, a2, ⟨ru', a3, a4, a5⟩, _⟩ := hb
  obtain ⟨d1, d2, d3, e1, e2, e3, e4, e5, e6, e7, _⟩ := hq
  have er : ru = ru' := (neqI (by omega) (by omega)).mp (s5.symm.trans a3)
  have e3' : mR M2 21 3 = mR M 21 3 := hF.r (by omega) (fun q => (hr 21 3 q).1 ⟨rfl, rfl⟩)
  have e25 : ∀ k, mI M2 25 k = mI M 25 k := fun k => hF.i (by omega) (fun q => (hs _ _ q).2.1 rfl)
  have e21 : ∀ k, mI M2 21 k = mI M 21 k := fun k => hF.i (by omega) (fun q => (hs _ _ q).1 rfl)
  refine ⟨tn, r, ru + d1, y0, by omega, (e21 4).trans s2, s3.e e25, (e21 5).trans s4, by rw [e4, s5, nadd], by omega, by omega, (e21 6).trans s8, s9, fun tx e => hF.ok (s10 tx (by rw [← e3']; exact e)), fun w => ?_⟩
  have hd : d1 = 0 := by omega
  obtain ⟨ag, ak⟩ := e7 hd
  obtain ⟨o, o1, o2⟩ := s11 (by omega)
  obtain ⟨hC, hM, ⟨kt, km, ⟨cc, hc6, h57, h58⟩, kh⟩, ⟨vt, vo, vh⟩, hO⟩ := hR
  obtain ⟨hC2, hM2, ⟨kt2, km2, kl2, kh2⟩, ⟨vt2, vo2, vh2⟩, hO2⟩ := hR2
  refine ⟨o, ag.law (by
    rcases h58 with q | ⟨f, q1, q2⟩
    · exact Or.inl q
    · exact Or.inr ⟨f, by omega, q2⟩) o1, o2.fw a1 hF hs hr (fun t ht => ?_) (fun t ht => ?_) ?_ ag.1 ag.2.1 (fun t ht => ?_)⟩
  · rw [(vt2 t ht).1, (vt t ht).1, ag.1 t ht]
  · rw [(vt2 t ht).2.1, (vt t ht).2.1, ak (6 + t) (by omega)]
  · rw [vo2.2.2.2.2, vo.2.2.2.2, ag.2.1]
  · unfold gtK
    rw [ak (6 + t) (by omega)]
/-- a call that leaves the Scale alone -/
theorem INV0.step {c : Nat} {M M2 : Mem} {S R : Nat → Nat → Prop} (hc : c < 600) (h : INV0 c M) (hR2 : REL M2) (hq : QST M M2) (hF : Fw S R M M2) (hn : mn M2 ≤ mn M + 12) (hs : ∀ a k, S a k → a ≠ 21 ∧ a ≠ 25 ∧ a ≠ 50 ∧ a ≠ 51 ∧ a ≠ 55 ∧ ¬ HT M a) (hr : ∀ a k, R a k → ¬ (a = 21 ∧ k = 3) ∧ a ≠ 10 ∧ ¬ HT M a) (hT : ∃ n bt, TAPE M2 n bt) (hP : SMP M2) (hL : LWS M2 9 (mI M2 49)) : INV0 (c + 1) M2 := by
  obtain ⟨i1, i2, i3, i4, i5, i6, i7, i8⟩ := h
  have h78 := i2.1
  refine ⟨hR2, i2.q hq hF.1 hn, hT, fun i hi => ?_, i5.fw h78 hF (fun a k w => ⟨(hs a k w).2.2.1, (hs a k w).2.2.2.1, (hs a k w).2.2.2.2.2⟩) (fun a k w => (hr a k w).2), hP, hL, i8.q hc (by omega) i2 i1 hR2 hq hF (fun a k w => ⟨(hs a k w).1, (hs a k w).2.1, (hs a k w).2.2.2.2.2⟩) (fun a k w => ⟨(hr a k w).1, fun w1 w2 => (hr a k w).2.2 ⟨w1, Or.inl w2⟩⟩)⟩
  rw [hF.i (by omega) (fun q => (hs _ _ q).2.2.2.2.1 rfl)]
  exact i4 i hi
