/-! the tables that are kept -/
def TBO (M : Mem) (d : Nat) : Prop := TB M d ∧ ∃ g y ru r, g < 9331 ∧ y ≤ 999 ∧ mI M d 7 = nI g ∧ mI M d 8 = nI y ∧ mI M d 9 = nI r ∧ mI M 1 13 = nI ru ∧ r ≤ ru ∧ ru < 2147483648 ∧ (r = ru → ∃ Q D kk, mI M d 4 = nI kk ∧ STB (mI M 49) (mI M d 10) ∧ TC M d Q D ∧ BFS (rdjK (mI M 49) y) g Q kk D)
def PTT (M : Mem) : Prop := ∀ i j d, i < 3 → j < 3 → mR M 33 i = some d → mR M 33 j = some d → i = j
/-- all tables are right but one of them, of which nothing is said -/
def PTX (t : Nat) (M : Mem) : Prop := PTT M ∧ ∀ i d, i < 3 → i ≠ t → mR M 33 i = some d → TBO M d
def PTH (M : Mem) : Prop := (∃ t, t < 3 ∧ mI M 32 3 = nI t) ∧ PTT M ∧ ∀ i d, i < 3 → mR M 33 i = some d → TBO M d
theorem PTH.x {M : Mem} (h : PTH M) (t : Nat) : PTX t M := ⟨h.2.1, fun i d hi _ e => h.2.2 i d hi e⟩
theorem TB.fw {S R : Nat → Nat → Prop} {M M1 : Mem} {d : Nat} (h : TB M d) (hF : Fw S R M M1) (hr : ∀ k, ¬ R d k) : TB M1 d := by
  obtain ⟨t1, t2, t3, t4, t5, t6, t7, t8, t9, t10⟩ := h
  exact ⟨t1, hF.ok t2, by rw [hF.r t2.1 (hr 0)]; exact t3, by rw [hF.r t2.1 (hr 1)]; exact t4, by rw [hF.r t2.1 (hr 2)]; exact t5, by rw [hF.r t2.1 (hr 3)]; exact t6, hF.ok t7, by rw [hF.l t7.1]; exact t8, hF.ok t9, by rw [hF.l t9.1]; exact t10⟩
theorem TC.e {M M1 : Mem} {d : Nat} {Q : List Nat} {D : Nat → Option Nat} (h : TC M d Q D) (e0 : mI M1 d 5 = mI M d 5) (e1 : ∀ k, mI M1 (d + 1) k = mI M (d + 1) k) (e2 : ∀ k, mI M1 (d + 2) k = mI M (d + 2) k) : TC M1 d Q D := ⟨by rw [e0]; exact h.1, fun p hp => by rw [e1]; exact h.2.1 p hp, fun i p hi => by rw [e2]; exact h.2.2.1 i p hi, h.2.2.2⟩
/-- a table that nothing touches -/
theorem TBO.fw {S R : Nat → Nat → Prop} {M M1 : Mem} {d : Nat} (h : TBO M d) (h78 : 78 ≤ mn M) (hF : Fw S R M M1) (hs : ∀ a k, S a k → ¬ Std d a k ∧ ¬ (a = 1 ∧ k = 13) ∧ a ≠ 49) (hr : ∀ k, ¬ R d k) : TBO M1 d := by
  obtain ⟨hT, g, y, ru, r, h1, h2, h3, h4, h5, h6, h7, h8, h9⟩ := h
  have hT1 := hT.fw hF hr
  obtain ⟨t1, t2, t3, t4, t5, t6, t7, t8, t9, t10⟩ := hT
  have e : ∀ k, mI M1 d k = mI M d k := fun k => hF.i t2.1 (fun w => (hs d k w).1 (Or.inl rfl))
  have e1 : ∀ k, mI M1 (d + 1) k = mI M (d + 1) k := fun k => hF.i t7.1 (fun w => (hs (d + 1) k w).1 (Or.inr (Or.inl rfl)))
  have e2 : ∀ k, mI M1 (d + 2) k = mI M (d + 2) k := fun k => hF.i t9.1 (fun w => (hs (d + 2) k w).1 (Or.inr (Or.inr rfl)))
  have e13 : mI M1 1 13 = mI M 1 13 := hF.i (by omega) (fun w => (hs 1 13 w).2.1 ⟨rfl, rfl⟩)
  have e49 : mI M1 49 = mI M 49 := by
    funext k
    exact hF.i (by omega) (fun w => (hs 49 k w).2.2 rfl)
  refine ⟨hT1, g, y, ru, r, h1, h2, by rw [e]; exact h3, by rw [e]; exact h4, by rw [e]; exact h5, by rw [e13]; exact h6, h7, h8, fun q => ?_⟩
  obtain ⟨Q, D, kk, g1, g2, g3, g4⟩ := h9 q
  exact ⟨Q, D, kk, by rw [e]; exact g1, by rw [e, e49]; exact g2, g3.e (e 5) e1 e2, by rw [e49]; exact g4⟩
theorem TB.dj {M : Mem} {d d' : Nat} (h : TB M d) (h' : TB M d') (hne : d ≠ d') {a k : Nat} (w : Std d a k) : ¬ Std d' a k := by
  have a1 := h.2.1.2
  have a2 := h.2.2.2.2.2.2.1.2
  have a3 := h.2.2.2.2.2.2.2.2.1.2
  have b1' := h'.2.1.2
  have b2 := h'.2.2.2.2.2.2.1.2
  have b3 := h'.2.2.2.2.2.2.2.2.1.2
  intro w'
  have t1 : d ≠ d' + 1 := fun q => by rw [← q, a1] at b2; cases b2
  have t2 : d ≠ d' + 2 := fun q => by rw [← q, a1] at b3; cases b3
  have t3 : d' ≠ d + 1 := fun q => by rw [← q, b1'] at a2; cases a2
  have t4 : d' ≠ d + 2 := fun q => by rw [← q, b1'] at a3; cases a3
  unfold Std at w w'
  omega
/-- one table goes on -/
theorem PTX.fr {t d : Nat} {M M1 : Mem} (h : PTX t M) (h78 : 78 ≤ mn M) (hd : mR M 33 t = some d) (ht : t < 3) (hT : TB M d) {S : Nat → Nat → Prop} (hF : Fr S M M1) (hs : ∀ a k, S a k → Std d a k ∨ (a < 78 ∧ ¬ (a = 1 ∧ k = 13) ∧ a ≠ 49)) : PTX t M1 := by
  have er : mR M1 = mR M := hF.2.2.2.2.1
  refine ⟨fun i j d hi hj a b => ?_, fun i d' hi hne e => ?_⟩
  · rw [er] at a b
    exact h.1 i j d hi hj a b
  · rw [er] at e
    have hO := h.2 i d' hi hne e
    refine hO.fw h78 (hF.fw (R := fun _ _ => False)) (fun a k w => ?_) (fun _ q => q)
    have hdd : d ≠ d' := fun q => hne (h.1 i t d' hi ht e (by rw [← q]; exact hd))
    have h78' := hO.1.1
    rcases hs a k w with q | q
    · refine ⟨TB.dj hT hO.1 hdd q, ?_, ?_⟩
      · have := hT.1
        unfold Std at q
        omega
      · have := hT.1
        unfold Std at q
        omega
    · refine ⟨?_, q.2⟩
      unfold Std
      omega
theorem PTX.all {t : Nat} {M : Mem} (h : PTX t M) (ht : t < 3) (h3 : mI M 32 3 = nI t) {d : Nat} (hd : mR M 33 t = some d) (hT : TBO M d) : PTH M := by
  refine ⟨⟨t, ht, h3⟩, h.1, fun i d' hi e => ?_⟩
  by_cases q : i = t
  · subst q
    rw [hd] at e
    cases e
    exact hT
  · exact h.2 i d' hi q e
theorem PTH.up {M M1 : Mem} (h : PTH M) {t : Nat} (ht : t < 3) (hx : PTX t M1) (h3 : mI M1 32 3 = mI M 32 3) {d : Nat} (hd : mR M1 33 t = some d) (hT : TBO M1 d) : PTH M1 := by
  obtain ⟨t0, ht0, e0⟩ := h.1
  refine ⟨⟨t0, ht0, by rw [h3]; exact e0⟩, hx.1, fun i d' hi e => ?_⟩
  by_cases q : i = t
  · subst q
    rw [hd] at e
    cases e
    exact hT
  · exact hx.2 i d' hi q e
def MTC (M : Mem) (d : Nat) (p1 p2 : Int32) : Prop := mI M d 7 = p1 ∧ mI M d 8 = p2 ∧ mI M d 9 = mI M 1 13
/-- no table ahead of number i is of this goal -/
def FST (M : Mem) (i : Nat) (p1 p2 : Int32) : Prop := ∀ j d, j < i → mR M 33 j = some d → ¬ MTC M d p1 p2
theorem MTC.e {M M1 : Mem} {d : Nat} {p1 p2 : Int32} (e : ∀ k, 7 ≤ k → mI M1 d k = mI M d k) (e13 : mI M1 1 13 = mI M 1 13) : MTC M1 d p1 p2 ↔ MTC M d p1 p2 := by
  unfold MTC
  rw [e 7 (by omega), e 8 (by omega), e 9 (by omega), e13]
/-- a table in use: number i -/
def TIN (B y g i d : Nat) (M : Mem) (Q : List Nat) (D : Nat → Option Nat) : Prop := i < 3 ∧ mR M 33 i = some d ∧ PTH M ∧ (∃ kk, TBS (mI M 49) B y g d kk M Q D) ∧ MTC M d (nI g) (nI y) ∧ FST M i (nI g) (nI y)
theorem TBS.tbo {B y g d kk ru : Nat} {M : Mem} {Q : List Nat} {D : Nat → Option Nat} (h : TBS (mI M 49) B y g d kk M Q D) (hg : g < 9331) (hy : y ≤ 999) (h7 : mI M d 7 = nI g) (h8 : mI M d 8 = nI y) (h9 : mI M d 9 = mI M 1 13) (h13 : mI M 1 13 = nI ru) (hru : ru < 2147483648) : TBO M d := by
  obtain ⟨m1, m2, m3, m4, m5, m6, m7, m8⟩ := h
  exact ⟨m4, g, y, ru, ru, hg, hy, h7, h8, h9.trans h13, h13, Nat.le_refl _, hru, fun _ => ⟨Q, D, kk, m5, m6, m7, m8⟩⟩
theorem OPN.ru {B y : Nat} {M : Mem} (h : OPN B y M) : ∃ ru, mI M 1 13 = nI ru ∧ ru < 2147483648 := by
  obtain ⟨tn, o, ru, y0, h1, h2, h3, h4, h5⟩ := h
  exact ⟨ru, h3, h4⟩
/-- spreading leaves the tables in step -/
theorem TIN.spr {B y g i d kk : Nat} {M M1 : Mem} {Q Q1 : List Nat} {D D1 : Nat → Option Nat} (h : TIN B y g i d M Q D) (hg : g < 9331) (hy : y ≤ 999) (h1 : TBS (mI M 49) B y g d kk M1 Q1 D1) (hF : Fr (Sdp d) M M1) : TIN B y g i d M1 Q1 D1 ∧ mI M1 49 = mI M 49 := by
  obtain ⟨t1, t2, t3, ⟨k0, t4⟩, ⟨t5, t6, t7⟩, t8⟩ := h
  have hT := t4.2.2.2.1
  have h78 := hT.1
  have e49 : mI M1 49 = mI M 49 := h1.2.2.1
  have e13 : mI M1 1 13 = mI M 1 13 := hF.i (by unfold Sdp Ssc; omega)
  have e : ∀ k, 7 ≤ k → mI M1 d k = mI M d k := fun k hk => hF.i (by unfold Sdp Ssc; omega)
  have er : mR M1 = mR M := hF.2.2.2.2.1
  obtain ⟨ru, r1, r2⟩ := t4.2.1.ru
  have s7 : mI M1 d 7 = nI g := by rw [e 7 (by omega)]; exact t5
  have s8 : mI M1 d 8 = nI y := by rw [e 8 (by omega)]; exact t6
  have s9 : mI M1 d 9 = mI M1 1 13 := by rw [e 9 (by omega), e13]; exact t7
  rw [← e49] at h1
  have hO : TBO M1 d := h1.tbo hg hy s7 s8 s9 (by rw [e13]; exact r1) r2
  have hd1 : mR M1 33 i = some d := by rw [er]; exact t2
  have hx : PTX i M1 := (t3.x i).fr t4.1.2.1 t2 t1 hT hF (fun a k w => by
    unfold Sdp Ssc at w
    unfold Std
    omega)
  refine ⟨⟨t1, hd1, t3.up t1 hx (hF.i (by unfold Sdp Ssc; omega)) hd1 hO, ⟨kk, h1⟩, ⟨s7, s8, s9⟩, fun j d' hj e' => ?_⟩, e49⟩
  rw [er] at e'
  have hT' := (t3.2.2 j d' (by omega) e').1
  have hdd : d ≠ d' := fun q => by
    have := t3.2.1 j i d (by omega) t1 (by rw [q]; exact e') t2
    omega
  have h78' := hT'.1
  rw [MTC.e (fun k hk => hF.i (fun w => ?_)) e13]
  · exact t8 j d' hj e'
  · have w' : Std d d' k := by
      unfold Sdp Ssc at w
      unfold Std
      omega
    exact TB.dj hT hT' hdd w' (Or.inl rfl)
