/-! ORDERS: the class, wholly -/
def Sci (a k : Nat) : Prop := Srd a k ∨ (a = 11 ∧ k = 4) ∨ (a = 0 ∧ (k = 14 ∨ k = 15))
def Scx (n0 a k : Nat) : Prop := Sci a k ∨ Sco n0 a k
theorem Sci_x : ∀ a k, Sci a k → a < 18 ∧ (a = 0 ∨ 11 ≤ a) ∧ a ≠ 12 ∧ ¬ (a = 0 ∧ k < 14) := fun a k w => by
  unfold Sci Srd at w
  omega
theorem Sco_x {n0 : Nat} : ∀ a k, Sco n0 a k → a < 78 ∧ ¬ (9 ≤ a ∧ a ≤ 18) ∧ a ≠ 0 ∧ ¬ (a = 1 ∧ ¬ (k = 8 ∨ k = 11 ∨ k = 14)) ∧ ¬ (2 ≤ a ∧ a ≤ 4) ∧ ¬ (5 ≤ a ∧ a ≤ 8 ∧ k < n0) ∧ a ≠ 22 ∧ ¬ (32 ≤ a ∧ a ≤ 46) ∧ ¬ (48 ≤ a ∧ a ≤ 51) ∧ ¬ (55 ≤ a ∧ a ≤ 60) ∧ ¬ (62 ≤ a ∧ a ≤ 67) ∧ ¬ (69 ≤ a) ∧ ¬ (a = 47 ∧ ¬ (k = 7 ∨ k = 8 ∨ k = 11 ∨ (26 ≤ k ∧ k ≤ 29))) := fun a k w => by
  rcases w with w | w | w | w | w
  · rcases w with w | w | w | w | w | w | w | w <;> omega
  all_goals omega
theorem CST.inj {M M1 : Mem} {A A' : HSE} {y y' : Nat} (h : CST M A y) (h' : CST M1 A' y') (e : ∀ a k, Shs a k → mI M1 a k = mI M a k) : A' = A ∧ y' = y := by
  obtain ⟨a1, a2, a3, a4, a5⟩ := h
  obtain ⟨b1', b2, b3, b4, b5⟩ := h'
  have hl : A'.length = A.length := by
    refine (neqI (by omega) (by omega)).mp ?_
    rw [← b2, ← a2]
    exact e 1 8 (by unfold Shs; omega)
  have hy : y' = y := by
    refine (neqI (by omega) (by omega)).mp ?_
    rw [← b3, ← a3]
    exact e 1 11 (by unfold Shs; omega)
  refine ⟨List.ext_getElem? (fun i => ?_), hy⟩
  by_cases hi : i < A.length
  · have e1 := List.getElem?_eq_getElem hi
    have e2 := List.getElem?_eq_getElem (show i < A'.length by omega)
    rw [e1, e2]
    generalize A[i] = x at e1
    generalize A'[i]'(show i < A'.length by omega) = x' at e2
    obtain ⟨c1, c2, c3, c4, c5, c6, -⟩ := a5 i x e1
    obtain ⟨d1, d2, d3, d4, d5, d6, -⟩ := b5 i x' e2
    have f5 : oI x'.1 = oI x.1 := by rw [← d4, ← c4]; exact e 5 i (by unfold Shs; omega)
    have f6 : nI x'.2.1 = nI x.2.1 := by rw [← d5, ← c5]; exact e 6 i (by unfold Shs; omega)
    have f7 : nI (rank x'.2.2) = nI (rank x.2.2) := by rw [← d6, ← c6]; exact e 7 i (by unfold Shs; omega)
    have g5 : x'.1 = x.1 := by
      cases hx : x.1 with
      | none =>
        rw [hx] at f5
        exact (oI_m1 (fun u w => by have := d1 u w; omega)).mp f5
      | some m =>
        rw [hx] at f5
        have hm := c1 m hx
        exact (oI_n (fun u w => by have := d1 u w; omega) (show m < 2147483648 by omega)).mp f5
    have g6 : x'.2.1 = x.2.1 := (neqI (by omega) (by omega)).mp f6
    have g7 : x'.2.2 = x.2.2 := (rank_inj d3 c3).mp f7
    obtain ⟨m, yy, l⟩ := x
    obtain ⟨m', yy', l'⟩ := x'
    simp only at g5 g6 g7
    rw [g5, g6, g7]
  · rw [List.getElem?_eq_none (by omega), List.getElem?_eq_none (by omega)]
theorem KST.yhk {K K' : Nat → Int32} {A : HSE} {y : Nat} (h : KST K A y) (h' : KST K' A y) : YHK K K' := by
  obtain ⟨a1, a2, a3, a4, a5⟩ := h
  obtain ⟨b1', b2, b3, b4, b5⟩ := h'
  refine ⟨by rw [a3, b3], by rw [a2, b2], fun n g h1 h2 h3 => ?_⟩
  have hn : n = A.length := (neqI (by omega) (by omega)).mp (h2.symm.trans a2)
  have e := List.getElem?_eq_getElem (show g < A.length by omega)
  obtain ⟨-, -, -, c4, c5, c6⟩ := a5 g _ e
  obtain ⟨-, -, -, d4, d5, d6⟩ := b5 g _ e
  exact ⟨by rw [c4, d4], by rw [c5, d5], by rw [c6, d6]⟩
def CXQ (bt : Nat → Nat) (n : Nat) (A : HSE) (y : Nat) (os : List OSM) (c : Nat) (M : Mem) (r : Nat ⊕ (List CL × List Nat)) (q : Mem × Int32) : Prop := match r with
  | .inl j => ∃ M1, Fr Sci M M1 ∧ mI M1 11 4 = 0 ∧ mI M1 0 14 = nI (tkP bt n j) ∧ mI M1 0 15 = -1 ∧ q = (RFC M1 6, -6)
  | .inr _ => ∃ M1, Fw (Scx A.length) Rop M M1 ∧ mn M1 = mn M ∧ mz M1 = mz M ∧ mI M1 11 4 = 0 ∧ mI M1 0 14 = -1 ∧ RUL M1 ∧ mI M1 49 = mI M 49 ∧ SCI (300 * c + 240) M1 ∧ match orL (mI M 49) os 0 (A, y, 0, -1) with
    | .inr s => mI M1 0 15 = -1 ∧ CST M1 s.1 s.2.1 ∧ (∃ d, d ≤ 240 ∧ mI M1 1 14 = mI M 1 14 + nI d ∧ (d = 0 → s.1 = A ∧ s.2.1 = y)) ∧ q = (wI M1 0 12 0, nI s.2.2.1)
    | .inl e => mI M1 0 15 = nI e.1 ∧ CST M1 A y ∧ (e.2 = 5 ∨ e.2 = 3) ∧ (∃ d, d ≤ 240 ∧ mI M1 1 14 = mI M 1 14 + nI (d + 2)) ∧ q = (RFC M1 e.2, -(nI e.2))
def Skt (a k : Nat) : Prop := (a = 0 ∧ k = 15) ∨ (a = 1 ∧ (k = 8 ∨ k = 11 ∨ k = 14))
theorem keepHouses_eq {M : Mem} (h : okO M 10 1) {m n : Nat} (hm : m ≤ 12) (hn : n ≤ m) (h8 : mI M 1 8 = nI m) : f_X10_keepHouses M 1 (nI n) = some (wI (wI M 1 8 (nI n)) 1 14 (mI M 1 14 + 1)) := by
  unfold f_X10_keepHouses
  rw [grd_y h]
  simp only [bv]
  rw [h8, keep_n hm hn, mI_wI_ne (by decide)]
theorem c_coF {n0 B : Nat} {K0 : Nat → Int32} {cls : List CL} {code : List Nat} {M : Mem} {A : HSE} {y e1 e2 y0 : Nat} (h : COS n0 B K0 cls code M A y) (he : e2 = 5 ∨ e2 = 3) : ∃ M1, coF 0 (nI n0) (nI y0) (M, nI e1, -(nI e2)) = some (RFC M1 e2, -(nI e2)) ∧ Fr Skt M M1 ∧ mI M1 0 15 = nI e1 ∧ mI M1 1 8 = nI n0 ∧ mI M1 1 11 = nI y0 ∧ mI M1 1 14 = mI M 1 14 + nI 2 := by
  have hC := h.1.1
  have l : okO M 10 1 ∧ mR M 0 0 = some 1 := by
    unfold LayC at hC
    simp only [hC, and_self]
  obtain ⟨l1, l2⟩ := l
  have f1 : Fr Skt M (wI M 0 15 (nI e1)) := Fr.rf.wI (show Skt 0 15 from Or.inl ⟨rfl, rfl⟩)
  have g1 : mI (wI M 0 15 (nI e1)) 0 15 = nI e1 := mI_wIs
  have g8 : mI (wI M 0 15 (nI e1)) 1 8 = nI A.length := by rw [mI_wI_row (by decide)]; exact h.2.2.2.1.2.1
  have g14 : mI (wI M 0 15 (nI e1)) 1 14 = mI M 1 14 := by rw [mI_wI_row (by decide)]
  unfold coF
  simp only [bv]
  generalize wI M 0 15 (nI e1) = M1 at *
  have l1' : okO M1 10 1 := okO_fr f1 l1
  rw [f1.2.2.2.2.1, l2, Option.bind_some, grd_y l1', keepHouses_eq l1' h.2.2.2.1.1 h.2.2.2.2.2 g8, Option.bind_some]
  have f2 : Fr Skt M (wI (wI M1 1 8 (nI n0)) 1 14 (mI M1 1 14 + 1)) := (f1.wI (show Skt 1 8 from Or.inr ⟨rfl, Or.inl rfl⟩)).wI (show Skt 1 14 from Or.inr ⟨rfl, Or.inr (Or.inr rfl)⟩)
  have k1 : mI (wI (wI M1 1 8 (nI n0)) 1 14 (mI M1 1 14 + 1)) 0 15 = nI e1 := by rw [mI_wI_row (by decide), mI_wI_row (by decide)]; exact g1
  have k8 : mI (wI (wI M1 1 8 (nI n0)) 1 14 (mI M1 1 14 + 1)) 1 8 = nI n0 := by rw [mI_wI_ne (by decide), mI_wIs]
  have k14 : mI (wI (wI M1 1 8 (nI n0)) 1 14 (mI M1 1 14 + 1)) 1 14 = mI M 1 14 + 1 := by rw [mI_wIs, g14]
  generalize wI (wI M1 1 8 (nI n0)) 1 14 (mI M1 1 14 + 1) = M2 at *
  have l2' : okO M2 10 1 := okO_fr f2 l1
  rw [f2.2.2.2.2.1, l2, Option.bind_some, grd_y l2', turnTo_eq l2', Option.bind_some]
  have f3 : Fr Skt M (wI (wI M2 1 11 (nI y0)) 1 14 (mI M2 1 14 + 1)) := (f2.wI (show Skt 1 11 from Or.inr ⟨rfl, Or.inr (Or.inl rfl)⟩)).wI (show Skt 1 14 from Or.inr ⟨rfl, Or.inr (Or.inr rfl)⟩)
  have m1 : mI (wI (wI M2 1 11 (nI y0)) 1 14 (mI M2 1 14 + 1)) 0 15 = nI e1 := by rw [mI_wI_row (by decide), mI_wI_row (by decide)]; exact k1
  have m8 : mI (wI (wI M2 1 11 (nI y0)) 1 14 (mI M2 1 14 + 1)) 1 8 = nI n0 := by rw [mI_wI_ne (by decide), mI_wI_ne (by decide)]; exact k8
  have m11 : mI (wI (wI M2 1 11 (nI y0)) 1 14 (mI M2 1 14 + 1)) 1 11 = nI y0 := by rw [mI_wI_ne (by decide), mI_wIs]
  have m14 : mI (wI (wI M2 1 11 (nI y0)) 1 14 (mI M2 1 14 + 1)) 1 14 = mI M 1 14 + nI 2 := by
    rw [mI_wIs, k14, Int32.add_assoc]
    rfl
  generalize wI (wI M2 1 11 (nI y0)) 1 14 (mI M2 1 14 + 1) = M3 at *
  rw [c_refuse (hC.fr f3) (n := e2) (by unfold RN; omega), Option.bind_some]
  exact ⟨M3, rfl, f3, m1, m8, m11, m14⟩
theorem c_ordersT {c : Nat} (hc : c < 600) {M : Mem} (hru : RUL M) (hS : SCI (300 * c) M) {A : HSE} {y : Nat} (hcs : CST M A y) {n : Nat} {bt : Nat → Nat} (ht : TAPE M n bt) {os : List OSM} (hx : ∀ x, pRd true (tkT bt n) 12 0 0 0 = .inr x → HCL x.1 x.2 os ∧ ∀ v, v ∈ x.2 → v < 2147483648) : TT (f_X11_orders M 0) (CXQ bt n A y os c M (pRd true (tkT bt n) 12 0 0 0)) := by
  have hC := hru.1
  have h78 : 78 ≤ mn M := hru.2.2.2.2.2.2.2.2.1
  have l : okO M 11 0 ∧ mR M 0 2 = some 11 ∧ okO M 7 11 := by
    unfold LayC at hC
    simp only [hC, and_self]
  obtain ⟨l1, l2, l3⟩ := l
  rw [corders_eq, grd_y l1, l2, Option.bind_some, grd_y l3, TT_bind]
  refine (show TT (f_X7_read M 11 (b1 true)) _ from (c_read (ord := true) hC ht).mono ?_)
  rintro ⟨M1, g⟩ ⟨f1, hm⟩
  simp only at f1 hm ⊢
  rw [f1.2.2.2.2.1, l2, Option.bind_some, grd_y (okO_fr f1 l3), TT_bv, mR_wI, f1.2.2.2.2.1, l2, Option.bind_some, ok_wI, grd_y (okO_fr f1 l3), TT_bv, TT_bv, mI_wI_ne (show 5 ≠ 4 by decide)]
  have f2 : Fr Sci M (wI (wI (wI M1 11 4 0) 0 14 (mI M1 11 5)) 0 15 (-1)) := (((f1.up (S' := Sci) (fun a k w => Or.inl w)).wI (show Sci 11 4 from Or.inr (Or.inl ⟨rfl, rfl⟩))).wI (show Sci 0 14 from Or.inr (Or.inr ⟨rfl, Or.inl rfl⟩))).wI (show Sci 0 15 from Or.inr (Or.inr ⟨rfl, Or.inr rfl⟩))
  have e4 : mI (wI (wI (wI M1 11 4 0) 0 14 (mI M1 11 5)) 0 15 (-1)) 11 4 = 0 := by rw [mI_wI_row (by decide), mI_wI_row (by decide), mI_wIs]
  have e14 : mI (wI (wI (wI M1 11 4 0) 0 14 (mI M1 11 5)) 0 15 (-1)) 0 14 = mI M1 11 5 := by rw [mI_wI_ne (by decide), mI_wIs]
  have e15 : mI (wI (wI (wI M1 11 4 0) 0 14 (mI M1 11 5)) 0 15 (-1)) 0 15 = -1 := mI_wIs
  have eT : ∀ a k, a = 15 ∨ a = 16 ∨ a = 17 → mI (wI (wI (wI M1 11 4 0) 0 14 (mI M1 11 5)) 0 15 (-1)) a k = mI M1 a k := fun a k w => by rw [mI_wI_row (by omega), mI_wI_row (by omega), mI_wI_row (by omega)]
  generalize wI (wI (wI M1 11 4 0) 0 14 (mI M1 11 5)) 0 15 (-1) = M2 at *
  have hC2 := hC.fr f2
  cases hr : pRd true (tkT bt n) 12 0 0 0 with
  | inl j =>
    rw [hr] at hm
    obtain ⟨m1, m2⟩ := hm
    have e := c_refuse hC2 (n := 6) (by unfold RN; omega)
    rw [show -(nI 6) = (-6 : Int32) by decide] at e
    rw [m1, if_pos rfl, e, Option.bind_some, TT_some]
    exact ⟨M2, f2, e4, by rw [e14]; exact m2, e15, rfl⟩
  | inr x =>
    rw [hr] at hm
    obtain ⟨m1, m2, m3, m4, ⟨m5, m5'⟩, m6, m7, -⟩ := hm
    obtain ⟨hH, hv⟩ := hx x hr
    rw [m1, if_neg (by decide)]
    obtain ⟨ru2, k2⟩ := hru.fr f2 (fun a k w => by have := Sci_x a k w; unfold Frr; omega)
    have s2 : SCI (300 * c) M2 := hS.fr2 h78 f2 (fun a k w => by have := Sci_x a k w; omega)
    have cs2 : CST M2 A y := hcs.fw h78 (f2.fw (R := fun _ _ => False)) (fun a k w => by have := Sci_x a k w; omega)
    have dt2 : DTX M2 x.1 x.2 := ⟨by rw [eT 15 2 (by omega)]; exact m3, m7, m6, hv, fun i cl h1 f hf => by rw [eT 16 _ (by omega)]; exact m5 i cl h1 f hf, fun i v h1 => by rw [eT 17 _ (by omega)]; exact m5' i v h1⟩
    have c2 : COS A.length (300 * c) (mI M 49) x.1 x.2 M2 A y := ⟨ru2, k2, s2, cs2, dt2, Nat.le_refl _⟩
    have n2 : 78 ≤ mn M2 := by rw [f2.1]; exact h78
    have l2' : mR M2 0 0 = some 1 ∧ okO M2 10 1 := by
      have := hC2
      unfold LayC at this
      simp only [this, and_self]
    unfold coH
    rw [l2'.1, Option.bind_some, grd_y l2'.2, TT_bv, Option.bind_some, grd_y l2'.2, TT_bv, cs2.2.1, cs2.2.2.1, TT_bind]
    refine (c_tellSteward hC2 n2 cs2).mono ?_
    rintro M3 ⟨f3, w3⟩
    have hs19 : ∀ a k, S19 a k → a = 19 ∨ a = 20 := fun a k w => Or.inl w
    have c3 := c2.fr f3 hs19
    rw [TT_bind]
    refine (show TT (loopO (coC 0) (M3, nI 0)) _ from (c_coL hH x.1.length 0 (300 * c) M3 (A, y, 0, -1) (by omega) (by omega) c3 w3).mono ?_)
    intro z hz
    rw [List.drop_zero] at hz
    have fM2 : Fw (Scx A.length) Rop M M2 := (f2.fw).up (fun a k w => Or.inl w) (fun _ _ w => w)
    have fM3 : CFW A.length 0 M2 M3 := CFW.fr f3 hs19
    cases ho : orL (mI M 49) os 0 (A, y, 0, -1) with
    | inr s =>
      rw [ho] at hz
      obtain ⟨M4, rfl, f4, c4, w4⟩ := hz
      show TT (coG 0 M4) _
      obtain ⟨g1, g2, g3, d, g4, g5, g6⟩ := fM3.tr f4
      have hC4 := c4.1.1
      have l4 : mR M4 0 3 = some 18 ∧ okO M4 3 18 ∧ mR M4 18 0 = some 19 ∧ okO M4 14 19 ∧ mL M4 19 = 88 := by
        have := hC4
        unfold LayC at this
        simp only [this, and_self]
      obtain ⟨q1, q2, q3, q4, q5⟩ := l4
      have e2 : mI M4 19 2 = nI s.2.2.1 := w4 2 (by omega) (by omega) 0
      unfold coG
      rw [q1, Option.bind_some, grd_y q2, q3, Option.bind_some, grd_y q4, q5, grd_y (show vp_in 2 88 from (show vp_in (nI 2) 88 from (nvp (by omega)).mpr (by omega))), show (2 : Int32).toNatClampNeg = 2 from by decide, e2, c_accept hC4, Option.bind_some, TT_some]
      have ex : ∀ a k, a < 78 → ¬ Sco A.length a k → mI M4 a k = mI M2 a k := fun a k w1 w2 => g1.i (by omega) w2
      refine ⟨M4, fM2.tr (g1.up (fun a k w => Or.inr w) (fun _ _ w => w)), by rw [g2, f2.1], by rw [g3, f2.2.1], by rw [ex 11 4 (by omega) (fun q => by have := Sco_x 11 4 q; omega)]; exact e4, by rw [ex 0 14 (by omega) (fun q => by have := Sco_x 0 14 q; omega), e14]; exact m2, c4.1, c4.2.1, c4.2.2.1.mono (by omega), ?_⟩
      rw [ho]
      refine ⟨by rw [ex 0 15 (by omega) (fun q => by have := Sco_x 0 15 q; omega)]; exact e15, c4.2.2.2.1, ⟨d, by omega, by rw [g5, f2.i (fun q => by have := Sci_x 1 14 q; omega)], fun w => ?_⟩, rfl⟩
      exact cs2.inj c4.2.2.2.1 (g6 w)
    | inl e =>
      rw [ho] at hz
      obtain ⟨M4, rfl, he, f4, A', y', c4⟩ := hz
      show TT (coF 0 (nI A.length) (nI y) (M4, nI e.1, -(nI e.2))) _
      obtain ⟨g1, g2, g3, d, g4, g5, g6⟩ := fM3.tr f4
      obtain ⟨M5, q1, q2, q3, q4, q5, q6⟩ := c_coF (e1 := e.1) (e2 := e.2) (y0 := y) c4 he
      rw [q1, TT_some]
      have n4 : 78 ≤ mn M4 := c4.1.2.2.2.2.2.2.2.2.1
      obtain ⟨ru5, k5⟩ := c4.1.fr q2 (fun a k w => by unfold Skt at w; unfold Frr; omega)
      have ex : ∀ a k, a < 78 → ¬ Sco A.length a k → mI M4 a k = mI M2 a k := fun a k w1 w2 => g1.i (by omega) w2
      have s5 : SCI (300 * c + 240) M5 := (c4.2.2.1.mono (by omega)).fwH n4 (q2.fw (R := fun _ _ => False)) (fun a k w => ⟨by unfold Skt at w; omega, by unfold Skt at w; omega, by unfold Skt at w; omega, by unfold Skt at w; omega, by unfold Skt at w; omega, by unfold Skt at w; omega, fun z => by have := z.1; unfold Skt at w; omega⟩) (fun _ _ w => w.elim)
      refine ⟨M5, (fM2.tr (g1.up (fun a k w => Or.inr w) (fun _ _ w => w))).tr ((q2.fw).up (fun a k w => by unfold Skt at w; unfold Scx Sci Sco; omega) (fun _ _ w => w)), by rw [q2.1, g2, f2.1], by rw [q2.2.1, g3, f2.2.1], by rw [q2.i (by unfold Skt; omega), ex 11 4 (by omega) (fun q => by have := Sco_x 11 4 q; omega)]; exact e4, by rw [q2.i (by unfold Skt; omega), ex 0 14 (by omega) (fun q => by have := Sco_x 0 14 q; omega), e14]; exact m2, ru5, k5.trans c4.2.1, s5, ?_⟩
      rw [ho]
      refine ⟨q3, ⟨hcs.1, q4, q5, hcs.2.2.2.1, fun i w hw => ?_⟩, he, ⟨d, by omega, ?_⟩, rfl⟩
      · have hi : i < A.length := (List.getElem?_eq_some_iff.mp hw).1
        have ey : ∀ a, 5 ≤ a → a ≤ 8 → mI M5 a i = mI M2 a i := fun a w1 w2 => by rw [q2.i (by unfold Skt; omega), ex a i (by omega) (fun q => by have := Sco_x a i q; omega)]
        rw [ey 5 (by omega) (by omega), ey 6 (by omega) (by omega), ey 7 (by omega) (by omega), ey 8 (by omega) (by omega)]
        exact cs2.2.2.2.2 i w hw
      · rw [q6, g5, f2.i (fun q => by have := Sci_x 1 14 q; omega), Int32.add_assoc, nadd]
