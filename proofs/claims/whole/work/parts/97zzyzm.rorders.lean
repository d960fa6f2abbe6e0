/-! ORDERS: the reference, wholly -/
theorem AGK.hs2 {K K' K2 : Nat → Int32} (h : AGK K K') (h2 : ∀ k, k < 18 ∨ k = 55 ∨ (57 ≤ k ∧ k < 65) ∨ (66 ≤ k ∧ k < 2466) ∨ (2866 ≤ k ∧ k < 5266) → K2 k = K' k) : AGK K K2 := by
  obtain ⟨⟨a1, a2, a3, a4⟩, a5⟩ := h
  refine ⟨⟨fun t ht => by rw [h2 t (by omega)]; exact a1 t ht, by rw [h2 55 (by omega)]; exact a2, by rw [h2 58 (by omega)]; exact a3, fun g hg e => ⟨by rw [h2 _ (by omega)]; exact (a4 g hg e).1, fun j hj => ?_⟩⟩, fun k hk => by rw [h2 k (by omega)]; exact a5 k hk⟩
  rw [h2 _ (by omega), h2 _ (by omega)]
  exact (a4 g hg e).2 j hj
def Srx (n0 a k : Nat) : Prop := Srr a k ∨ Sly 6 a k ∨ Sob n0 a k ∨ (a = 47 ∧ (k = 14 ∨ k = 46))
def RXQ (bt : Nat → Nat) (n : Nat) (A : HSE) (y : Nat) (os : List OSM) (M : Mem) (r : Option Nat) (q : Mem × Int32) : Prop := match r with
  | some j => ∃ M1, Fr (fun a k => Srr a k ∨ (a = 47 ∧ (k = 14 ∨ k = 46))) M M1 ∧ mI M1 47 17 = 0 ∧ mI M1 47 18 = nI (tkP bt n j) ∧ mI M1 47 46 = -1 ∧ q = (RFM M1 6, -6)
  | none => ∃ M1, Fr (Srx A.length) M M1 ∧ mI M1 47 17 = 0 ∧ mI M1 47 18 = -1 ∧ match orL (mI M 49) os 0 (A, y, 0, -1) with
    | .inr s => mI M1 47 46 = -1 ∧ KST (mI M1 49) s.1 s.2.1 ∧ q = (wI (wI M1 47 0 0) 47 1 (mI M1 47 1 + 1), nI s.2.2.1)
    | .inl e => mI M1 47 46 = nI e.1 ∧ KST (mI M1 49) A y ∧ (e.2 = 5 ∨ e.2 = 3) ∧ q = (RFM M1 e.2, -(nI e.2))
theorem r_ordH {M M0 : Mem} {T : Nat → Nat} {len : Nat} {bt : Nat → Nat} {n : Nat} (hru : RUL M) (hru0 : RUL M0) (he : mI M 49 = mI M0 49) {A : HSE} {y : Nat} (hks : KST (mI M 49) A y) (hT : ∀ j, len ≤ j → T j = 256) (hT2 : ∀ j, j < len → T j ≠ 256) (hlen : len ≤ 400) (eT : T = tkT bt n) (el : len = tkL bt n) (k22 : mI M 47 22 = nI len) (kS : ∀ j, j ≤ tkL bt n → SPT M bt n j) (k46 : mI M 47 46 = -1) {os : List OSM} (hx : ROX T len 0 os) : TT (ordH 47 (nI A.length) (nI y) M) (fun q => ∃ M1, Fr (Srx A.length) M M1 ∧ mI M1 47 17 = mI M 47 17 ∧ mI M1 47 18 = mI M 47 18 ∧ match orL (mI M0 49) os 0 (A, y, 0, -1) with
    | .inr s => mI M1 47 46 = -1 ∧ KST (mI M1 49) s.1 s.2.1 ∧ q = (wI (wI M1 47 0 0) 47 1 (mI M1 47 1 + 1), nI s.2.2.1)
    | .inl e => mI M1 47 46 = nI e.1 ∧ KST (mI M1 49) A y ∧ (e.2 = 5 ∨ e.2 = 3) ∧ q = (RFM M1 e.2, -(nI e.2))) := by
  unfold ordH
  rw [show (6 : Int32) = nI 6 from rfl, TT_bind]
  refine (r_lays hru.2.1 (show 6 < 7 by omega) hlen k22).mono ?_
  intro M2 hY
  have hlaw : LAWP (mI M2 49) T len 6 := by
    subst eT el
    exact hY.law kS
  obtain ⟨hF2, q65, -⟩ := hY
  have f2 : Fr (Srx A.length) M M2 := hF2.up (fun a k w => Or.inr (Or.inl w))
  have e2 : ∀ k, k < 65 ∨ (66 ≤ k ∧ k < 2466) ∨ (2866 ≤ k ∧ k < 5266) → mI M2 49 k = mI M 49 k := fun k w => hF2.i (by unfold Sly; omega)
  have ru2 : RUL M2 := hru.k (hF2.fw (R := fun _ _ => False)) (fun a k w => ⟨fun q => by unfold Sly at w; omega, fun q => by unfold Sly at w; omega, fun q => by have := q.1; unfold Sly at w; omega⟩) (fun _ _ w => w.elim) (fun k w => e2 k (by omega))
  have ks2 : KST (mI M2 49) A y := by
    obtain ⟨k1, k2, k3, k4, k5⟩ := hks
    refine ⟨k1, by rw [e2 56 (by omega)]; exact k2, by rw [e2 54 (by omega)]; exact k3, k4, fun h e q => ?_⟩
    have hh : h < A.length := (List.getElem?_eq_some_iff.mp q).1
    rw [e2 _ (by omega), e2 _ (by omega), e2 _ (by omega)]
    exact k5 h e q
  rw [TT_bv, TT_bv, TT_bv]
  have f3 : Fr (fun a k => a = 47 ∧ 47 ≤ k ∧ k ≤ 49) M2 (wI (wI (wI M2 47 47 0) 47 48 (-1)) 47 49 2400) := ((Fr.rf.wI (by omega)).wI (by omega)).wI (by omega)
  have d47 : mI (wI (wI (wI M2 47 47 0) 47 48 (-1)) 47 49 2400) 47 47 = nI 0 := by rw [mI_wI_ne (by decide), mI_wI_ne (by decide), mI_wIs]; rfl
  have d48 : mI (wI (wI (wI M2 47 47 0) 47 48 (-1)) 47 49 2400) 47 48 = -1 := by rw [mI_wI_ne (by decide), mI_wIs]
  have d49 : mI (wI (wI (wI M2 47 47 0) 47 48 (-1)) 47 49 2400) 47 49 = nI (2400 + 0) := by rw [mI_wIs]; rfl
  generalize wI (wI (wI M2 47 47 0) 47 48 (-1)) 47 49 2400 = M3 at f3 d47 d48 d49
  obtain ⟨ru3, k3⟩ := ru2.fr f3 (fun a k w => by unfold Frr; omega)
  have hlay : mR M3 47 3 = some 49 ∧ okO M3 14 49 ∧ mL M3 49 = 5666 ∧ okO M3 12 47 := by
    have := ru3.2.1
    unfold LayM at this
    simp only [this, and_self]
  obtain ⟨y1, y2, y3, y0⟩ := hlay
  rw [y1, Option.bind_some, grd_y y2, y3, grd_y (show vp_in 65 5666 from (show vp_in (nI 65) 5666 from (nvp (by omega)).mpr (by omega))), TT_bv, show (65 : Int32).toNatClampNeg = 59 + 6 from by decide, d49, k3, hlaw.1, nadd, TT_bind]
  have R3 : ROS A.length (mI M0 49) T len M3 (A, y, 0, -1) := ⟨ru3, by rw [k3]; exact ⟨by omega, fun j hj => hlaw.2 j hj⟩, by rw [k3, ← he]; exact AGK.rf.hs2 (fun k w => e2 k (by omega)), by rw [k3]; exact ks2, d47, d48, Nat.le_refl _⟩
  have f23 : Fr (Srx A.length) M M3 := f2.tr (f3.up (fun a k w => Or.inr (Or.inr (Or.inl (Or.inr (Or.inr (Or.inl w)))))))
  refine (show TT (loopO (ordC 47 (nI (2400 + len))) (M3, nI 0)) _ from (r_ordC hru0.2.2.1 hru0.2.2.2.1 hT hT2 os 0 0 M3 (A, y, 0, -1) hx R3 d49).mono ?_)
  intro z hz
  have e47 : ∀ M4, Fr (Sob A.length) M3 M4 → ∀ k, k = 17 ∨ k = 18 ∨ k = 46 → mI M4 47 k = mI M 47 k := fun M4 f4 k w => by rw [f4.i (by unfold Sob Srv Sgg; omega), f3.i (by omega), hF2.i (by unfold Sly; omega)]
  cases ho : orL (mI M0 49) os 0 (A, y, 0, -1) with
  | inr s =>
    rw [ho] at hz
    obtain ⟨M4, rfl, f4, h4⟩ := hz
    show TT (Option.bind (f_X12_good M4 47 (mI M4 47 47)) (fun q64 => some (q64.1, q64.2))) _
    rw [r_good h4.1.2.1, Option.bind_some, TT_some]
    exact ⟨M4, f23.tr (f4.up (fun a k w => Or.inr (Or.inr (Or.inl w)))), e47 M4 f4 17 (by omega), e47 M4 f4 18 (by omega), by rw [e47 M4 f4 46 (by omega)]; exact k46, h4.2.2.2.1, by rw [h4.2.2.2.2.1]⟩
  | inl e =>
    rw [ho] at hz
    obtain ⟨M4, r, rfl, hr, her, f4⟩ := hz
    have f4' : Fr (Srx A.length) M M4 := f23.tr (f4.up (fun a k w => Or.inr (Or.inr (Or.inl w))))
    have hM4 : LayM M4 := hru.2.1.fr f4'
    show TT (ordF 47 (nI A.length) (nI y) (M4, nI e.1, -(nI r))) _
    have hlay4 : mR M4 47 3 = some 49 ∧ okO M4 14 49 ∧ mL M4 49 = 5666 := by
      have := hM4
      unfold LayM at this
      simp only [this, and_self]
    obtain ⟨z1, z2, z3⟩ := hlay4
    have eok : ∀ (M : Mem) c a a' k' v, okO (wI M a' k' v) c a = okO M c a := fun _ _ _ _ _ _ => rfl
    have h12 := hks.1
    unfold ordF
    simp only
    rw [z1, Option.bind_some, grd_y z2, z3, grd_y (show vp_in 56 5666 from (show vp_in (nI 56) 5666 from (nvp (by omega)).mpr (by omega))), TT_bv, mR_wI, z1, Option.bind_some, eok, grd_y z2, mL_wI, z3, grd_y (show vp_in 54 5666 from (show vp_in (nI 54) 5666 from (nvp (by omega)).mpr (by omega))), TT_bv, TT_bv, TT_bv, show (56 : Int32).toNatClampNeg = 56 from by decide, show (54 : Int32).toNatClampNeg = 54 from by decide]
    have f5 : Fr (Srx A.length) M (wI (wI (wI M4 49 56 (nI A.length)) 49 54 (nI y)) 47 46 (nI e.1)) := ((f4'.wI (by unfold Srx Sob; omega)).wI (by unfold Srx Sob; omega)).wI (by unfold Srx Sob; omega)
    have g46 : mI (wI (wI (wI M4 49 56 (nI A.length)) 49 54 (nI y)) 47 46 (nI e.1)) 47 46 = nI e.1 := mI_wIs
    have g47 : ∀ k, k ≠ 46 → mI (wI (wI (wI M4 49 56 (nI A.length)) 49 54 (nI y)) 47 46 (nI e.1)) 47 k = mI M4 47 k := fun k w => by rw [mI_wI_ne w, mI_wI_row (by decide), mI_wI_row (by decide)]
    have g56 : mI (wI (wI (wI M4 49 56 (nI A.length)) 49 54 (nI y)) 47 46 (nI e.1)) 49 56 = nI A.length := by rw [mI_wI_row (by decide), mI_wI_ne (by decide), mI_wIs]
    have g54 : mI (wI (wI (wI M4 49 56 (nI A.length)) 49 54 (nI y)) 47 46 (nI e.1)) 49 54 = nI y := by rw [mI_wI_row (by decide), mI_wIs]
    generalize wI (wI (wI M4 49 56 (nI A.length)) 49 54 (nI y)) 47 46 (nI e.1) = M5 at f5 g46 g47 g56 g54
    have hM5 : LayM M5 := hru.2.1.fr f5
    have ks5 : KST (mI M5 49) A y := by
      obtain ⟨k1, k2, k3, k4, k5⟩ := hks
      refine ⟨k1, g56, g54, k4, fun h x q => ?_⟩
      have hh : h < A.length := (List.getElem?_eq_some_iff.mp q).1
      rw [f5.i (by unfold Srx Srr Ssp Sly Sob Srv Sgg; omega), f5.i (by unfold Srx Srr Ssp Sly Sob Srv Sgg; omega), f5.i (by unfold Srx Srr Ssp Sly Sob Srv Sgg; omega)]
      exact k5 h x q
    have fin : TT (Option.bind (f_X12_refuses M5 47 (-(nI e.2))) (fun q92 => some (q92.1, q92.2))) (fun q => ∃ M1, Fr (Srx A.length) M M1 ∧ mI M1 47 17 = mI M 47 17 ∧ mI M1 47 18 = mI M 47 18 ∧ (mI M1 47 46 = nI e.1 ∧ KST (mI M1 49) A y ∧ (e.2 = 5 ∨ e.2 = 3) ∧ q = (RFM M1 e.2, -(nI e.2)))) := by
      have h53 : e.2 = 5 ∨ e.2 = 3 := by
        rw [her]
        split
        · exact Or.inl rfl
        · exact Or.inr rfl
      rw [r_refuses hM5 (n := e.2) (by unfold RN; omega), Option.bind_some, TT_some]
      exact ⟨M5, f5, by rw [g47 17 (by decide)]; exact e47 M4 f4 17 (by omega), by rw [g47 18 (by decide)]; exact e47 M4 f4 18 (by omega), g46, ks5, h53, rfl⟩
    by_cases r5 : r = 5
    · rw [if_pos r5] at her
      rw [her, show -(nI 5) = (-5 : Int32) from by decide] at fin
      rw [if_pos (by rw [r5]; decide)]
      rw [her]
      exact fin
    · rw [if_neg r5] at her
      rw [her, show -(nI 3) = (-3 : Int32) from by decide] at fin
      rw [if_neg (by rcases hr with z | z | z | z <;> subst z <;> first | decide | exact absurd rfl r5)]
      rw [her]
      exact fin
