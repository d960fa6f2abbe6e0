/-! ORDERS: the reference obeys -/
def obQ (M : Mem) (A : List (Option Nat × Nat × List Nat)) (y : Nat) (v : Int) (o : Nat ⊕ List Nat) (q : Mem × Int32) : Prop := match o with
  | .inl r => q.2 = -(nI r) ∧ Fr Srv M q.1
  | .inr l => q.2 = nI A.length ∧ ∃ M', Fr Srv M M' ∧ q.1 = wI (ADDM M' A.length (ii v) (nI y) (nI (num l))) 47 48 (nI (num l))
theorem r_obeysT {M : Mem} (hM : LayM M) (h51 : ¬ mI M 47 51 = 19) {v : Int} (hv : S32 v) (j0 : mJ M 76 0 = jj v) : f_X12_obeys M 47 = some (if 0 ≤ v ∧ v ≤ 999 then (wI M 49 54 (nI v.toNat), 0) else (M, -1)) := by
  obtain ⟨l1, l2, l3, l4, -⟩ := ly76 hM
  have hlay : mR M 47 3 = some 49 ∧ okO M 14 49 ∧ mL M 49 = 5666 := by
    have := hM
    unfold LayM at this
    simp only [this, and_self]
  obtain ⟨y1, y2, y3⟩ := hlay
  have g0 : vp_in 0 3 := show vp_in (nI 0) 3 from (nvp (by omega)).mpr (by omega)
  have g54 : vp_in 54 5666 := show vp_in (nI 54) 5666 from (nvp (by omega)).mpr (by omega)
  have c0 : (0 : Int32).toNatClampNeg = 0 := by decide
  have c54 : (54 : Int32).toNatClampNeg = 54 := by decide
  unfold f_X12_obeys
  rw [grd_y l1, if_neg h51, l2, Option.bind_some, grd_y l3, l4, grd_y g0, c0, j0, r_small hv, Option.bind_some, p_lies, Option.bind_some]
  by_cases q : 0 ≤ v ∧ v ≤ 999
  · obtain ⟨n, hn⟩ := Int.eq_ofNat_of_zero_le q.1
    subst hn
    have e : sm (n : Int) = nI n := by
      unfold sm
      rw [if_pos ⟨by omega, by omega⟩, nI_ii]
    have hle : 0 ≤ nI n ∧ nI n ≤ 999 := by
      rw [show (0 : Int32) = nI 0 from rfl, show (999 : Int32) = nI 999 from rfl, nleI (by omega) (by omega), nleI (by omega) (by omega)]
      omega
    rw [e, if_pos hle, if_neg (show ¬ (1 : Int32) = 0 by decide), y1, Option.bind_some, grd_y y2, y3, grd_y g54, c54, if_pos q]
    rfl
  · have hle : ¬ (0 ≤ sm v ∧ sm v ≤ 999) := fun w => by
      unfold sm at w
      by_cases z : 0 ≤ v ∧ v ≤ 1000000
      · rw [if_pos z, show (0 : Int32) = ii 0 from rfl, show (999 : Int32) = ii 999 from rfl, ii_le ⟨by omega, by omega⟩ ⟨by omega, by omega⟩, ii_le ⟨by omega, by omega⟩ ⟨by omega, by omega⟩] at w
        exact q w
      · rw [if_neg z] at w
        exact absurd w.1 (by decide)
    rw [if_neg hle, if_pos rfl, if_neg q]
theorem r_obeysB {M : Mem} (hru : RUL M) {A : List (Option Nat × Nat × List Nat)} {y : Nat} (hks : KST (mI M 49) A y) (h51 : mI M 47 51 = 19) {k : Nat} (h52 : mI M 47 52 = nI k) {v th pl : Int} (hv : S32 v) (ht : S32 th) (hp : S32 pl) (j0 : mJ M 76 0 = jj v) (j1 : mJ M 76 1 = jj th) (j2 : mJ M 76 2 = jj pl) : TT (f_X12_obeys M 47) (obQ M A y v (gbO (mI M 49) A y (ii v) (nI k) (ii pl) (ii th))) := by
  have hM := hru.2.1
  obtain ⟨l1, l2, l3, l4, -⟩ := ly76 hM
  have g0 : vp_in 0 3 := show vp_in (nI 0) 3 from (nvp (by omega)).mpr (by omega)
  have g1 : vp_in 1 3 := show vp_in (nI 1) 3 from (nvp (by omega)).mpr (by omega)
  have g2 : vp_in 2 3 := show vp_in (nI 2) 3 from (nvp (by omega)).mpr (by omega)
  have c0 : (0 : Int32).toNatClampNeg = 0 := by decide
  have c1 : (1 : Int32).toNatClampNeg = 1 := by decide
  have c2 : (2 : Int32).toNatClampNeg = 2 := by decide
  have hA : ∀ (h : Nat) (e : Option Nat × Nat × List Nat), A[h]? = some e → DL e.2.2 := fun h e q => (hks.2.2.2.2 h e q).2.2.1
  unfold f_X12_obeys
  rw [grd_y l1, if_pos h51, l2, Option.bind_some, grd_y l3, l4, grd_y g0, c0, j0, r_small hv, Option.bind_some, Option.bind_some, grd_y l3, l4, grd_y g2, c2, j2, r_small hp, Option.bind_some, Option.bind_some, grd_y l3, l4, grd_y g1, c1, j1, r_small ht, Option.bind_some, h52, TT_bind]
  refine (r_bears hru hks (sm v) (nI k) (sm pl) (sm th)).mono ?_
  rintro ⟨M1, r⟩ hq
  rw [gbO_sm hks.1 hv hp ht] at hq
  cases ho : gbO (mI M 49) A y (ii v) (nI k) (ii pl) (ii th) with
  | inl e =>
    rw [ho] at hq
    obtain ⟨q1, q2⟩ := hq
    simp only at q1 q2 ⊢
    have hneg : -(nI e) < 0 := by
      rcases gbO_inl ho with z | z | z | z <;> subst z <;> decide
    rw [q1, if_pos hneg, TT_some]
    exact ⟨rfl, q2⟩
  | inr l =>
    rw [ho] at hq
    obtain ⟨q1, M', q2, q3⟩ := hq
    simp only at q1 q2 q3 ⊢
    obtain ⟨⟨g, hg, eg⟩, h12, hl⟩ := gbO_inr hru.2.2.1 hks.1 hA ho
    have esm : sm v = ii v := by
      rcases sm_or hv with z | ⟨-, z⟩
      · exact z
      · refine absurd ?_ (z 1000 (by omega))
        rw [eg, show (0 : Int32) = nI 0 from rfl, nleI (by omega) (by omega), nleI (by omega) (by omega)]
        omega
    have hM' : LayM M' := hM.fr q2
    have hM1 : LayM M1 := by rw [q3]; exact hM'
    rw [q1, if_neg (by rw [show (0 : Int32) = nI 0 from rfl, nltI (by omega) (by omega)]; omega), show (2 : Int32) = nI 2 from rfl, r_factK hM1 h12 (by omega), Option.bind_some, TT_bv, TT_some]
    refine ⟨rfl, M', q2, ?_⟩
    show wI M1 47 48 (mI M1 49 (18 + 3 * A.length + 2)) = _
    have ev : mI M1 49 (18 + 3 * A.length + 2) = nI (num l) := by
      rw [q3, addm_49]
      unfold KADD
      rw [if_neg (by omega), if_pos rfl]
    rw [ev, q3, esm]
