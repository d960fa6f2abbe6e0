theorem r_ordersT {M : Mem} (hru : RUL M) (hR : RWB M) {n : Nat} {bt : Nat → Nat} (ht : TAPR M n bt) {A : HSE} {y : Nat} (hks : KST (mI M 49) A y) {os : List OSM} (hx : tlR (pRd true (tkT bt n) 12 0 0 0) = none → ROX (tkT bt n) (tkL bt n) 0 os) : TT (f_X12_orders M 47) (RXQ bt n A y os M (tlR (pRd true (tkT bt n) 12 0 0 0))) := by
  have hM := hru.2.1
  have h400 := ht.1
  have hle := tkL_le (bt := bt) (n := n)
  rw [rorders_eq, grd_y (ly76 hM).1, TT_bv, TT_bv, TT_bind]
  have f0 : Fr (fun a k => a = 47 ∧ (k = 14 ∨ k = 46)) M (wI (wI M 47 46 (-1)) 47 14 1) := (Fr.rf.wI ⟨rfl, Or.inr rfl⟩).wI ⟨rfl, Or.inl rfl⟩
  have e14 : mI (wI (wI M 47 46 (-1)) 47 14 1) 47 14 = b1 true := mI_wIs
  have e46 : mI (wI (wI M 47 46 (-1)) 47 14 1) 47 46 = -1 := by rw [mI_wI_ne (by decide), mI_wIs]
  generalize wI (wI M 47 46 (-1)) 47 14 1 = M0 at f0 e14 e46
  have hM0 := hM.fr f0
  refine (r_reads hM0 (fun i hi => by rw [f0.i (by omega)]; exact hR i hi) (ht.fr f0 (fun a k w => by omega)) e14).mono ?_
  rintro ⟨M1, r⟩ ⟨hF1, k17, k22, kS, hm⟩
  simp only at k17 k22 kS hm hF1 ⊢
  have fb : Fr (fun a k => Srr a k ∨ (a = 47 ∧ (k = 14 ∨ k = 46))) M M1 := (f0.up (fun _ _ w => Or.inr w)).tr (hF1.up (fun _ _ w => Or.inl w))
  have k46 : mI M1 47 46 = -1 := by rw [hF1.i (by unfold Srr Ssp; omega)]; exact e46
  obtain ⟨ru1, k1⟩ := hru.fr fb (fun a k w => by unfold Srr Ssp at w; unfold Frr; omega)
  cases hr : tlR (pRd true (tkT bt n) 12 0 0 0) with
  | some j =>
    rw [hr] at hm
    obtain ⟨m1, m2⟩ := hm
    have e := r_refuses (M := M1) ru1.2.1 (n := 6) (by unfold RN; omega)
    rw [show -(nI 6) = (-6 : Int32) by decide] at e
    rw [m1, if_pos rfl, e, Option.bind_some, TT_some]
    exact ⟨M1, fb, k17, m2, k46, rfl⟩
  | none =>
    rw [hr] at hm
    obtain ⟨m1, m2⟩ := hm
    have hlay : mR M1 47 3 = some 49 ∧ okO M1 14 49 ∧ mL M1 49 = 5666 := by
      have := ru1.2.1
      unfold LayM at this
      simp only [this, and_self]
    obtain ⟨y1, y2, y3⟩ := hlay
    have ks1 : KST (mI M1 49) A y := by rw [k1]; exact hks
    rw [m1, if_neg (by decide), y1, Option.bind_some, grd_y y2, y3, grd_y (show vp_in 56 5666 from (show vp_in (nI 56) 5666 from (nvp (by omega)).mpr (by omega))), TT_bv, Option.bind_some, grd_y y2, y3, grd_y (show vp_in 54 5666 from (show vp_in (nI 54) 5666 from (nvp (by omega)).mpr (by omega))), TT_bv, show (56 : Int32).toNatClampNeg = 56 from by decide, show (54 : Int32).toNatClampNeg = 54 from by decide, ks1.2.1, ks1.2.2.1]
    refine (r_ordH (T := tkT bt n) (len := tkL bt n) ru1 hru k1 ks1 (fun j h => tkT_end h) (fun j hj => (tk_lt (fun i hi => (ht.2.2.2 i hi).1) j).2.2 hj) (by omega) rfl rfl k22 kS k46 (hx hr)).mono ?_
    rintro q ⟨M2, f2, q17, q18, hq⟩
    refine ⟨M2, (fb.up (fun a k w => ?_)).tr f2, by rw [q17, k17], by rw [q18, m2], hq⟩
    rcases w with w | w
    · exact Or.inl w
    · exact Or.inr (Or.inr (Or.inr w))
