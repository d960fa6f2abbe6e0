/-! ORDERS: the reference goes along a CLAUSE, wholly -/
def Sgg (a k : Nat) : Prop := a = 76 ∨ a = 62 ∨ (a = 47 ∧ (k = 26 ∨ k = 27 ∨ k = 28 ∨ k = 29 ∨ k = 50 ∨ k = 51 ∨ k = 52 ∨ k = 53 ∨ k = 54))
/-- a text lies in a place of the reference -/
def TXK (K : Nat → Int32) (T : Nat → Nat) (len B : Nat) : Prop := B + len ≤ 2800 ∧ ∀ j, j < len → K (66 + B + j) = nI (rc (T j)) ∧ (1000 ≤ T j → T j ≤ 2000 → K (2866 + B + j) = nI (T j - 1000))
def GOX (M : Mem) (o : OSM) (W : Nat → Int32) (B k2 : Nat) (live : Bool) (M1 : Mem) : Prop := Fr Sgg M M1 ∧ mI M1 47 26 = nI (B + k2 + 1) ∧ mI M1 47 50 = nI o.2.1 ∧ (mI M1 47 51 = 19 ↔ o.1 ≠ 5) ∧ (o.1 ≠ 5 → mI M1 47 52 = nI o.1) ∧ (∃ t, mI M1 47 54 = b1 t ∧ (live = true → (t = true ↔ o.2.2.1 W = some true))) ∧ (∃ s', mI M1 47 53 = b1 s' ∧ (live = true → s' = ((o.2.2.2.1 W).isSome && (if o.1 = 1 then (o.2.2.2.2.1 W).isSome else true) && (if o.1 = 5 then true else (o.2.2.2.2.2 W).isSome)))) ∧ (live = true → (∀ v, o.2.2.2.1 W = some v → mJ M1 76 0 = jj v) ∧ (o.1 = 1 → ∀ v, o.2.2.2.2.1 W = some v → mJ M1 76 1 = jj v) ∧ (o.1 ≠ 1 → mJ M1 76 1 = jj 0) ∧ (o.1 ≠ 5 → ∀ v, o.2.2.2.2.2 W = some v → mJ M1 76 2 = jj v))
theorem r_goes {M : Mem} {T : Nat → Nat} {len B k k2 : Nat} {o : OSM} (hM : LayM M) (hT : ∀ j, len ≤ j → T j = 256) (ht : TXK (mI M 49) T len B) {A : List (Option Nat × Nat × List Nat)} {y dn : Nat} {la : Int32} (hks : KST (mI M 49) A y) (h47 : mI M 47 47 = nI dn) (h48 : mI M 47 48 = la) (h49 : mI M 47 49 = nI (B + k)) (hr : ROC T len k k2 o) (live : Bool) : TT (f_X12_goesAlong M 47 (nI (B + len)) (b1 live)) (GOX M o (wdR A y dn la) B k2 live) := by
  obtain ⟨r1, r2, r3, r4, r5, r6⟩ := hr
  obtain ⟨l1, l2, l3, l4, l5, l6, l7⟩ := ly76 hM
  have hlay : mR M 47 3 = some 49 ∧ okO M 14 49 ∧ mL M 49 = 5666 := by
    have := hM
    unfold LayM at this
    simp only [this, and_self]
  obtain ⟨y1, y2, y3⟩ := hlay
  have eok : ∀ (M : Mem) c a a' k' v, okO (wI M a' k' v) c a = okO M c a := fun _ _ _ _ _ _ => rfl
  have g54 : vp_in 54 5666 := show vp_in (nI 54) 5666 from (nvp (by omega)).mpr (by omega)
  have g56 : vp_in 56 5666 := show vp_in (nI 56) 5666 from (nvp (by omega)).mpr (by omega)
  have g0 : vp_in 0 4 := show vp_in (nI 0) 4 from (nvp (by omega)).mpr (by omega)
  have g1 : vp_in 1 4 := show vp_in (nI 1) 4 from (nvp (by omega)).mpr (by omega)
  have g2 : vp_in 2 4 := show vp_in (nI 2) 4 from (nvp (by omega)).mpr (by omega)
  have g3 : vp_in 3 4 := show vp_in (nI 3) 4 from (nvp (by omega)).mpr (by omega)
  have g13 : vp_in 1 3 := show vp_in (nI 1) 3 from (nvp (by omega)).mpr (by omega)
  have c54 : (54 : Int32).toNatClampNeg = 54 := by decide
  have c56 : (56 : Int32).toNatClampNeg = 56 := by decide
  have c0 : (0 : Int32).toNatClampNeg = 0 := by decide
  have c1 : (1 : Int32).toNatClampNeg = 1 := by decide
  have c2 : (2 : Int32).toNatClampNeg = 2 := by decide
  have c3 : (3 : Int32).toNatClampNeg = 3 := by decide
  have m1 : ∀ (M : Mem) k v i, mI (wI M 62 k v) 49 i = mI M 49 i := fun M k v i => by rw [mI_wI_row (by decide)]
  have m2 : ∀ (M : Mem) k v i, mI (wI M 47 k v) 49 i = mI M 49 i := fun M k v i => by rw [mI_wI_row (by decide)]
  have m3 : ∀ (M : Mem) k v i, mI (wI M 62 k v) 47 i = mI M 47 i := fun M k v i => by rw [mI_wI_row (by decide)]
  have m4 : ∀ (M : Mem) v, mI (wI M 47 29 v) 47 47 = mI M 47 47 ∧ mI (wI M 47 29 v) 47 48 = mI M 47 48 ∧ mI (wI M 47 29 v) 47 49 = mI M 47 49 := fun M v => ⟨mI_wI_ne (by decide), mI_wI_ne (by decide), mI_wI_ne (by decide)⟩
  have m5 : ∀ (M : Mem) v, mI (wI M 47 27 v) 47 47 = mI M 47 47 ∧ mI (wI M 47 27 v) 47 48 = mI M 47 48 ∧ mI (wI M 47 27 v) 47 49 = mI M 47 49 := fun M v => ⟨mI_wI_ne (by decide), mI_wI_ne (by decide), mI_wI_ne (by decide)⟩
  obtain ⟨k1, k2', k3, k4, k5⟩ := id hks
  rw [goesAlong_eq]
  simp only [mR_wI, mL_wI, eok, l1, l2, l3, l4, l5, l6, l7, y1, y2, y3, grd_T, Option.bind_some, grd_y g54, grd_y g56, grd_y g0, grd_y g1, grd_y g2, grd_y g3, c54, c56, c0, c1, c2, c3, TT_bv, m1, m2, m3, m4, m5, h47, h48, h49, k2', k3]
  have f0 : Fr Sgg M (wI (wI (wI (wI (wI (wI (wI M 47 29 1) 47 27 (nI (B + len))) 62 0 (nI y)) 62 1 (nI A.length)) 62 2 (nI dn)) 62 3 la) 47 26 (nI (B + k))) := ((((((Fr.rf.wI (by unfold Sgg; omega)).wI (by unfold Sgg; omega)).wI (by unfold Sgg; omega)).wI (by unfold Sgg; omega)).wI (by unfold Sgg; omega)).wI (by unfold Sgg; omega)).wI (by unfold Sgg; omega)
  have e26 : mI (wI (wI (wI (wI (wI (wI (wI M 47 29 1) 47 27 (nI (B + len))) 62 0 (nI y)) 62 1 (nI A.length)) 62 2 (nI dn)) 62 3 la) 47 26 (nI (B + k))) 47 26 = nI (B + k) := mI_wIs
  have e27 : mI (wI (wI (wI (wI (wI (wI (wI M 47 29 1) 47 27 (nI (B + len))) 62 0 (nI y)) 62 1 (nI A.length)) 62 2 (nI dn)) 62 3 la) 47 26 (nI (B + k))) 47 27 = nI (B + len) := by rw [mI_wI_ne (by decide), m3, m3, m3, m3, mI_wIs]
  have e29 : mI (wI (wI (wI (wI (wI (wI (wI M 47 29 1) 47 27 (nI (B + len))) 62 0 (nI y)) 62 1 (nI A.length)) 62 2 (nI dn)) 62 3 la) 47 26 (nI (B + k))) 47 29 = 1 := by rw [mI_wI_ne (by decide), m3, m3, m3, m3, mI_wI_ne (by decide), mI_wIs]
  have eK : mI (wI (wI (wI (wI (wI (wI (wI M 47 29 1) 47 27 (nI (B + len))) 62 0 (nI y)) 62 1 (nI A.length)) 62 2 (nI dn)) 62 3 la) 47 26 (nI (B + k))) 49 = mI M 49 := by funext i; rw [m2, m1, m1, m1, m1, m2, m2]
  have eJ : mJ (wI (wI (wI (wI (wI (wI (wI M 47 29 1) 47 27 (nI (B + len))) 62 0 (nI y)) 62 1 (nI A.length)) 62 2 (nI dn)) 62 3 la) 47 26 (nI (B + k))) = mJ M := by rw [mJ_wI, mJ_wI, mJ_wI, mJ_wI, mJ_wI, mJ_wI, mJ_wI]
  have eV : ∀ i, i < 4 → mI (wI (wI (wI (wI (wI (wI (wI M 47 29 1) 47 27 (nI (B + len))) 62 0 (nI y)) 62 1 (nI A.length)) 62 2 (nI dn)) 62 3 la) 47 26 (nI (B + k))) 62 i = if i = 0 then nI y else if i = 1 then nI A.length else if i = 2 then nI dn else la := by
    intro i hi
    rw [mI_wI_row (by decide)]
    match i, hi with
    | 0, _ => rw [mI_wI_ne (by decide), mI_wI_ne (by decide), mI_wI_ne (by decide), mI_wIs]; rfl
    | 1, _ => rw [mI_wI_ne (by decide), mI_wI_ne (by decide), mI_wIs]; rfl
    | 2, _ => rw [mI_wI_ne (by decide), mI_wIs]; rfl
    | 3, _ => rw [mI_wIs]; rfl
  generalize wI (wI (wI (wI (wI (wI (wI M 47 29 1) 47 27 (nI (B + len))) 62 0 (nI y)) 62 1 (nI A.length)) 62 2 (nI dn)) 62 3 la) 47 26 (nI (B + k)) = M2 at *
  have hE : RE M2 T len true B (wdR A y dn la) := ⟨hM.fr f0, ht.1, e27, fun j hj => by rw [eK]; exact ht.2 j hj, e29, wdR_who (by rw [eK]; exact hks) (eV 0 (by omega)) (eV 1 (by omega)) (eV 2 (by omega)) (eV 3 (by omega))⟩
  rw [e26, r_codeAt hT hE (by omega), Option.bind_some]
  obtain ⟨n1, n2, n3, n4, -⟩ := ly76 (hM.fr f0)
  rw [TT_bv, mI_wI_ne (by decide), e26, nsucc, TT_bv, TT_bv, mR_wI, mR_wI, mR_wI, n2, Option.bind_some, eok, eok, eok, grd_y n3, mL_wI, mL_wI, mL_wI, n4, grd_y g13, TT_bv, TT_bind]
  have f3 : Fr Sgg M2 (wJ (wI (wI (wI M2 47 51 (nI (rc (T k)))) 47 26 (nI (B + k + 1))) 47 53 1) 76 1 0) := (((Fr.rf.wI (by unfold Sgg; omega)).wI (by unfold Sgg; omega)).wI (by unfold Sgg; omega)).wJ (by unfold Sgg; omega)
  have d26 : mI (wJ (wI (wI (wI M2 47 51 (nI (rc (T k)))) 47 26 (nI (B + k + 1))) 47 53 1) 76 1 0) 47 26 = nI (B + (k + 1)) := by rw [mI_wJ, mI_wI_ne (by decide), mI_wIs]; rfl
  have d53 : mI (wJ (wI (wI (wI M2 47 51 (nI (rc (T k)))) 47 26 (nI (B + k + 1))) 47 53 1) 76 1 0) 47 53 = b1 true := by rw [mI_wJ, mI_wIs]; rfl
  have d51 : mI (wJ (wI (wI (wI M2 47 51 (nI (rc (T k)))) 47 26 (nI (B + k + 1))) 47 53 1) 76 1 0) 47 51 = nI (rc (T k)) := by rw [mI_wJ, mI_wI_ne (by decide), mI_wI_ne (by decide), mI_wIs]
  have dI : ∀ a i, a = 49 ∨ a = 62 ∨ (a = 47 ∧ (i = 27 ∨ i = 29)) → mI (wJ (wI (wI (wI M2 47 51 (nI (rc (T k)))) 47 26 (nI (B + k + 1))) 47 53 1) 76 1 0) a i = mI M2 a i := fun a i q => by rw [mI_wJ, mI_wI, mI_wI, mI_wI, if_neg (by omega), if_neg (by omega), if_neg (by omega)]
  have dJ : mJ (wJ (wI (wI (wI M2 47 51 (nI (rc (T k)))) 47 26 (nI (B + k + 1))) 47 53 1) 76 1 0) 76 1 = jj 0 := by rw [mJ_wJ, if_pos ⟨rfl, rfl⟩]; rfl
  generalize wJ (wI (wI (wI M2 47 51 (nI (rc (T k)))) 47 26 (nI (B + k + 1))) 47 53 1) 76 1 0 = M3 at f3 d26 d53 d51 dI dJ
  have hE3 : RE M3 T len true B (wdR A y dn la) := ⟨hE.1.fr f3, ht.1, by rw [dI 47 27 (by omega)]; exact e27, fun j hj => by rw [dI 49 _ (by omega), dI 49 _ (by omega), eK]; exact ht.2 j hj, by rw [dI 47 29 (by omega)]; exact e29, wdR_who (by rw [show mI M3 49 = mI M 49 from funext (fun i => by rw [dI 49 i (by omega), eK])]; exact hks) (by rw [dI 62 0 (by omega)]; exact eV 0 (by omega)) (by rw [dI 62 1 (by omega)]; exact eV 1 (by omega)) (by rw [dI 62 2 (by omega)]; exact eV 2 (by omega)) (by rw [dI 62 3 (by omega)]; exact eV 3 (by omega))⟩
  have fM : Fr Sgg M M3 := f0.tr f3
  rcases r6 with ⟨o1, o2, k1', o3, o4, o5⟩ | ⟨o1, o2, k1', k3', o3, o4, o5, o6, o7⟩
  · refine (show TT (f_X12_nextSum M3 47 (nI 0) (b1 live)) _ from (r_nextSum hE3 o4 d26 d53 (j := 0) (by omega) live).mono ?_)
    rintro M4 ⟨f4, hE4, x4, i4, s', h53, hs⟩
    have e51 : mI M4 47 51 = nI 13 := by rw [f4.i (by unfold Sns Sgo; omega), d51, o2]; rfl
    rw [show gaB 47 (b1 live) M4 = gaC 47 (b1 live) M4 from by unfold gaB; rw [e51, if_neg (by decide)]]
    refine (r_gaC hT hE4 o3 o5 x4 live).mono ?_
    rintro M5 ⟨f5, x5, h50, t, h54, htt⟩
    have j5 : ∀ i, mJ M5 76 i = mJ M4 76 i := fun i => f5.j (by unfold Sga; omega)
    refine ⟨(fM.tr (f4.up (fun a k w => by unfold Sns Sgo at w; unfold Sgg; omega))).tr (f5.up (fun a k w => by unfold Sga at w; unfold Sgg; omega)), x5, h50, ?_, fun q => absurd o1 q, ⟨t, h54, htt⟩, ⟨s', by rw [f5.i (by unfold Sga; omega)]; exact h53, fun hl => ?_⟩, fun hl => ⟨fun v hv => by rw [j5]; exact (hs hl).2 v hv, fun q => by omega, fun _ => by rw [j5, i4 1 (by omega)]; exact dJ, fun q => absurd o1 q⟩⟩
    · rw [f5.i (by unfold Sga; omega), e51]
      exact ⟨fun q => absurd q (by decide), fun q => absurd o1 q⟩
    · rw [(hs hl).1, if_neg (show ¬ o.1 = 1 by omega), if_pos o1]
      simp
  · refine (show TT (f_X12_nextSum M3 47 (nI 0) (b1 live)) _ from (r_nextSum hE3 o5 d26 d53 (j := 0) (by omega) live).mono ?_)
    rintro M4 ⟨f4, hE4, x4, i4, s', h53, hs⟩
    have e51 : mI M4 47 51 = 19 := by rw [f4.i (by unfold Sns Sgo; omega), d51, o2]; decide
    refine (r_gaB hT hE4 o3 o6 o4 o7 x4 e51 h53 live).mono ?_
    rintro M5 ⟨f5, x5, h50, htt, h52, ja, jb, ⟨s2, h53s, hs2⟩, jc⟩
    refine ⟨(fM.tr (f4.up (fun a k w => by unfold Sns Sgo at w; unfold Sgg; omega))).tr (f5.up (fun a k w => by unfold Sgb at w; unfold Sgg; omega)), x5, h50, ?_, fun _ => h52, htt, ⟨s2, h53s, fun hl => ?_⟩, fun hl => ⟨fun v hv => by rw [ja]; exact (hs hl).2 v hv, (jc hl).1, fun q => by rw [jb q, i4 1 (by omega)]; exact dJ, fun _ => (jc hl).2⟩⟩
    · rw [f5.i (by unfold Sgb; omega), e51]
      exact ⟨fun _ => by omega, fun _ => rfl⟩
    · rw [hs2 hl, (hs hl).1, if_neg (show ¬ o.1 = 5 by omega)]
      simp
