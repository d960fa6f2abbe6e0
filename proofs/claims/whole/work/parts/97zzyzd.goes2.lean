/-! ORDERS: the reference goes along a CLAUSE, how often -/
theorem r_gaC {M : Mem} {T : Nat → Nat} {len B k k2 times : Nat} {W : Nat → Int32} {tv : (Nat → Int32) → Option Bool} (hT : ∀ j, len ≤ j → T j = 256) (hE : RE M T len true B W) (hk : k ≤ len) (hr : RTMo T len k k2 times tv) (hg : mI M 47 26 = nI (B + k)) (live : Bool) : TT (gaC 47 (b1 live) M) (fun M1 => Fr Sga M M1 ∧ mI M1 47 26 = nI (B + k2 + 1) ∧ mI M1 47 50 = nI times ∧ ∃ t, mI M1 47 54 = b1 t ∧ (live = true → (t = true ↔ tv W = some true))) := by
  unfold gaC
  rw [TT_bv]
  have f00 : Fr (fun a k => a = 47 ∧ k = 50) M (wI M 47 50 1) := Fr.rf.wI ⟨rfl, rfl⟩
  have e50 : mI (wI M 47 50 1) 47 50 = nI 1 := mI_wIs
  generalize wI M 47 50 1 = M2 at f00 e50
  have hE2 := hE.frO f00 (fun a k w => by omega)
  have hg2 : mI M2 47 26 = nI (B + k) := by rw [f00.i (by omega)]; exact hg
  have f0 : Fr Sga M M2 := f00.up (fun a k w => ⟨w.1, by omega⟩)
  rw [show (26 : Int32) = nI 26 from rfl, r_passes hT hE2 hk hg2 (c := 26) (by omega), Option.bind_some, TT_bv]
  rcases hr with ⟨q1, q2, q3, q4, q5⟩ | ⟨q1, q2, q3⟩
  · rw [if_pos ((rc261 _).mpr q1)]
    simp only
    rw [if_neg (by decide)]
    have hkl := lt_of_T hT q1 (by decide)
    have hkl2 : k + 1 < len := Nat.lt_of_not_le (fun z => by have := hT (k + 1) z; omega)
    have f1 : Fr Sga M2 (wI M2 47 26 (nI (B + (k + 1)))) := Fr.rf.wI ⟨rfl, by omega⟩
    have e26 : mI (wI M2 47 26 (nI (B + (k + 1)))) 47 26 = nI (B + (k + 1)) := mI_wIs
    generalize wI M2 47 26 (nI (B + (k + 1))) = M3 at f1 e26
    have hE3 := hE2.frO f1 (fun a k w => by unfold Sga at w; omega)
    obtain ⟨g1, g2, g3, g4, g5⟩ := id hE3
    have hlay : mR M3 47 3 = some 49 ∧ okO M3 14 49 ∧ mL M3 49 = 5666 := by
      have := g1
      unfold LayM at this
      simp only [this, and_self]
    obtain ⟨y1, y2, y3⟩ := hlay
    rw [y1, Option.bind_some, grd_y y2, y3, e26, show (2866 : Int32) = nI 2866 from rfl, nadd, grd_y ((nvp (by omega)).mpr (by omega)), nclampI (by omega), TT_bv, TT_bv]
    have v := (g4 (k + 1) hkl2).2 (by omega) (by omega)
    rw [show 2866 + (B + (k + 1)) = 2866 + B + (k + 1) from by omega, v]
    have f2 : Fr Sga M3 (wI M3 47 50 (nI (T (k + 1) - 1000))) := Fr.rf.wI ⟨rfl, by omega⟩
    have e50' : mI (wI M3 47 50 (nI (T (k + 1) - 1000))) 47 50 = nI times := by rw [mI_wIs, q4]
    have e26' : mI (wI M3 47 50 (nI (T (k + 1) - 1000))) 47 26 = nI (B + (k + 1)) := by rw [mI_wI_ne (by omega)]; exact e26
    generalize wI M3 47 50 (nI (T (k + 1) - 1000)) = M4 at f2 e50' e26'
    rw [e26', nsucc]
    have f3 : Fr (fun a k => a = 47 ∧ k = 26) M4 (wI M4 47 26 (nI (B + (k + 1) + 1))) := Fr.rf.wI ⟨rfl, rfl⟩
    have e26s : mI (wI M4 47 26 (nI (B + (k + 1) + 1))) 47 26 = nI (B + (k + 2)) := mI_wIs
    generalize wI M4 47 26 (nI (B + (k + 1) + 1)) = M5 at f3 e26s
    have fA : Fr Sga M M5 := ((f0.tr f1).tr f2).tr (f3.up (fun a k w => ⟨w.1, by omega⟩))
    refine (r_gaD hT (hE.frO fA (fun a k w => by unfold Sga at w; omega)) (by omega) q5 e26s live).mono ?_
    rintro M6 ⟨f6, g6, h50, t, h54, ht⟩
    exact ⟨fA.tr f6, g6, by rw [h50, f3.i (by omega)]; exact e50', t, h54, ht⟩
  · rw [if_neg (fun z => q1 ((rc261 _).mp z))]
    simp only
    rw [if_pos trivial]
    refine (r_gaD hT hE2 hk q3 hg2 live).mono ?_
    rintro M3 ⟨f3, g3, h50, t, h54, ht⟩
    exact ⟨f0.tr f3, g3, by rw [h50, q2]; exact e50, t, h54, ht⟩
