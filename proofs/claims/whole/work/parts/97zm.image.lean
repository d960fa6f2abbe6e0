/-! a new Valley -/
def kdV (j : Nat) : Nat := if j < 7 then 14 else 19
def lnV (j : Nat) : Nat := if j < 3 then 6 else if j < 7 then 12 else 6
def zzV : Nat → Nat
  | 0 => 15
  | j + 1 => zzV j + lnV j
def Fno (_a _k : Nat) : Prop := False
def VBk (v k : Nat) (M0 M' : Mem) : Prop := mn M0 = v ∧ mn M' = v + 1 + k ∧ mz M' = mz M0 + zzV k ∧ okO M' 10 v ∧ (∀ j, j < k → mR M' v j = some (v + 1 + j)) ∧ (∀ j, j < k → okO M' (kdV j) (v + 1 + j) ∧ mL M' (v + 1 + j) = lnV j) ∧ (∀ j g, j < k → mR M' (v + 1 + j) g = none) ∧ Fw Fno Fno M0 M'
theorem nA_v {M : Mem} {c n : Nat} : mn (nA M c n) = mn M + 1 ∧ mz (nA M c n) = mz M + n ∧ (∀ a, mK (nA M c n) a = if a = mn M then c else mK M a) ∧ (∀ a, mL (nA M c n) a = if a = mn M then n else mL M a) ∧ ∀ a k, mR (nA M c n) a k = if a = mn M then none else mR M a k := by
  refine ⟨rfl, rfl, fun a => ?_, fun a => ?_, fun a k => ?_⟩
  · show va_up (mK M) (mn M) c a = _
    rw [vu]
  · show va_up (mL M) (mn M) n a = _
    rw [vu]
  · show va_up (mR M) (mn M) (fun _ => none) a k = _
    rw [vu]
    by_cases h : a = mn M
    · rw [if_pos h, if_pos h]
    · rw [if_neg h, if_neg h]
def Srw (r a _k : Nat) : Prop := a = r
theorem frw {r a k : Nat} {M M' : Mem} {x : Int32} (h : Fr (Srw r) M M') (e : a = r) : Fr (Srw r) M (wI M' a k x) := h.wI (show Srw r a k from e)
theorem VBk.step {v k : Nat} {M0 M' N : Mem} (h : VBk v k M0 M') {c n : Nat} (hc : c = kdV k) (hn : n = lnV k) (hN : Fr (Srw (v + 1 + k)) (nA M' c n) N) : VBk v (k + 1) M0 (wR N v k (some (mn M'))) := by
  obtain ⟨a0, a1, a2, a3, a4, a5, a6, a7⟩ := h
  obtain ⟨b1', b2, b3, b4, b5⟩ := nA_v (M := M') (c := c) (n := n)
  obtain ⟨c1, c2, c3, c4, c5, c6⟩ := hN
  have nn : mn (wR N v k (some (mn M'))) = mn N := rfl
  have nz : mz (wR N v k (some (mn M'))) = mz N := rfl
  have nk : ∀ x y, okO (wR N v k (some (mn M'))) x y ↔ (y < mn N ∧ mK N y = x) := fun x y => Iff.rfl
  have nl : mL (wR N v k (some (mn M'))) = mL N := rfl
  have nr : ∀ x y, mR (wR N v k (some (mn M'))) x y = if x = v ∧ y = k then some (mn M') else mR N x y := fun x y => mR_wR
  have e1 := a3.1
  refine ⟨a0, by rw [nn, c1, b1']; omega, by rw [nz, c2, b2, a2, hn]; rw [zzV]; omega, (nk 10 v).mpr ⟨by omega, by rw [c3, b3, if_neg (by omega)]; exact a3.2⟩, fun j hj => ?_, fun j hj => ?_, fun j g hj => ?_, ?_⟩
  · rw [nr]
    by_cases w : j = k
    · rw [if_pos ⟨rfl, w⟩, a1, w]
    · rw [if_neg (fun q => w q.2), c5, b5, if_neg (by omega)]
      exact a4 j (by omega)
  · by_cases w : j = k
    · subst w
      refine ⟨(nk _ _).mpr ⟨by omega, ?_⟩, ?_⟩
      · rw [c3, b3, if_pos (by omega)]
        exact hc
      · rw [nl, c4, b4, if_pos (by omega)]
        exact hn
    · obtain ⟨d1, d2⟩ := a5 j (by omega)
      refine ⟨(nk _ _).mpr ⟨by omega, ?_⟩, ?_⟩
      · rw [c3, b3, if_neg (by omega)]
        exact d1.2
      · rw [nl, c4, b4, if_neg (by omega)]
        exact d2
  · rw [nr, if_neg (fun q => by omega), c5, b5]
    by_cases w : j = k
    · rw [if_pos (by omega)]
    · rw [if_neg (by omega)]
      exact a6 j g (by omega)
  · have h1 : Fw Fno Fno M' (nA M' c n) := Fw_nA
    obtain ⟨g1, g2, g3, g4, g5⟩ := a7.tr h1
    refine ⟨by omega, by omega, fun a ha => ?_, fun a y ha _ => ?_, fun a y ha _ => ?_⟩
    · rw [nl, c4]
      show mK N a = _ ∧ _
      rw [c3]
      exact g3 a ha
    · rw [nr, if_neg (fun q => by omega), c5]
      exact g4 a y ha (fun q => q)
    · show mI N a y = _ ∧ mJ N a y = _
      rw [(c6 a y (by unfold Srw; omega)).1, (c6 a y (by unfold Srw; omega)).2]
      exact g5 a y ha (fun q => q)
theorem VBk.zero {M : Mem} : VBk (mn M) 0 M (nO M 10 15) := by
  refine ⟨rfl, rfl, rfl, ⟨by show _ < mn M + 1; omega, ?_⟩, fun j hj => by omega, fun j hj => by omega, fun j g hj => by omega, Fw_nO⟩
  show va_up (mK M) (mn M) 10 (mn M) = 10
  rw [vu, if_pos rfl]
theorem VBk.na {v k : Nat} {M0 M' : Mem} (h : VBk v k M0 M') {c n : Nat} : okO (nA M' c n) 10 v ∧ mL (nA M' c n) (mn M') = n := by
  obtain ⟨b1', b2, b3, b4, b5⟩ := nA_v (M := M') (c := c) (n := n)
  have e1 := h.2.2.2.1.1
  refine ⟨⟨by omega, by rw [b3, if_neg (by have := h.2.1; omega)]; exact h.2.2.2.1.2⟩, by rw [b4, if_pos rfl]⟩
theorem mL_wIq {M : Mem} {a k : Nat} {v : Int32} : mL (wI M a k v) = mL M := by
  have h : mL (wI M a k v) = mL M := rfl
  exact id h
theorem VBk.vbl {v : Nat} {M0 M' : Mem} (h : VBk v 8 M0 M') : VBL M' v ∧ ∀ g, mR M' (v + 8) g = none := by
  obtain ⟨a0, a1, a2, a3, a4, a5, a6, a7⟩ := h
  refine ⟨⟨a3, a4, fun j hj => ?_, fun j hj => ?_, ?_, ?_⟩, fun g => ?_⟩
  · have := a5 j (by omega)
    unfold kdV lnV at this
    rw [if_pos (by omega), if_pos hj] at this
    exact this
  · have := a5 (j + 3) (by omega)
    unfold kdV lnV at this
    rw [if_pos (by omega), if_neg (by omega), if_pos (by omega), show v + 1 + (j + 3) = v + 4 + j by omega] at this
    exact this
  · exact (a5 7 (by omega)).1
  · exact (a5 7 (by omega)).2
  · exact a6 7 g (by omega)
theorem fr_six {M : Mem} {a r : Nat} (e : a = r) {x0 x1 x2 x3 x4 x5 : Int32} : Fr (Srw r) M (wI (wI (wI (wI (wI (wI M a 0 x0) a 1 x1) a 2 x2) a 3 x3) a 4 x4) a 5 x5) := frw (frw (frw (frw (frw (frw Fr.rf e) e) e) e) e) e
theorem VBk.w {v k : Nat} {M0 M' : Mem} (h : VBk v k M0 M') {i : Nat} {x : Int32} : VBk v k M0 (wI M' v i x) := by
  obtain ⟨a0, a1, a2, a3, a4, a5, a6, b1', b2, b3, b4, b5⟩ := h
  refine ⟨a0, a1, a2, a3, a4, a5, a6, b1', b2, b3, b4, fun a y ha hn => ?_⟩
  rw [mI_wI, if_neg (fun q => by omega)]
  exact b5 a y ha hn
theorem vin6 {i : Nat} (h : i < 6) : vp_in (nI i) 6 := (nvp (by omega)).mpr h
theorem c_vinit {M : Mem} : TT (f_X10_init (nO M 10 15) (mn M)) (VBk (mn M) 8 M) := by
  have h0 := VBk.zero (M := M)
  have c6 : (6 : Int32).toNatClampNeg = 6 := by decide
  have c12 : (12 : Int32).toNatClampNeg = 12 := by decide
  have c0 : (0 : Int32).toNatClampNeg = 0 := by decide
  have c1 : (1 : Int32).toNatClampNeg = 1 := by decide
  have c2 : (2 : Int32).toNatClampNeg = 2 := by decide
  have c3 : (3 : Int32).toNatClampNeg = 3 := by decide
  have c4 : (4 : Int32).toNatClampNeg = 4 := by decide
  have c5 : (5 : Int32).toNatClampNeg = 5 := by decide
  unfold f_X10_init
  simp only [c6, c12, c0, c1, c2, c3, c4, c5]
  generalize nO M 10 15 = X at *
  rw [TT_bv]
  refine TT_grd.mpr ⟨h0.na.1, ?_⟩
  rw [TT_bv]
  have h1 := h0.step (c := 14) (n := 6) rfl rfl (Fr.rf (M := nA X 14 6))
  generalize wR (nA X 14 6) (mn M) 0 (some (mn X)) = M6 at *
  rw [TT_bv]
  have l1 := (h1.na (c := 14) (n := 6)).2
  have e1 : mn M6 = mn M + 1 + 1 := h1.2.1
  refine TT_grd.mpr ⟨by rw [l1]; exact vin6 (i := 0) (by omega), ?_⟩
  rw [TT_bv]
  refine TT_grd.mpr ⟨by rw [mL_wIq, l1]; exact vin6 (i := 1) (by omega), ?_⟩
  rw [TT_bv]
  refine TT_grd.mpr ⟨by rw [mL_wIq, mL_wIq, l1]; exact vin6 (i := 2) (by omega), ?_⟩
  rw [TT_bv]
  refine TT_grd.mpr ⟨by rw [mL_wIq, mL_wIq, mL_wIq, l1]; exact vin6 (i := 3) (by omega), ?_⟩
  rw [TT_bv]
  refine TT_grd.mpr ⟨by rw [mL_wIq, mL_wIq, mL_wIq, mL_wIq, l1]; exact vin6 (i := 4) (by omega), ?_⟩
  rw [TT_bv]
  refine TT_grd.mpr ⟨by rw [mL_wIq, mL_wIq, mL_wIq, mL_wIq, mL_wIq, l1]; exact vin6 (i := 5) (by omega), ?_⟩
  rw [TT_bv, TT_bv]
  have h2 := h1.step (c := 14) (n := 6) rfl rfl (fr_six (M := nA M6 14 6) (a := mn M6) e1 (x0 := 1) (x1 := 1) (x2 := 1) (x3 := 1) (x4 := 1) (x5 := 1))
  generalize wR (wI (wI (wI (wI (wI (wI (nA M6 14 6) (mn M6) 0 1) (mn M6) 1 1) (mn M6) 2 1) (mn M6) 3 1) (mn M6) 4 1) (mn M6) 5 1) (mn M) 1 (some (mn M6)) = M51 at *
  rw [TT_bv]
  have l2 := (h2.na (c := 14) (n := 6)).2
  have e2 : mn M51 = mn M + 1 + 2 := h2.2.1
  refine TT_grd.mpr ⟨by rw [l2]; exact vin6 (i := 0) (by omega), ?_⟩
  rw [TT_bv]
  refine TT_grd.mpr ⟨by rw [mL_wIq, l2]; exact vin6 (i := 1) (by omega), ?_⟩
  rw [TT_bv]
  refine TT_grd.mpr ⟨by rw [mL_wIq, mL_wIq, l2]; exact vin6 (i := 2) (by omega), ?_⟩
  rw [TT_bv]
  refine TT_grd.mpr ⟨by rw [mL_wIq, mL_wIq, mL_wIq, l2]; exact vin6 (i := 3) (by omega), ?_⟩
  rw [TT_bv]
  refine TT_grd.mpr ⟨by rw [mL_wIq, mL_wIq, mL_wIq, mL_wIq, l2]; exact vin6 (i := 4) (by omega), ?_⟩
  rw [TT_bv]
  refine TT_grd.mpr ⟨by rw [mL_wIq, mL_wIq, mL_wIq, mL_wIq, mL_wIq, l2]; exact vin6 (i := 5) (by omega), ?_⟩
  rw [TT_bv, TT_bv]
  have h3 := h2.step (c := 14) (n := 6) rfl rfl (fr_six (M := nA M51 14 6) (a := mn M51) e2 (x0 := -1) (x1 := -1) (x2 := -1) (x3 := -1) (x4 := -1) (x5 := -1))
  generalize wR (wI (wI (wI (wI (wI (wI (nA M51 14 6) (mn M51) 0 (-1)) (mn M51) 1 (-1)) (mn M51) 2 (-1)) (mn M51) 3 (-1)) (mn M51) 4 (-1)) (mn M51) 5 (-1)) (mn M) 2 (some (mn M51)) = M96 at *
  rw [TT_bv, TT_bv]
  have h4 := h3.step (c := 14) (n := 12) rfl rfl (Fr.rf (M := nA M96 14 12))
  generalize wR (nA M96 14 12) (mn M) 3 (some (mn M96)) = M105 at *
  rw [TT_bv, TT_bv]
  have h5 := h4.step (c := 14) (n := 12) rfl rfl (Fr.rf (M := nA M105 14 12))
  generalize wR (nA M105 14 12) (mn M) 4 (some (mn M105)) = M114 at *
  rw [TT_bv, TT_bv]
  have h6 := h5.step (c := 14) (n := 12) rfl rfl (Fr.rf (M := nA M114 14 12))
  generalize wR (nA M114 14 12) (mn M) 5 (some (mn M114)) = M123 at *
  rw [TT_bv, TT_bv]
  have h7 := h6.step (c := 14) (n := 12) rfl rfl (Fr.rf (M := nA M123 14 12))
  generalize wR (nA M123 14 12) (mn M) 6 (some (mn M123)) = M132 at *
  rw [TT_bv, TT_bv]
  have h8 := h7.step (c := 19) (n := 6) rfl rfl (Fr.rf (M := nA M132 19 6))
  generalize wR (nA M132 19 6) (mn M) 7 (some (mn M132)) = M141 at *
  rw [TT_bv, TT_bv, TT_bv, TT_some]
  exact h8.w.w.w
