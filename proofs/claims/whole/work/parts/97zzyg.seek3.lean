def R324 (a k : Nat) : Prop := a = 32 ∧ k = 4
def NSM (M : Mem) (N : Nat) : Mem := wR (nA M 14 N) 32 4 (some (mn M))
theorem NSM_v {M : Mem} {N : Nat} (h78 : 78 ≤ mn M) : Fw (fun _ _ => False) R324 M (NSM M N) ∧ mn (NSM M N) = mn M + 1 ∧ mz (NSM M N) = mz M + N ∧ mR (NSM M N) 32 4 = some (mn M) ∧ okO (NSM M N) 14 (mn M) ∧ mL (NSM M N) (mn M) = N ∧ ∀ i, mR (NSM M N) 33 i = mR M 33 i := by
  obtain ⟨a1, a2, a3, a4, a5⟩ := nA_v (M := M) (c := 14) (n := N)
  have hF : Fw (fun _ _ => False) R324 M (wR (nA M 14 N) 32 4 (some (mn M))) := (Fw_nA).wR ⟨rfl, rfl⟩
  unfold NSM
  refine ⟨hF, by rw [mn_wR]; exact a1, by rw [mz_wR]; exact a2, by rw [mR_wR, if_pos ⟨rfl, rfl⟩], ⟨by rw [mn_wR, a1]; omega, by rw [mK_wR, a3, if_pos rfl]⟩, by rw [mL_wR, a4, if_pos rfl], fun i => ?_⟩
  rw [mR_wR, if_neg (by omega), a5, if_neg (by omega)]
theorem r324_old : ∀ a k : Nat, R324 a k → oldR a k = false ∧ a ≠ 9 ∧ a < 78 ∧ a ≠ 33 ∧ a ≠ 21 := fun a k w => by
  obtain ⟨rfl, rfl⟩ := w
  exact ⟨by decide, by omega, by omega, by omega, by omega⟩
theorem c_skN {B y n b sp : Nat} {mo : Nat → Option Nat} {yr : Nat → Nat} {di : Nat → List Nat} {M : Mem} (hB : B + 12 < 16776000) (hy : y ≤ 999) (h54 : mI M 49 54 = nI y) (hb1 : 1 ≤ b) (hb : b < 4096) (hdl : ∀ p e h, h < n → dst (mI M 49) y (rank (di h)) p = some e → e < 9331) (m0 : MID M) (s0 : SCI B M) (hP0 : PTH M) (hC : FSC M) (hv : HSV M n mo yr di) (e14 : mI M 1 14 = nI sp) (hsp : sp < 2147483648) : TT (skN 32 (nI b) M) (SKQ M B b n y di) := by
  have h78 := m0.2.1
  obtain ⟨l1, l2, l3, l4, l5, l6⟩ := okLP m0
  unfold skN
  rw [TT_bv, mR_wI, l2, Option.bind_some, ok_wI, grd_y (okLV m0).1, mI_wI_row (by omega), e14, TT_bv]
  have f1 : Fr (fun a k => a = 32 ∧ (k = 5 ∨ k = 6)) M (wI (wI M 32 5 (nI b)) 32 6 (nI sp)) := (Fr.rf.wI ⟨rfl, by omega⟩).wI ⟨rfl, by omega⟩
  have e5 : mI (wI (wI M 32 5 (nI b)) 32 6 (nI sp)) 32 5 = nI b := by rw [mI_wI_ne (by omega), mI_wIs]
  have e6 : mI (wI (wI M 32 5 (nI b)) 32 6 (nI sp)) 32 6 = nI sp := mI_wIs
  generalize wI (wI M 32 5 (nI b)) 32 6 (nI sp) = M1 at f1 e5 e6
  obtain ⟨n1, k1⟩ := m0.fr f1 (fun a k w => by unfold Frl; omega)
  have s1 : SCI B M1 := SCI.fr2 s0 h78 f1 (fun a k w => by omega)
  have hP1 : PTH M1 := hP0.fwN h78 (f1.fw (R := fun _ _ => False)) (fun a k w => by omega) (fun _ _ w => w.elim)
  have fw1 : Fw (Spw M) Rpx M M1 := (f1.fw (R := Rpx)).up (fun a k w => Or.inr (Or.inr (Or.inr (Or.inr (Or.inr (Or.inr (Or.inl (by omega)))))))) (fun _ _ w => w)
  have hv1 := hv.spw h78 fw1
  have pm1 : PMX M M1 := PMX.fr f1
  have e141 : mI M1 1 14 = nI sp := by rw [f1.i (by omega)]; exact e14
  have er : mR M1 = mR M := f1.2.2.2.2.1
  have h781 := n1.2.1
  cases hr : mR M1 32 4 with
  | none =>
    rw [nc_none rfl, TT_bv, TT_bv, TT_bv, show (9331 : Int32).toNatClampNeg = 9331 from by decide]
    show TT (skJ 32 (nI b) (NSM M1 9331)) _
    obtain ⟨v1, v2, v3, v4, v5, v6, v7⟩ := NSM_v (M := M1) (N := 9331) h781
    generalize NSM M1 9331 = M2 at v1 v2 v3 v4 v5 v6 v7 ⊢
    obtain ⟨n2, k2⟩ := n1.fw v1 (fun _ _ w => w.elim) (fun a k w => ⟨(r324_old a k w).1, (r324_old a k w).2.1, fun q => by have := (r324_old a k w).2.2.1; omega⟩)
    have s2 : SCI B M2 := s1.fwN h781 v1 (fun _ _ w => w.elim) (fun a k w => ⟨fun q => (r324_old a k w).2.2.2.2 q.1, fun q => by have := (r324_old a k w).2.2.1; omega⟩)
    have hP2 : PTH M2 := hP1.fwN h781 v1 (fun _ _ w => w.elim) (fun a k w => ⟨(r324_old a k w).2.2.1, (r324_old a k w).2.2.2.1⟩)
    have fw2 : Fw (Spw M1) Rpx M1 M2 := v1.up (fun _ _ w => w.elim) (fun a k w => Or.inr w)
    have i2 : ∀ a k, a < mn M1 → mI M2 a k = mI M1 a k := fun a k w => v1.i w (fun q => q)
    have pk : ptk M2 = ptk M1 := by
      unfold ptk
      rw [v7, v7, v7]
    have pm2 : PMX M1 M2 := by
      unfold PMX fsk
      rw [pk, v2, v3, v4, hr]
      generalize ptk M1 = u
      simp only [nn]
      omega
    exact c_skJ hB hy h54 hb1 hb hdl n2 s2 hP2 (by rw [k2, k1]) (hv1.spw h781 fw2) ⟨v4, h781, v5, v6⟩ (Spw.tr fw1 fw2) (pm1.tr pm2) (by rw [i2 _ _ (by omega)]; exact e5) (by rw [i2 _ _ (by omega)]; exact e6) (by rw [i2 _ _ (by omega)]; exact e141) hsp h78 (fun a k w1 w2 => by rw [i2 a k (by omega), f1.i (by omega)])
  | some rs =>
    rw [nc_some rfl, TT_bv]
    have hs : SMR M1 rs := by
      rcases hC.1 with q | ⟨rs', q1, q2, q3, q4⟩
      · rw [er, q] at hr
        cases hr
      · rw [er, q1] at hr
        cases hr
        exact ⟨by rw [er]; exact q1, q2, okO_fr f1 q3, by rw [f1.2.2.2.1]; exact q4⟩
    exact c_skJ hB hy h54 hb1 hb hdl n1 s1 hP1 k1 hv1 hs fw1 pm1 e5 e6 e141 hsp h78 (fun a k w1 w2 => f1.i (by omega))
theorem c_seekFirst {B y n b sp : Nat} {mo : Nat → Option Nat} {yr : Nat → Nat} {di : Nat → List Nat} {M : Mem} (hB : B + 12 < 16776000) (hy : y ≤ 999) (h54 : mI M 49 54 = nI y) (hb1 : 1 ≤ b) (hb : b < 4096) (hdl : ∀ p e h, h < n → dst (mI M 49) y (rank (di h)) p = some e → e < 9331) (m0 : MID M) (s0 : SCI B M) (hP0 : PTH M) (hC : FSC M) (hv : HSV M n mo yr di) (e14 : mI M 1 14 = nI sp) (hsp : sp < 2147483648) : TT (f_X4_seekFirst M 32 (nI b)) (SKQ M B b n y di) := by
  obtain ⟨l1, l2, l3, l4, l5, l6⟩ := okLP m0
  have key := c_skN hB hy h54 hb1 hb hdl m0 s0 hP0 hC hv e14 hsp
  rw [seekFirst_eq, grd_y l1, TT_bv]
  by_cases w1 : mI M 32 5 = nI b
  · rw [if_pos w1, l2, Option.bind_some, grd_y (okLV m0).1]
    by_cases w2 : mI M 32 6 = mI M 1 14
    · rw [if_pos w2, TT_some]
      obtain ⟨c0, t, st, sp', c1, c2, c3, c4, c5, c6, c7⟩ := id hC
      have et : t = b := (neqI (by omega) (by omega)).mp (c1.symm.trans w1)
      have es : st = sp' := by
        refine (neqI (by omega) c6).mp ?_
        rw [← c2, ← c3]
        exact w2
      subst et
      obtain ⟨n', mo', yr', di', y', h1, h2, h3, h4⟩ := c7 hb1 es
      have ey : y' = y := (neqI (by omega) (by omega)).mp (h2.symm.trans h54)
      subst ey
      obtain ⟨en, ed⟩ := h1.un hv
      subst en
      refine ⟨m0, s0.mono (by omega), hP0, hC, rfl, Fw.rf, PMX.rf, ?_, fun a k _ _ => rfl⟩
      rw [lsF_cg (smF_cg n' (fun h p hh => by rw [← ed h hh]))]
      exact h4
    · rw [if_neg w2]
      exact key
  · rw [if_neg w1]
    exact key
