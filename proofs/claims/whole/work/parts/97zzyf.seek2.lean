theorem dst_bd {M : Mem} (h : MID M) (hx : NXC M) {y ve : Nat} (hy : y ≤ 999) (h54 : mI M 49 54 = nI y) (hv : mI M 47 1 = nI ve) (hve : ve < 2147483648) {g p e : Nat} (hg : g < 9331) (he : dst (mI M 49) y g p = some e) : e < 9331 := by
  rw [dst_iff] at he
  by_cases w : p < 9331
  · obtain ⟨M2, _, _, _, _, _, _, D', _, d2', d3'⟩ := r_measures h hx hy h54 hv hve w
    exact d2' g e ((d3' g e).mpr (isD_rk.mpr he))
  · cases e with
    | zero => omega
    | succ e =>
      obtain ⟨q, _, q2⟩ := he.1
      exact absurd q2.1 w
/-- the answer to first() that is kept, right or stale -/
def FLS (M : Mem) (t : Nat) : Prop := ∃ n mo yr di y, HSV M n mo yr di ∧ mI M 49 54 = nI y ∧ y ≤ 999 ∧ LSC M (lsF (smF (fun h p => dst (mI M 49) y (rank (di h)) p) t n) 9331)
def FSC (M : Mem) : Prop := (mR M 32 4 = none ∨ ∃ rs, SMR M rs) ∧ ∃ t st sp, mI M 32 5 = nI t ∧ mI M 32 6 = nI st ∧ mI M 1 14 = nI sp ∧ t < 4096 ∧ st ≤ sp ∧ sp < 2147483648 ∧ (1 ≤ t → st = sp → FLS M t)
theorem HSV.un {M : Mem} {n n' : Nat} {mo mo' : Nat → Option Nat} {yr yr' : Nat → Nat} {di di' : Nat → List Nat} (h : HSV M n mo yr di) (h' : HSV M n' mo' yr' di') : n = n' ∧ ∀ j, j < n → di j = di' j := by
  have hn := h.1
  have hn' := h'.1
  have e : n = n' := (neqI (by omega) (by omega)).mp (h.2.1.symm.trans h'.2.1)
  refine ⟨e, fun j hj => ?_⟩
  obtain ⟨-, -, a3, -, -, a6, -⟩ := h.2.2.2 j hj
  obtain ⟨-, -, b3, -, -, b6, -⟩ := h'.2.2.2 j (by omega)
  exact (num_inj a3 b3).mp (a6.symm.trans b6)
theorem smF_cg {T T' : Nat → Nat → Option Nat} {b : Nat} : ∀ n, (∀ h p, h < n → T h p = T' h p) → ∀ p, smF T b n p = smF T' b n p
  | 0, _, _ => rfl
  | n + 1, h, p => by
    rw [smF, smF, smF_cg n (fun h' p' hh => h h' p' (by omega)) p, h n p (by omega)]
theorem lsF_cg {f g : Nat → Option Nat} (h : ∀ p, f p = g p) (k : Nat) : lsF f k = lsF g k := by
  rw [show f = g from funext h]
/-- what the class has when it has sought -/
def SKQ (M : Mem) (B b n y : Nat) (di : Nat → List Nat) (M1 : Mem) : Prop := MID M1 ∧ SCI (B + 12) M1 ∧ PTH M1 ∧ FSC M1 ∧ mI M1 49 = mI M 49 ∧ Fw (Spw M) Rpx M M1 ∧ PMX M M1 ∧ LSC M1 (lsF (smF (fun h p => dst (mI M 49) y (rank (di h)) p) b n) 9331) ∧ A47 M M1
theorem LSC.fr {S : Nat → Nat → Prop} {M M1 : Mem} {o : Option (Nat × Nat × Nat)} (h : LSC M o) (hF : Fr S M M1) (hs : ∀ k, 7 ≤ k → ¬ S 32 k) : LSC M1 o := by
  cases o with
  | none =>
    show mI M1 32 7 = -1
    rw [hF.i (hs 7 (by omega))]
    exact h
  | some t =>
    obtain ⟨s, c, r⟩ := t
    obtain ⟨a, b, d⟩ := h
    exact ⟨by rw [hF.i (hs 7 (by omega))]; exact a, by rw [hF.i (hs 8 (by omega))]; exact b, by rw [hF.i (hs 9 (by omega))]; exact d⟩
theorem SCI.fwN {S R : Nat → Nat → Prop} {B : Nat} {M M1 : Mem} (h : SCI B M) (h78 : 78 ≤ mn M) (hF : Fw S R M M1) (hs : ∀ a k, S a k → ¬ (1 ≤ a ∧ a ≤ 3) ∧ a ≠ 21 ∧ a ≠ 25 ∧ a ≠ 49 ∧ ¬ HT M a) (hr : ∀ a k, R a k → ¬ (a = 21 ∧ k = 3) ∧ (78 ≤ a → mK M a ≠ 9)) : SCI B M1 := h.nt (fun a k w => hF.i (by omega) (fun q => by have := hs a k q; omega)) (hF.r (by omega) (fun q => (hr _ _ q).1 ⟨rfl, rfl⟩)) (fun c a w => hF.ok w) (fun tx sms t => t.fw hF (fun k => ⟨fun q => (hs _ _ q).2.2.2.2 t.ht.1, fun q => (hs _ _ q).2.2.2.2 t.ht.2.1, fun q => (hs _ _ q).2.2.2.2 t.ht.2.2⟩) (fun k q => (hr tx k q).2 t.ht.1.1 t.ok.2))
theorem c_skJ {B y n b rs sp : Nat} {mo : Nat → Option Nat} {yr : Nat → Nat} {di : Nat → List Nat} {M M1 : Mem} (hB : B + 12 < 16776000) (hy : y ≤ 999) (h54 : mI M 49 54 = nI y) (hb1 : 1 ≤ b) (hb : b < 4096) (hdl : ∀ p e h, h < n → dst (mI M 49) y (rank (di h)) p = some e → e < 9331) (m1 : MID M1) (s1 : SCI B M1) (hP1 : PTH M1) (k1 : mI M1 49 = mI M 49) (hv : HSV M1 n mo yr di) (hs : SMR M1 rs) (fw : Fw (Spw M) Rpx M M1) (pm : PMX M M1) (e5 : mI M1 32 5 = nI b) (e6 : mI M1 32 6 = nI sp) (e14 : mI M1 1 14 = nI sp) (hsp : sp < 2147483648) (hM78 : 78 ≤ mn M) (a47 : A47 M M1) : TT (skJ 32 (nI b) M1) (SKQ M B b n y di) := by
  obtain ⟨q1, q2, q3, q4⟩ := id hs
  have hk := hs.k
  unfold skJ
  rw [q1, Option.bind_some, TT_bind]
  refine (c_fillI q3 q4).mono ?_
  rintro M2 ⟨f2, v2⟩
  have h78 := m1.2.1
  obtain ⟨n2, k2⟩ := m1.fw (f2.fw (R := fun _ _ => False)) (fun a k w => ⟨by unfold Frl; omega, by rw [w]; exact hk.1⟩) (fun _ _ w => w.elim)
  have hP2 : PTH M2 := hP1.fwN h78 (f2.fw (R := fun _ _ => False)) (fun a k w => Or.inr ⟨by omega, by rw [w, q3.2]; decide, by rw [w, q3.2]; decide⟩) (fun _ _ w => w.elim)
  have s2 : SCI B M2 := s1.fwN h78 (f2.fw (R := fun _ _ => False)) (fun a k w => ⟨by omega, by omega, by omega, by omega, by rw [w]; exact hk.1⟩) (fun _ _ w => w.elim)
  have hs2 : SMR M2 rs := ⟨by rw [f2.2.2.2.2.1]; exact q1, q2, okO_fr f2 q3, by rw [f2.2.2.2.1]; exact q4⟩
  have fw2 : Fw (Spw M1) Rpx M1 M2 := (f2.fw (R := Rpx)).up (fun a k w => by
    rw [w]
    exact Or.inr (Or.inr (Or.inr (Or.inr (Or.inr (Or.inr (Or.inr ⟨q2, q3.2, q4⟩))))))) (fun _ _ w => w)
  have hv2 := hv.spw h78 fw2
  have i0 : SKI (mI M2 32) (mI M 49) B y n b rs mo yr di M 0 M2 := ⟨n2, s2, hP2, by rw [k2, k1], hv2, hs2, v2, Spw.tr fw fw2, pm.tr (PMX.fr f2), fun k _ => rfl, a47.tr (fun a k w1 w2 => f2.i (by omega))⟩
  have e52 : mI M2 32 5 = nI b := by rw [f2.i (by omega)]; exact e5
  rw [TT_bind]
  have hn := hv.1
  refine (c_sk0 hB hy h54 hb hdl i0).mono ?_
  rintro M3 ⟨n3, s3, hP3, k3, hv3, hs3, hf3, fw3, pm3, hV, h47⟩
  have bT : ∀ q s, smF (fun h p => dst (mI M 49) y (rank (di h)) p) b n q = some s → s < 1000000 := fun q s e => by
    have := smF_le (T := fun h p => dst (mI M 49) y (rank (di h)) p) (n := n) (fun h p e hh he => hdl p e h hh he) n q s (by omega) e
    omega
  rw [TT_bind]
  refine (c_findLeast (okLP n3).1 hs3 hf3 bT).mono ?_
  rintro M4 ⟨f4, l4⟩
  rw [TT_some]
  have h783 := n3.2.1
  obtain ⟨n4, k4⟩ := n3.fr f4 (fun a k w => by unfold S79 at w; unfold Frl; omega)
  have hP4 : PTH M4 := hP3.fwN h783 (f4.fw (R := fun _ _ => False)) (fun a k w => by unfold S79 at w; omega) (fun _ _ w => w.elim)
  have s4 : SCI (B + n) M4 := SCI.fr2 s3 h783 f4 (fun a k w => by unfold S79 at w; omega)
  have fw4 : Fw (Spw M3) Rpx M3 M4 := (f4.fw (R := Rpx)).up (fun a k w => by
    unfold S79 at w
    exact Or.inr (Or.inr (Or.inr (Or.inr (Or.inr (Or.inr (Or.inl (by omega)))))))) (fun _ _ w => w)
  have hv4 := hv3.spw h783 fw4
  have e5' : mI M4 32 5 = nI b := by
    rw [f4.i (by unfold S79; omega), hV 5 (by omega)]
    exact e52
  have e6' : mI M4 32 6 = nI sp := by
    rw [f4.i (by unfold S79; omega), hV 6 (by omega), f2.i (by omega)]
    exact e6
  have fwA : Fw (Spw M) Rpx M M4 := Spw.tr fw3 fw4
  have e14' : mI M4 1 14 = nI sp := by
    rw [f4.i (by unfold S79; omega)]
    have h78M : 1 < mn M := by
      have := hM78
      omega
    rw [fw3.i h78M (fun q => by have := spw_x _ _ q; omega), ← fw.i h78M (fun q => by have := spw_x _ _ q; omega)]
    exact e14
  exact ⟨n4, s4.mono (by omega), hP4, ⟨Or.inr ⟨rs, by rw [f4.2.2.2.2.1]; exact hs3.1, q2, okO_fr f4 hs3.2.2.1, by rw [f4.2.2.2.1]; exact hs3.2.2.2⟩, b, sp, sp, e5', e6', e14', hb, Nat.le_refl _, hsp, fun _ _ => ⟨n, mo, yr, di, y, hv4, by rw [k4, k3]; exact h54, hy, by rw [k4, k3]; exact l4⟩⟩, by rw [k4, k3], fwA, pm3.tr (PMX.fr f4), l4, h47.tr (fun a k w1 w2 => f4.i (by unfold S79; omega))⟩
