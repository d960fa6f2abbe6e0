/-! image() on both sides -/
theorem SCI.nt {B : Nat} {M M2 : Mem} (h : SCI B M) (e : ∀ a k, (a = 1 ∧ (k = 12 ∨ k = 13)) ∨ a = 2 ∨ a = 3 ∨ a = 21 ∨ a = 25 ∨ a = 49 → mI M2 a k = mI M a k) (er : mR M2 21 3 = mR M 21 3) (ho : ∀ c a, okO M c a → okO M2 c a) (ht : ∀ tx sms, TXR M tx sms → TXR M2 tx sms) : SCI B M2 := by
  obtain ⟨tn, r, ru, y0, s1, s2, s3, s4, s5, s6, s7, s8, s9, s10, s11⟩ := h
  have e49 : mI M2 49 = mI M 49 := funext (fun k => e 49 k (by omega))
  refine ⟨tn, r, ru, y0, s1, (e 21 4 (by omega)).trans s2, s3.e (fun k => e 25 k (by omega)), (e 21 5 (by omega)).trans s4, (e 1 13 (by omega)).trans s5, s6, s7, (e 21 6 (by omega)).trans s8, s9, fun tx q => ho 9 tx (s10 tx (by rw [← er]; exact q)), fun w => ?_⟩
  obtain ⟨o, o1, o2⟩ := s11 w
  rw [e49]
  refine ⟨o, o1, ?_⟩
  cases o with
  | none =>
    obtain ⟨b1', b5, b6, b7⟩ := o2
    refine ⟨er.trans b1', fun t ht => ?_, (e 21 4 (by omega)).trans b6, b7.e (fun k => e 25 k (by omega))⟩
    rw [e 3 t (by omega)]
    exact b5 t ht
  | some sms =>
    obtain ⟨tx, y1, b1', b2, b3, b4, b9, b5, b6, b7, b8⟩ := o2
    refine ⟨tx, y1, er.trans b1', ht tx sms b2, (e 21 4 (by omega)).trans b3, (e 21 6 (by omega)).trans b4, b9, fun t ht => ?_, (e 1 12 (by omega)).trans b6, fun s t p n hh h1 h2 h3 h4 h5 => ?_, b8⟩
    · rw [e 2 t (by omega), e 3 t (by omega)]
      exact b5 t ht
    · rw [e 25 _ (by omega)]
      exact b7 s t p n hh h1 h2 h3 h4 h5
theorem LWS.nt {M M2 : Mem} {ar ar' : Nat} {K : Nat → Int32} (h : LWS M ar K) (er : ∀ g, g < 6 → mR M2 ar' g = mR M ar g) (ho : ∀ c a, okO M c a → okO M2 c a) (ht : ∀ tx sms, TXR M tx sms → TXR M2 tx sms) : LWS M2 ar' K := by
  refine ⟨fun g y hg e => ho 9 y (h.1 g y hg (by rw [← er g hg]; exact e)), fun c g hc hk hg => ?_⟩
  obtain ⟨tx, sms, e1, e2, e3⟩ := h.2 c g hc hk hg
  exact ⟨tx, sms, by rw [er g (by omega)]; exact e1, ht tx sms e2, e3⟩
theorem Fw.res {S R : Nat → Nat → Prop} {M M1 : Mem} (h : Fw S R M M1) : Fw (fun a k => S a k ∧ a < mn M) (fun a k => R a k ∧ a < mn M) M M1 := ⟨h.1, h.2.1, h.2.2.1, fun a k ha hr => h.2.2.2.1 a k ha (fun q => hr ⟨q, ha⟩), fun a k ha hs => h.2.2.2.2 a k ha (fun q => hs ⟨q, ha⟩)⟩
def KDV (M : Mem) (v : Nat) : Prop := mK M v = 10 ∧ (∀ j, 1 ≤ j → j ≤ 7 → mK M (v + j) = 14) ∧ mK M (v + 8) = 19
theorem KDV.ne {M : Mem} {v w : Nat} (hv : KDV M v) (hw : KDV M w) (h : v ≠ w) : v + 8 < w ∨ w + 8 < v := by
  obtain ⟨k1, k2, k3⟩ := hv
  obtain ⟨l1, l2, l3⟩ := hw
  refine Classical.byContradiction (fun q => ?_)
  by_cases w1 : v < w
  · obtain ⟨d, rfl⟩ : ∃ d, w = v + d := ⟨w - v, by omega⟩
    by_cases w2 : d ≤ 7
    · rw [k2 d (by omega) w2] at l1
      omega
    · obtain rfl : d = 8 := by omega
      rw [k3] at l1
      omega
  · obtain ⟨d, rfl⟩ : ∃ d, v = w + d := ⟨v - w, by omega⟩
    by_cases w2 : d ≤ 7
    · rw [l2 d (by omega) w2] at k1
      omega
    · obtain rfl : d = 8 := by omega
      rw [l3] at k1
      omega
theorem IMV.nt {M M2 : Mem} {v : Nat} {K K' : Nat → Int32} (h : IMV M v K) (e : KE K K') (ei : ∀ j i, j ≤ 8 → mI M2 (v + j) i = mI M (v + j) i) (er : ∀ j i, j ≤ 8 → mR M2 (v + j) i = mR M (v + j) i) (ho : ∀ c a, okO M c a → okO M2 c a) (lf : ∀ j, j ≤ 8 → mL M2 (v + j) = mL M (v + j)) (ht : ∀ tx sms, TXR M tx sms → TXR M2 tx sms) : IMV M2 v K' := by
  obtain ⟨a1, a2, a3, a4, a5, a6, a7, a8, a9, a10, a11, a12⟩ := h
  obtain ⟨c1, c2, c3⟩ := CVs.cp (M1 := M2) (v := v) (w := v) a8 e a9 a10 a11 (fun j i h1 h2 h3 => ei j i (by omega)) (fun j i h1 h2 h3 => ei j i (by omega)) (fun i h1 h2 => ei 0 i (by omega))
  refine ⟨a1, ho _ _ a2, fun j hj => by rw [show mR M2 v j = mR M v j from er 0 j (by omega)]; exact a3 j hj, fun j hj => ⟨ho _ _ (a4 j hj).1, ?_⟩, fun j hj => ⟨ho _ _ (a5 j hj).1, ?_⟩, ho _ _ a6, by rw [lf 8 (by omega)]; exact a7, a8.ke e, c1, c2, c3, (a12.nt (fun g _ => er 8 g (by omega)) ho ht).ke e⟩
  · have := lf (1 + j) (by omega)
    rw [show v + (1 + j) = v + 1 + j by omega] at this
    rw [this]
    exact (a4 j hj).2
  · have := lf (4 + j) (by omega)
    rw [show v + (4 + j) = v + 4 + j by omega] at this
    rw [this]
    exact (a5 j hj).2
def Sim (v k a i : Nat) : Prop := Stk2 v a i ∨ (a = 0 ∧ i = 12) ∨ (a = 47 ∧ i ≤ 1) ∨ S50 k a i ∨ (a = 51 ∧ i = k)
def Rim (v k a i : Nat) : Prop := a = v + 8 ∨ (a = 10 ∧ i = k)
theorem image_end {c : Nat} (hc : c < 600) {M M' Mt M2 : Mem} (h : INV0 c M) {k v : Nat} (hk : k < 2) (hF' : Fw Fno (Rim v k) M M') (hv : VBL M' v) (h78v : 78 ≤ v) (hr : mR M' 10 k = some v) (hne : ∀ v', mR M 10 (1 - k) = some v' → v' ≠ v) (hht : v < mn M → ∀ j, j ≤ 8 → HT M (v + j)) (hnv : ¬ v < mn M → v = mn M) (hn' : mn M' ≤ mn M + 9) (hz' : mz M' ≤ mz M + 87) (hMt : Mt = TKZ M' v 1) (hF2 : Fr (fun a i => (a = 0 ∧ i = 12) ∨ (a = 47 ∧ i ≤ 1) ∨ S50 k a i ∨ (a = 51 ∧ i = k)) Mt M2) (v0 : mI M2 0 12 = 0) (v47 : mI M2 47 0 = 0) (v1 : mI M2 47 1 = mI Mt 47 1 + 1) (v50 : ∀ i, i < 5666 → IMK M2 k i = mI Mt 49 i) (v51 : mI M2 51 k = 1) : INV0 (c + 1) M2 ∧ QF M M2 := by
  obtain ⟨⟨hC, hM, hK, ⟨vt, vo, vh⟩, hO⟩, i2, ⟨n, bt, t1, t2, t3, t4⟩, i4, i5, ⟨p1, p2, p3, dk, p4, p5', p6, p7⟩, i7, i8⟩ := id h
  have h78 := i2.1
  have h78' : 78 ≤ mn M' := by have := hF'.1; omega
  have hd : v + 8 < 1 ∨ 1 + 8 < v := by omega
  have hFt : Fw (Stk2 v) (Rtk2 v) M' Mt := by rw [hMt]; exact TKZ_fw
  obtain ⟨z1, z2, z3, z4, z5⟩ := TKZ_i (M := M') (v := v) (w := 1) hd
  have zr : ∀ g, g < 6 → mR (TKZ M' v 1) (v + 8) g = mR M' 9 g := fun g hg => TKZ_r (M := M') (v := v) (w := 1) hg
  obtain ⟨zn, zz⟩ := TKZ_n (M := M') (v := v) (w := 1)
  rw [← hMt] at z1 z2 z3 z4 z5 zr zn zz
  have hFall : Fw (Sim v k) (Rim v k) M M2 := ((hF'.up (fun _ _ w => w.elim) (fun _ _ w => w)).tr (hFt.up (fun _ _ w => Or.inl w) (fun a i w => Or.inl w))).tr ((hF2.fw).up (fun a i w => Or.inr w) (fun _ _ w => w))
  have e' : ∀ a i, a < 78 → mI M' a i = mI M a i := fun a i w => hF'.i (by omega) (fun q => q)
  have et : ∀ a i, a < 78 → mI Mt a i = mI M' a i := fun a i w => hFt.i (by omega) (fun q => by unfold Stk2 at q; omega)
  have e2 : ∀ a i, a < 78 → ¬ (a = 0 ∧ i = 12) → ¬ (a = 47 ∧ i ≤ 1) → a ≠ 50 → ¬ (a = 51 ∧ i = k) → mI M2 a i = mI M a i := fun a i w1 w2 w3 w4 w5 => by
    rw [hF2.i (fun q => by unfold S50 at q; omega), et a i w1, e' a i w1]
  have e49 : mI M2 49 = mI M 49 := funext (fun i => e2 49 i (by decide) (by omega) (by omega) (by omega) (by omega))
  have hRo : ∀ a i, oldR a i = true → ¬ Rim v k a i := fun a i w q => by
    unfold Rim at q
    unfold oldR at w
    simp only [Bool.and_eq_true, decide_eq_true_eq] at w
    rcases q with q | ⟨q, _⟩
    · omega
    · subst q
      simp at w
  -- texts
  have okf : ∀ c a, okO M c a → okO M2 c a := fun c a w => hFall.ok w
  have txf : ∀ tx sms, TXR M tx sms → TXR M2 tx sms := by
    intro tx sms ht
    obtain ⟨y1, y2, y3⟩ := ht.ht
    have l0 := ht.ok.1
    have ht' : TXR M' tx sms := ht.fw hF' (fun _ => ⟨fun q => q, fun q => q, fun q => q⟩) (fun i q => by
      rcases q with q | ⟨q, _⟩
      · by_cases w : v < mn M
        · have := (hht w 8 (by omega)).2
          have k9 := ht.ok.2
          have kv := hv.kd.2.2
          have := (hF'.2.2.1 tx l0).1
          rw [← q] at kv
          omega
        · have := hnv w
          omega
      · have := y1.1
        omega)
    have hno := hv.tx ht'
    have ht2 : TXR Mt tx sms := ht'.fw hFt (fun i => ⟨fun q => hno 0 (by omega) (by unfold Stk2 at q; omega), fun q => hno 1 (by omega) (by unfold Stk2 at q; omega), fun q => hno 2 (by omega) (by unfold Stk2 at q; omega)⟩) (fun i q => hno 0 (by omega) (by unfold Rtk2 at q; omega))
    exact ht2.fw (hF2.fw (R := fun _ _ => False)) (fun i => ⟨fun q => by have := y1.1; unfold S50 at q; omega, fun q => by have := y2.1; unfold S50 at q; omega, fun q => by have := y3.1; unfold S50 at q; omega⟩) (fun _ q => q)
  have r9 : ∀ g, mR M2 9 g = mR M 9 g := fun g => hFall.r (by omega) (fun q => by unfold Rim at q; omega)
  have z0 : ∀ x : Int32, x = x + nI 0 := fun x => (Int32.add_zero x).symm
  have hq : QST M M2 := ⟨0, 0, 1, by omega, by omega, by omega, by rw [e2 1 13 (by decide) (by omega) (by omega) (by omega) (by omega)]; exact z0 _, by rw [e2 1 14 (by decide) (by omega) (by omega) (by omega) (by omega)]; exact z0 _, by rw [v1, et 47 1 (by decide), e' 47 1 (by decide)]; rfl, by rw [e49]; exact fun _ => AGK.rf, by rw [e49]; exact fun _ => ⟨AGK.rf, YHK.rf⟩, fun w => by omega⟩
  have hn2 : mn M2 = mn M' := by rw [hF2.1, zn]
  have hz2 : mz M2 = mz M' := by rw [hF2.2.1, zz]
  have hR2 : REL M2 := by
    refine ⟨hC.fw h78 hFall hRo, hM.fw h78 hFall hRo, by rw [e49]; exact hK, ?_, by rw [v0, v47], fun m hm => by rw [e2 45 _ (by decide) (by omega) (by omega) (by omega) (by omega), e2 48 _ (by decide) (by omega) (by omega) (by omega) (by omega)]; exact hO.2 m hm⟩
    rw [e49]
    have ex : ∀ a i, 1 ≤ a → a ≤ 8 → mI M2 a i = mI M a i := fun a i w1 w2 => e2 a i (by omega) (by omega) (by omega) (by omega) (by omega)
    refine ⟨fun t ht => ?_, ?_, fun n g h1 h2 h3 => ?_⟩
    · rw [ex 2 t (by omega) (by omega), ex 3 t (by omega) (by omega), ex 4 t (by omega) (by omega)]
      exact vt t ht
    · unfold CVo
      rw [ex 1 8 (by omega) (by omega), ex 1 9 (by omega) (by omega), ex 1 10 (by omega) (by omega), ex 1 11 (by omega) (by omega), ex 1 12 (by omega) (by omega)]
      exact vo
    · rw [ex 5 g (by omega) (by omega), ex 6 g (by omega) (by omega), ex 7 g (by omega) (by omega), ex 8 g (by omega) (by omega)]
      exact vh n g h1 h2 h3
  -- the new IMAGE
  have hke : KE (mI M 49) (IMK M2 k) := fun i hi => by rw [v50 i hi, et 49 i (by decide), e' 49 i (by decide)]
  have e2v : ∀ a i, 78 ≤ a → mI M2 a i = mI Mt a i := fun a i w => hF2.i (fun q => by unfold S50 at q; omega)
  have em : ∀ a i, a < 78 → mI M' a i = mI M a i := e'
  obtain ⟨cv1, cv2, cv3⟩ := CVs.cp (M := M) (M1 := M2) (v := v) (w := 1) hK hke vt vo vh (fun j i h1 h2 h3 => by rw [e2v _ i (by omega), z1 j i h1 h2 h3, e' _ i (by omega)]) (fun j i h1 h2 h3 => by rw [e2v _ i (by omega), z2 j i h1 h2 h3, e' _ i (by omega)]) (fun i h1 h2 => by rw [e2v _ i (by omega), z3 i h1 h2, e' _ i (by omega)])
  have ok2 : ∀ c a, okO M' c a → okO M2 c a := fun c a w => okO_fr hF2 (hFt.ok w)
  have r2 : ∀ a i, mR M2 a i = mR Mt a i := fun a i => by rw [hF2.2.2.2.2.1]
  have l2 : ∀ a, a < mn M' → mL M2 a = mL M' a := fun a w => by rw [hF2.2.2.2.1, hFt.l w]
  have lt8 : v + 8 < mn M' := hv.2.2.2.2.1.1
  have hnew : IMV M2 v (IMK M2 k) := by
    obtain ⟨b1', b2, b3, b4, b5, b6⟩ := id hv
    refine ⟨h78v, ok2 10 v b1', fun j hj => by rw [r2, hFt.r (by omega) (fun q => by unfold Rtk2 at q; omega)]; exact b2 j hj, fun j hj => ⟨ok2 14 _ (b3 j hj).1, by rw [l2 _ (by omega)]; exact (b3 j hj).2⟩, fun j hj => ⟨ok2 14 _ (b4 j hj).1, by rw [l2 _ (by omega)]; exact (b4 j hj).2⟩, ok2 19 _ b5, by rw [l2 _ lt8]; exact b6, hK.ke hke, cv1, cv2, cv3, ?_⟩
    exact (i7.nt (ar' := v + 8) (fun g hg => by rw [r2, zr g hg]; exact hF'.r (by omega) (fun q => by unfold Rim at q; omega)) okf txf).ke hke
  have hIMG : IMG M2 := by
    have r10 : ∀ i, i ≠ k → mR M2 10 i = mR M 10 i := fun i w => hFall.r (by omega) (fun q => by unfold Rim at q; omega)
    have r10k : mR M2 10 k = some v := by
      rw [r2, hFt.r (by omega) (fun q => by unfold Rtk2 at q; omega)]
      exact hr
    have oth : ∀ i, i < 2 → i ≠ k → i = 1 - k := fun i h1 h2 => by omega
    refine ⟨fun i hi => ?_, fun a b qa qb => ?_⟩
    · by_cases w : i = k
      · subst w
        exact Or.inr ⟨v51, v, r10k, hnew⟩
      · have e51 : mI M2 51 i = mI M 51 i := e2 51 i (by decide) (by omega) (by omega) (by omega) (by omega)
        rw [e51, r10 i w]
        rcases i5.1 i hi with q | ⟨q, v', q2, q3⟩
        · exact Or.inl q
        · refine Or.inr ⟨q, v', q2, ?_⟩
          have hvv : v' ≠ v := hne v' (by rw [← oth i hi w]; exact q2)
          have kv' : KDV M' v' := by
            obtain ⟨x1, x2, x3⟩ := q3.vbl.kd
            have l8 : ∀ j, j ≤ 8 → v' + j < mn M := fun j hj => q3.lt hj
            exact ⟨by rw [(hF'.2.2.1 v' (l8 0 (by omega))).1]; exact x1, fun j h1 h2 => by rw [(hF'.2.2.1 _ (l8 j (by omega))).1]; exact x2 j h1 h2, by rw [(hF'.2.2.1 _ (l8 8 (by omega))).1]; exact x3⟩
          have hdj := KDV.ne kv' hv.kd hvv
          have h78w := q3.1
          refine q3.nt (fun j hj => ?_) (fun j x hj => hFall.i (q3.lt hj) (fun q => by unfold Sim Stk2 S50 at q; omega)) (fun j x hj => hFall.r (q3.lt hj) (fun q => by unfold Rim at q; omega)) okf (fun j hj => hFall.l (q3.lt hj)) txf
          show mI M2 50 (5666 * i + j) = mI M 50 (5666 * i + j)
          rw [hF2.i (fun q => by unfold S50 at q; omega), et 50 _ (by decide), e' 50 _ (by decide)]
    · have c01 : k = 0 ∨ k = 1 := by omega
      rcases c01 with rfl | rfl
      · rw [r10k] at qa
        cases qa
        rw [r10 1 (by omega)] at qb
        exact fun z => hne b qb z.symm
      · rw [r10k] at qb
        cases qb
        rw [r10 0 (by omega)] at qa
        exact hne a qa
  refine ⟨⟨hR2, i2.q hq (by have := hF'.1; omega) (by omega), ⟨n, bt, t1, by rw [e2 11 4 (by decide) (by omega) (by omega) (by omega) (by omega)]; exact t2, by rw [e2 47 17 (by decide) (by omega) (by omega) (by omega) (by omega)]; exact t3, fun i hi => by rw [e2 12 i (by decide) (by omega) (by omega) (by omega) (by omega), e2 56 i (by decide) (by omega) (by omega) (by omega) (by omega)]; exact t4 i hi⟩, fun i hi => by rw [e2 55 i (by decide) (by omega) (by omega) (by omega) (by omega)]; exact i4 i hi, hIMG, ⟨by rw [e2 0 13 (by decide) (by omega) (by omega) (by omega) (by omega), e2 47 12 (by decide) (by omega) (by omega) (by omega) (by omega)]; exact p1, by rw [e2 0 14 (by decide) (by omega) (by omega) (by omega) (by omega), e2 47 18 (by decide) (by omega) (by omega) (by omega) (by omega)]; exact p2, by rw [e2 0 15 (by decide) (by omega) (by omega) (by omega) (by omega), e2 47 46 (by decide) (by omega) (by omega) (by omega) (by omega)]; exact p3, dk, p4, by rw [e2 0 11 (by decide) (by omega) (by omega) (by omega) (by omega)]; exact p5', by rw [e2 47 57 (by decide) (by omega) (by omega) (by omega) (by omega)]; exact p6, fun i hi => by rw [e2 46 i (by decide) (by omega) (by omega) (by omega) (by omega), e2 77 i (by decide) (by omega) (by omega) (by omega) (by omega)]; exact p7 i hi⟩, by rw [e49]; exact i7.nt (fun g _ => r9 g) okf txf, (i8.nt (fun a i w => e2 a i (by omega) (by omega) (by omega) (by omega) (by omega)) (hFall.r (by omega) (fun q => by unfold Rim at q; omega)) okf txf).mono (by omega)⟩, ?_, by omega, by omega, hq⟩
  refine hFall.res.up (fun a i w => ?_) (fun a i w => ?_)
  · obtain ⟨w1, w2⟩ := w
    unfold Sim at w1
    rcases w1 with w1 | w1
    · unfold Stk2 at w1
      by_cases z : v < mn M
      · have := hht z (a - v) (by omega)
        rw [show v + (a - v) = a by omega] at this
        exact Or.inr this
      · have := hnv z
        omega
    · exact Or.inl (by unfold S50 at w1; omega)
  · obtain ⟨w1, w2⟩ := w
    rcases w1 with w1 | w1
    · by_cases z : v < mn M
      · rw [w1]
        exact Or.inr (Or.inr (Or.inr (hht z 8 (by omega))))
      · have := hnv z
        omega
    · exact Or.inr (Or.inl w1.1)
noncomputable def imJ (M : Mem) (p1 : Int32) : Option (Mem × Int32) := Option.bind (mR M 0 1) (fun r21 => grd (okO M 20 r21) (grd (vp_in p1 (mL M r21)) (Option.bind (mR M r21 p1.toNatClampNeg) (fun r24 => Option.bind (mR M 0 0) (fun r25 => grd (okO M 10 r24) (Option.bind (f_X10_takeFrom M r24 r25) (fun q27 => Option.bind (f_X11_accept q27 0 0) (fun q32 => some (q32.1, q32.2)))))))))
theorem cimage_eq {M : Mem} {p1 : Int32} : f_X11_image M 0 p1 = if p1 < 0 then (grd (okO M 11 0) (Option.bind (f_X11_refuse M 0 (-1)) (fun q6 => some (q6.1, q6.2)))) else (if p1 < 2 then (grd (okO M 11 0) (Option.bind (mR M 0 1) (fun r12 => grd (okO M 20 r12) (grd (vp_in p1 (mL M r12)) (ncase (mR M r12 p1.toNatClampNeg) (Option.bind (mR M 0 1) (fun r37 => Option.bind (f_X10_init (nO M 10 15) (mn M)) (fun q43 => grd (okO q43 20 r37) (grd (vp_in p1 (mL q43 r37)) (imJ (wR q43 r37 p1.toNatClampNeg (some (mn M))) p1))))) (fun r15 => imJ M p1)))))) else (grd (okO M 11 0) (Option.bind (f_X11_refuse M 0 (-1)) (fun q6 => some (q6.1, q6.2))))) := rfl
theorem c_imJ {M : Mem} (hC : LayC M) {k v : Nat} (hk : k < 2) (hr : mR M 10 k = some v) (hv : VBL M v) (h78 : 78 ≤ v) (hl : ∀ g y, g < 6 → mR M 9 g = some y → okO M 9 y) (hm : 78 ≤ mn M) : imJ M (nI k) = some (wI (TKZ M v 1) 0 12 0, 0) := by
  have et := c_takeFrom hv hC.vbl (Or.inr (by omega)) hl
  have hCz : LayC (TKZ M v 1) := hC.fw hm TKZ_fw (fun a i w q => by
    unfold Rtk2 at q
    unfold oldR at w
    simp only [Bool.and_eq_true, decide_eq_true_eq] at w
    omega)
  have ea := c_accept (M := TKZ M v 1) hCz (v := 0)
  have hC2 := hC
  unfold LayC at hC2
  unfold imJ
  simp only [hC2, grd_T, Option.bind_some]
  rw [grd_y ((nvp (by omega)).mpr (by omega)), nclampI (by omega), hr, Option.bind_some, grd_y hv.1, et, Option.bind_some, ea, Option.bind_some]
theorem c_image_out {M : Mem} (hC : LayC M) {p : Int32} (h : p < 0 ∨ ¬ p < 2) : f_X11_image M 0 p = some (RFC M 1, -1) := by
  have r1 := c_refuse (M := M) hC (n := 1) (by unfold RN; omega)
  rw [show -(nI 1) = (-1 : Int32) by decide] at r1
  have hC2 := hC
  unfold LayC at hC2
  rw [cimage_eq, grd_y hC2.1, r1, Option.bind_some]
  by_cases w : p < 0
  · rw [if_pos w]
  · rw [if_neg w, if_neg (h.resolve_left w)]
theorem bool1 : vp_nar .boolean 1 = 1 := by
  unfold vp_nar
  simp [narrow]
/-- the reference's half -/
theorem r_image {Ma : Mem} (hM : LayM Ma) {k : Nat} (hk : k < 2) : ∃ M2, f_X12_image Ma 47 (nI k) = some (M2, 0) ∧ Fr (fun a i => (a = 47 ∧ i ≤ 1) ∨ S50 k a i ∨ (a = 51 ∧ i = k)) Ma M2 ∧ mI M2 47 0 = 0 ∧ mI M2 47 1 = mI Ma 47 1 + 1 ∧ (∀ i, i < 5666 → IMK M2 k i = mI Ma 49 i) ∧ mI M2 51 k = 1 := by
  obtain ⟨M1, f1, d1, d2⟩ := r_image_L hM hk
  have hM1 := hM.fr d1
  have hM12 := hM1
  unfold LayM at hM12
  have w1 : 0 ≤ nI k ∧ nI k ≤ 1 := ⟨by rw [show (0 : Int32) = nI 0 from rfl, nleI (by omega) (by omega)]; omega, by rw [show (1 : Int32) = nI 1 from rfl, nleI (by omega) (by omega)]; omega⟩
  refine ⟨wI (wI (wI M1 51 k 1) 47 0 0) 47 1 (mI (wI M1 51 k 1) 47 1 + 1), ?_, ?_, ?_, ?_, ?_, ?_⟩
  · rw [rimage_eq, lies_bind, if_pos w1, f1, Option.bind_some]
    simp only [hM12, grd_T, Option.bind_some, bv]
    rw [grd_y ((nvp (by omega)).mpr (by omega)), nclampI (by omega), bool1, r_good (M := wI M1 51 k 1) hM1, Option.bind_some]
  · exact (((d1.up (fun a i w => Or.inr (Or.inl w))).wI (Or.inr (Or.inr ⟨rfl, rfl⟩))).wI (Or.inl ⟨rfl, by omega⟩)).wI (Or.inl ⟨rfl, by omega⟩)
  · rw [mI_wI_ne (by decide), mI_wIs]
  · rw [mI_wIs, mI_wI_row (by decide), d1.i (by unfold S50; omega)]
  · intro i hi
    show mI (wI (wI (wI M1 51 k 1) 47 0 0) 47 1 _) 50 (5666 * k + i) = _
    rw [mI_wI_row (by decide), mI_wI_row (by decide), mI_wI_row (by decide)]
    exact d2 i hi
  · rw [mI_wI_row (by decide), mI_wI_row (by decide), mI_wIs]
theorem image_y {c : Nat} (hc : c < 600) {M M' : Mem} (h : INV0 c M) {k v : Nat} (hk : k < 2) (hF' : Fw Fno (Rim v k) M M') (hv : VBL M' v) (h78v : 78 ≤ v) (hr : mR M' 10 k = some v) (hne : ∀ v', mR M 10 (1 - k) = some v' → v' ≠ v) (hht : v < mn M → ∀ j, j ≤ 8 → HT M (v + j)) (hnv : ¬ v < mn M → v = mn M) (hn' : mn M' ≤ mn M + 9) (hz' : mz M' ≤ mz M + 87) : ∃ M1 M2, imJ M' (nI k) = some (M1, 0) ∧ f_X12_image M1 47 (nI k) = some (M2, 0) ∧ INV0 (c + 1) M2 ∧ QF M M2 := by
  have h78 := h.2.1.1
  have h78' : 78 ≤ mn M' := by have := hF'.1; omega
  have hRo : ∀ a i, oldR a i = true → ¬ Rim v k a i := fun a i w q => by
    unfold Rim at q
    unfold oldR at w
    simp only [Bool.and_eq_true, decide_eq_true_eq] at w
    rcases q with q | ⟨q, _⟩
    · omega
    · subst q
      simp at w
  have hC' := h.1.1.fw h78 hF' hRo
  have hM' := h.1.2.1.fw h78 hF' hRo
  have hl : ∀ g y, g < 6 → mR M' 9 g = some y → okO M' 9 y := fun g y hg e => hF'.ok (h.2.2.2.2.2.2.1.1 g y hg (by rw [← hF'.r (a := 9) (by omega) (fun q => by unfold Rim at q; omega)]; exact e))
  have ec := c_imJ hC' hk hr hv h78v hl h78'
  have hMt : LayM (TKZ M' v 1) := hM'.fw h78' TKZ_fw (fun a i w q => by
    unfold Rtk2 at q
    unfold oldR at w
    simp only [Bool.and_eq_true, decide_eq_true_eq] at w
    omega)
  generalize hT : TKZ M' v 1 = Mt at *
  have hFa : Fr (fun a i => a = 0 ∧ i = 12) Mt (wI Mt 0 12 0) := Fr.rf.wI ⟨rfl, rfl⟩
  have v12 : mI (wI Mt 0 12 0) 0 12 = 0 := mI_wIs
  generalize wI Mt 0 12 0 = Ma at *
  have ea : ∀ a i, a ≠ 0 → mI Ma a i = mI Mt a i := fun a i w => hFa.i (by omega)
  obtain ⟨M2, f2, d1, d2, d3, d4, d5⟩ := r_image (hMt.fr hFa) hk
  refine ⟨Ma, M2, ec, f2, ?_⟩
  have hF2 : Fr (fun a i => (a = 0 ∧ i = 12) ∨ (a = 47 ∧ i ≤ 1) ∨ S50 k a i ∨ (a = 51 ∧ i = k)) Mt M2 := (hFa.up (fun a i w => Or.inl w)).tr (d1.up (fun a i w => Or.inr w))
  exact image_end hc h hk hF' hv h78v hr hne hht hnv hn' hz' hT.symm hF2 (by rw [d1.i (by unfold S50; omega)]; exact v12) d2 (by rw [d3, ea 47 1 (by decide)]) (fun i hi => by rw [d4 i hi, ea 49 i (by decide)]) d5
theorem both_image {c : Nat} (hc : c < 600) {M : Mem} (h : INV0 c M) (p : Int32) : CALL c M (fun M => f_X11_image M 0 p) (fun M => f_X12_image M 47 p) := by
  have hC := h.1.1
  have hM := h.1.2.1
  have h78 := h.2.1.1
  have hI := h.2.2.2.2.1
  have rn1 : RN 1 := by unfold RN; omega
  rcases k2_or p with ⟨w1, w2⟩ | ⟨k, hk, rfl, w1, w2, w3⟩
  · refine CALL.ref hc (n := 1) rn1 h (c_image_out hC w2) ?_
    have r1 := r_refuses (M := RFC M 1) hM.rfc (n := 1) rn1
    have hM2 := hM.rfc (n := 1)
    unfold LayM at hM2
    show f_X12_image (RFC M 1) 47 p = _
    rw [rimage_eq, lies_bind, if_neg w1, grd_y hM2.1, show (-1 : Int32) = -(nI 1) by decide, r1, Option.bind_some]
  · have hC2 := hC
    unfold LayC at hC2
    have hoth : ∀ v v', mR M 10 k = some v → mR M 10 (1 - k) = some v' → v' ≠ v := fun v v' q1 q2 => by
      have c01 : k = 0 ∨ k = 1 := by omega
      rcases c01 with rfl | rfl
      · exact fun z => hI.2 v v' q1 q2 z.symm
      · exact hI.2 v' v q2 q1
    rcases hI.1 k hk with ⟨b1', b2⟩ | ⟨b1', v, b2, b3⟩
    · obtain ⟨Mv, f1, hvb⟩ := c_vinit (M := M)
      obtain ⟨x1, x2⟩ := hvb.vbl
      obtain ⟨y0, y1, y2, y3, y4, y5, y6, y7⟩ := id hvb
      have hF' : Fw Fno (Rim (mn M) k) M (wR Mv 10 k (some (mn M))) := (y7.up (fun _ _ w => w) (fun _ _ w => w.elim)).wR (Or.inr ⟨rfl, rfl⟩)
      have hvw : VBL (wR Mv 10 k (some (mn M))) (mn M) := by
        obtain ⟨q1, q2, q3, q4, q5, q6⟩ := x1
        refine ⟨q1, fun j hj => ?_, q3, q4, q5, q6⟩
        rw [mR_wR, if_neg (fun q => by omega)]
        exact q2 j hj
      have hrw : mR (wR Mv 10 k (some (mn M))) 10 k = some (mn M) := by rw [mR_wR, if_pos ⟨rfl, rfl⟩]
      have o20 : okO Mv 20 10 := y7.ok (by simp only [hC2])
      have l20 : mL Mv 10 = 2 := by rw [y7.l (by omega)]; simp only [hC2]
      obtain ⟨M1, M2, e1, e2, e3⟩ := image_y hc h hk hF' hvw h78 hrw (fun v' q z => by
        rcases hI.1 (1 - k) (by omega) with ⟨_, u⟩ | ⟨_, v2, u1, u2⟩
        · rw [u] at q; cases q
        · rw [u1] at q
          cases q
          have := u2.lt (j := 0) (by omega)
          omega) (fun z => by omega) (fun _ => rfl) (by show mn Mv ≤ _; omega) (by
          show mz Mv ≤ _
          rw [y2]
          have : zzV 8 = 87 := by decide
          omega)
      refine ⟨M1, M2, 0, ?_, e2, e3⟩
      show f_X11_image M 0 (nI k) = _
      rw [cimage_eq, if_neg w2, if_pos w3]
      simp only [hC2, grd_T, Option.bind_some]
      rw [grd_y ((nvp (by omega)).mpr (by omega)), nclampI (by omega), b2]
      show Option.bind (f_X10_init (nO M 10 15) (mn M)) (fun q43 => grd (okO q43 20 10) (grd (vp_in (nI k) (mL q43 10)) (imJ (wR q43 10 k (some (mn M))) (nI k)))) = _
      rw [f1, Option.bind_some, grd_y o20, l20, grd_y ((nvp (by omega)).mpr (by omega))]
      exact e1
    · obtain ⟨M1, M2, e1, e2, e3⟩ := image_y hc h hk (M' := M) (Fw.rf) b3.vbl b3.1 b2 (fun v' q => hoth v v' b2 q) (fun _ j hj => b3.ht hj) (fun z => absurd (b3.lt (j := 0) (by omega)) z) (by omega) (by omega)
      refine ⟨M1, M2, 0, ?_, e2, e3⟩
      show f_X11_image M 0 (nI k) = _
      rw [cimage_eq, if_neg w2, if_pos w3]
      simp only [hC2, grd_T, Option.bind_some]
      rw [grd_y ((nvp (by omega)).mpr (by omega)), nclampI (by omega), b2]
      exact e1
