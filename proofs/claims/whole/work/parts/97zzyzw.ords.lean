/-! orders() on both sides -/
theorem SCI.ag {B : Nat} {M M2 : Mem} {S R : Nat → Nat → Prop} (h : SCI B M) (hR : RUL M) (hR2 : RUL M2) (hF : Fw S R M M2) (h13 : mI M2 1 13 = mI M 1 13) (hag : AGK (mI M 49) (mI M2 49)) (hs : ∀ a k, S a k → a ≠ 21 ∧ a ≠ 25 ∧ ¬ HT M a) (hr : ∀ a k, R a k → ¬ (a = 21 ∧ k = 3) ∧ (78 ≤ a → mK M a ≠ 9)) : SCI B M2 := by
  obtain ⟨tn, r, ru, y0, s1, s2, s3, s4, s5, s6, s7, s8, s9, s10, s11⟩ := h
  obtain ⟨hC, hM, kt, ⟨cc, hc6, h57, h58⟩, vt, o9, o10, o12, h78, hL⟩ := hR
  obtain ⟨hC2, hM2, kt2, kl2, vt2, o92, o102, o122, h782, hL2⟩ := hR2
  have e3' : mR M2 21 3 = mR M 21 3 := hF.r (by omega) (fun q => (hr 21 3 q).1 ⟨rfl, rfl⟩)
  have e25 : ∀ k, mI M2 25 k = mI M 25 k := fun k => hF.i (by omega) (fun q => (hs _ _ q).2.1 rfl)
  have e21 : ∀ k, mI M2 21 k = mI M 21 k := fun k => hF.i (by omega) (fun q => (hs _ _ q).1 rfl)
  obtain ⟨ag, ak⟩ := hag
  refine ⟨tn, r, ru, y0, s1, (e21 4).trans s2, s3.e e25, (e21 5).trans s4, by rw [h13, s5], s6, s7, (e21 6).trans s8, s9, fun tx e => hF.ok (s10 tx (by rw [← e3']; exact e)), fun w => ?_⟩
  obtain ⟨o, o1, o2⟩ := s11 w
  refine ⟨o, ag.law (by
    rcases h58 with q | ⟨f, q1, q2⟩
    · exact Or.inl q
    · exact Or.inr ⟨f, by omega, q2⟩) o1, o2.fw h78 hF hs hr (fun t ht => ?_) (fun t ht => ?_) ?_ ag.1 ag.2.1 (fun t ht => ?_)⟩
  · rw [(vt2 t ht).1, (vt t ht).1, ag.1 t ht]
  · rw [(vt2 t ht).2.1, (vt t ht).2.1, ak (6 + t) (by omega)]
  · rw [o122, o12, ag.2.1]
  · unfold gtK
    rw [ak (6 + t) (by omega)]
def Sf0 (a k : Nat) : Prop := (a = 0 ∧ k = 12) ∨ a = 45
def Sfr2 (n0 a k : Nat) : Prop := Srx n0 a k ∨ (a = 47 ∧ k ≤ 1) ∨ a = 48
def kyR (k : Nat) : Prop := k < 18 ∨ k = 55 ∨ (57 ≤ k ∧ k < 65) ∨ (66 ≤ k ∧ k < 2466) ∨ (2866 ≤ k ∧ k < 5266)
theorem Srx_x {n0 : Nat} : ∀ a k, Srx n0 a k → 47 ≤ a ∧ a < 78 ∧ a ≠ 48 ∧ ¬ (a = 49 ∧ kyR k) ∧ a ≠ 50 ∧ a ≠ 51 ∧ ¬ (55 ≤ a ∧ a ≤ 57) ∧ ¬ (63 ≤ a ∧ a ≤ 67) ∧ a ≠ 77 ∧ ¬ (a = 47 ∧ (k ≤ 1 ∨ k = 12 ∨ k = 34 ∨ k = 57)) := fun a k w => by
  unfold kyR
  rcases w with w | w | w | w
  · unfold Srr Ssp at w
    omega
  · unfold Sly at w
    omega
  · unfold Sob Srv Sgg at w
    omega
  · omega
theorem Sfr2_x {n0 : Nat} : ∀ a k, Sfr2 n0 a k → 47 ≤ a ∧ a < 78 ∧ ¬ (a = 49 ∧ kyR k) ∧ a ≠ 50 ∧ a ≠ 51 ∧ ¬ (55 ≤ a ∧ a ≤ 57) ∧ ¬ (63 ≤ a ∧ a ≤ 67) ∧ a ≠ 77 ∧ ¬ (a = 47 ∧ (k = 12 ∨ k = 34 ∨ k = 57)) := fun a k w => by
  rcases w with w | w | w
  · obtain ⟨h1, h2, h3, h4, h5, h6, h7, h8, h9, h10⟩ := Srx_x a k w
    exact ⟨h1, h2, h4, h5, h6, h7, h8, h9, fun q => h10 ⟨q.1, by omega⟩⟩
  · exact ⟨by omega, by omega, fun q => by have := q.1; omega, by omega, by omega, by omega, by omega, by omega, by omega⟩
  · exact ⟨by omega, by omega, fun q => by have := q.1; omega, by omega, by omega, by omega, by omega, by omega, by omega⟩
/-- all that orders() writes -/
def Sor (n0 a k : Nat) : Prop := Scx n0 a k ∨ Sf0 a k ∨ Sfr2 n0 a k
theorem Sor_x {n0 : Nat} : ∀ a k, Sor n0 a k → a < 78 ∧ ¬ (9 ≤ a ∧ a ≤ 10) ∧ a ≠ 12 ∧ ¬ (32 ≤ a ∧ a ≤ 44) ∧ a ≠ 46 ∧ a ≠ 50 ∧ a ≠ 51 ∧ a ≠ 55 ∧ a ≠ 56 ∧ a ≠ 63 ∧ a ≠ 64 ∧ a ≠ 77 ∧ ¬ (a = 0 ∧ (k = 11 ∨ k = 13)) ∧ ¬ (a = 47 ∧ (k = 12 ∨ k = 34 ∨ k = 57)) ∧ ¬ (a = 1 ∧ (k = 9 ∨ k = 10 ∨ k = 12 ∨ k = 13)) := fun a k w => by
  rcases w with (w | w) | w | w
  · have := Sci_x a k w
    omega
  · have := Sco_x a k w
    omega
  · unfold Sf0 at w
    omega
  · have := Sfr2_x a k w
    omega
theorem INV0.ords {c n0 : Nat} {M M2 : Mem} (h : INV0 c M) (hF : Fw (Sor n0) Rop M M2) (hn : mn M2 = mn M) (hz : mz M2 = mz M) (hru : RUL M2) (hR2 : REL M2) (hq : QST M M2) (hS : SCI (300 * (c + 1)) M2) (h4 : mI M2 11 4 = 0) (h17 : mI M2 47 17 = 0) (h14 : mI M2 0 14 = mI M2 47 18) (h15 : mI M2 0 15 = mI M2 47 46) : INV0 (c + 1) M2 ∧ QF M M2 := by
  obtain ⟨i1, i2, i3, i4, i5, ⟨p1, p2, p3, k, p4, p5, p6, p7⟩, i7, i8⟩ := id h
  have h78 := i2.1
  have ex : ∀ a k, a = 46 ∨ a = 77 ∨ (a = 0 ∧ (k = 11 ∨ k = 13)) ∨ (a = 47 ∧ (k = 12 ∨ k = 57)) → mI M2 a k = mI M a k := fun a k w => hF.i (by omega) (fun q => by have := Sor_x a k q; omega)
  refine ⟨h.stepS hR2 hq hF (by omega) (fun a k w => ⟨by have := Sor_x a k w; omega, by have := Sor_x a k w; omega, by have := Sor_x a k w; omega, fun q => by have := q.1; have := Sor_x a k w; omega⟩) (fun a k w => ⟨by unfold Rop at w; omega, fun q => by have := q.1; unfold Rop at w; omega⟩) (tape0 h4 h17) ⟨by rw [ex 0 13 (by omega), ex 47 12 (by omega)]; exact p1, h14, h15, k, p4, by rw [ex 0 11 (by omega)]; exact p5, by rw [ex 47 57 (by omega)]; exact p6, fun i hi => by rw [ex 46 i (by omega), ex 77 i (by omega)]; exact p7 i hi⟩ hru.2.2.2.2.2.2.2.2.2 hS, hF.up (fun a k w => Or.inl (by have := Sor_x a k w; omega)) (fun a k w => Or.inr (Or.inr (Or.inl w))), by omega, by omega, hq⟩
theorem ord_end {c : Nat} {M M1 Mc M2 : Mem} (h : INV0 c M) {A A' : HSE} {y y' : Nat} (hks : KST (mI M 49) A y) (g1 : Fw (Scx A.length) Rop M M1) (g2 : mn M1 = mn M) (g3 : mz M1 = mz M) (g4 : mI M1 11 4 = 0) (g5 : mI M1 0 14 = -1) (g6 : RUL M1) (g7 : mI M1 49 = mI M 49) (g8 : SCI (300 * c + 240) M1) (fc : Fr Sf0 M1 Mc) (cs : CST M1 A' y') (fr : Fr (Sfr2 A.length) Mc M2) (ks2 : KST (mI M2 49) A' y') (e17 : mI M2 47 17 = 0) (e18 : mI M2 47 18 = -1) (e46 : mI M2 47 46 = mI M1 0 15) (hO : OUTS M2) (hst : ∃ d, d ≤ 300 ∧ mI M1 1 14 = mI M 1 14 + nI d ∧ (d = 0 → A' = A ∧ y' = y)) (hve : mI M2 47 1 = mI M 47 1 + 1 ∨ (mI M2 47 1 = mI M 47 1 ∧ y' = y)) : INV0 (c + 1) M2 ∧ QF M M2 := by
  have h78 := h.2.1.1
  have hmood : ∃ m, m ≤ 9 ∧ mI M 49 55 = nI m := h.1.2.2.1.2.1.2
  obtain ⟨ruc, kc⟩ := g6.fr fc (fun a k w => by unfold Sf0 at w; unfold Frr; omega)
  have k49 : ∀ k, kyR k → mI M2 49 k = mI M 49 k := fun k w => by rw [fr.i (fun q => (Sfr2_x 49 k q).2.2.1 ⟨rfl, w⟩), kc, g7]
  have ru2 : RUL M2 := ruc.k (fr.fw (R := fun _ _ => False)) (fun a k w => ⟨fun q => by have := Sfr2_x a k w; omega, fun q => by have := Sfr2_x a k w; omega, fun q => by have := q.1; have := Sfr2_x a k w; omega⟩) (fun _ _ w => w.elim) (fun k w => by rw [k49 k w, kc, g7])
  have lo : ∀ a k, a < 47 → ¬ Sf0 a k → mI M2 a k = mI M1 a k := fun a k w1 w2 => by rw [fr.i (fun q => by have := Sfr2_x a k q; omega), fc.i w2]
  have hag : AGK (mI M 49) (mI M2 49) := AGK.rf.hs2 (fun k w => k49 k w)
  have hagc : AGK (mI Mc 49) (mI M2 49) := by rw [kc, g7]; exact hag
  have sc : SCI (300 * c + 240) Mc := g8.fr2 (by omega) fc (fun a k w => by unfold Sf0 at w; omega)
  have s2 : SCI (300 * (c + 1)) M2 := (sc.ag ruc ru2 (fr.fw (R := fun _ _ => False)) (fr.i (fun q => by have := Sfr2_x 1 13 q; omega)) hagc (fun a k w => ⟨by have := Sfr2_x a k w; omega, by have := Sfr2_x a k w; omega, fun q => by have := q.1; have := Sfr2_x a k w; omega⟩) (fun _ _ w => w.elim)).mono (by omega)
  have cs2 : CST M2 A' y' := by
    have n1 : 78 ≤ mn M1 := by omega
    have csc : CST Mc A' y' := cs.fw n1 (fc.fw (R := fun _ _ => False)) (fun a k w => by unfold Sf0 at w; omega)
    exact csc.fw (by rw [fc.1]; exact n1) (fr.fw (R := fun _ _ => False)) (fun a k w => by have := Sfr2_x a k w; omega)
  have hR2 : REL M2 := REL.mk ru2 cs2 ks2 (by rw [k49 55 (by unfold kyR; omega)]; exact hmood) hO
  have hF : Fw (Sor A.length) Rop M M2 := ((g1.up (fun a k w => Or.inl w) (fun _ _ w => w)).tr ((fc.fw).up (fun a k w => Or.inr (Or.inl w)) (fun _ _ w => w))).tr ((fr.fw).up (fun a k w => Or.inr (Or.inr w)) (fun _ _ w => w))
  have v13 : mI M2 1 13 = mI M 1 13 := hF.i (by omega) (fun q => by have := Sor_x 1 13 q; omega)
  obtain ⟨d, d1, d2, d3⟩ := hst
  have v14 : mI M2 1 14 = mI M 1 14 + nI d := by rw [lo 1 14 (by omega) (by unfold Sf0; omega)]; exact d2
  have hq : QST M M2 := by
    rcases hve with v | ⟨v, ey⟩
    · exact ⟨0, d, 1, by omega, d1, by omega, by rw [v13]; exact (Int32.add_zero _).symm, v14, v, fun _ => hag, fun w => ⟨hag, by
        obtain ⟨z1, z2⟩ := d3 w
        subst z1 z2
        exact hks.yhk ks2⟩, fun w => by omega⟩
    · exact ⟨0, d, 0, by omega, d1, by omega, by rw [v13]; exact (Int32.add_zero _).symm, v14, by rw [v]; exact (Int32.add_zero _).symm, fun _ => hag, fun w => ⟨hag, by
        obtain ⟨z1, z2⟩ := d3 w
        subst z1 z2
        exact hks.yhk ks2⟩, fun _ => ⟨hag, by rw [ks2.2.2.1, hks.2.2.1, ey]⟩⟩
  refine h.ords hF (by rw [fr.1, fc.1, g2]) (by rw [fr.2.1, fc.2.1, g3]) ru2 hR2 hq s2 (by rw [lo 11 4 (by omega) (by unfold Sf0; omega)]; exact g4) e17 (by rw [lo 0 14 (by omega) (by unfold Sf0; omega), g5, e18]) (by rw [lo 0 15 (by omega) (by unfold Sf0; omega), e46])
theorem both_orders {c : Nat} (hc : c < 600) {M : Mem} (h : INV0 c M) : CALL c M (fun M => f_X11_orders M 0) (fun M => f_X12_orders M 47) := by
  obtain ⟨m1, s1⟩ := h.mid
  have hru := m1.rul
  have h78 := m1.2.1
  obtain ⟨A, y, hcs, hks⟩ := h.1.st
  obtain ⟨n, bt, ht⟩ := h.2.2.1
  have hRW := h.2.2.2.1
  have hO := h.1.2.2.2.2
  have hle := tkL_le (bt := bt) (n := n)
  have h400 := ht.1
  have hos : ∃ os : List OSM, ∀ x, pRd true (tkT bt n) 12 0 0 0 = .inr x → ROX (tkT bt n) (tkL bt n) 0 os ∧ HCL x.1 x.2 os ∧ ∀ v, v ∈ x.2 → v < 2147483648 := by
    cases hr : pRd true (tkT bt n) 12 0 0 0 with
    | inl j => exact ⟨[], fun x w => by cases w⟩
    | inr x =>
      obtain ⟨os, o1, o2, o3⟩ := ord_read (T := tkT bt n) (len := tkL bt n) (fun j h => tkT_end h) (by omega) hr
      exact ⟨os, fun x' w => by cases w; exact ⟨o1, o2, o3⟩⟩
  obtain ⟨os, hos⟩ := hos
  obtain ⟨⟨Mc, x⟩, e1, hq1⟩ := c_ordersT hc hru s1 hcs ht (os := os) (fun x w => (hos x w).2)
  have rR : RUL Mc → mI Mc 49 = mI M 49 → (∀ a k, a = 12 ∨ a = 55 ∨ a = 56 ∨ (a = 47 ∧ k = 17) → mI Mc a k = mI M a k) → TT (f_X12_orders Mc 47) (RXQ bt n A y os Mc (tlR (pRd true (tkT bt n) 12 0 0 0))) := fun ruc kc w => by
    refine r_ordersT ruc (fun i hi => by rw [w 55 i (by omega)]; exact hRW i hi) ⟨h400, trivial, by rw [w 47 17 (by omega)]; exact ht.2.2.1, fun i hi => by rw [w 12 i (by omega), w 56 i (by omega)]; exact ht.2.2.2 i hi⟩ (by rw [kc]; exact hks) (fun w => ?_)
    cases hr : pRd true (tkT bt n) 12 0 0 0 with
    | inl j => rw [hr] at w; cases w
    | inr x => exact (hos x hr).1
  cases hr : pRd true (tkT bt n) 12 0 0 0 with
  | inl j =>
    rw [hr] at hq1 rR
    obtain ⟨Ma, a1, a2, a3, a4, a5⟩ := hq1
    cases a5
    have hFa : Fr Sno M (RFC Ma 6) := fr_rfc (a1.up (fun a k w => by unfold Sci Srd at w; unfold Sno; omega)) (by unfold Sno; omega) (fun k => by unfold Sno; omega)
    obtain ⟨ruc, kc⟩ := hru.fr hFa (fun a k w => by unfold Sno at w; unfold Frr; omega)
    have wM : ∀ a k, a = 12 ∨ a = 55 ∨ a = 56 ∨ (a = 47 ∧ k = 17) → mI (RFC Ma 6) a k = mI M a k := fun a k w => by
      rw [rfc_v.1 a k (by omega) (by omega), a1.i (fun q => by have := Sci_x a k q; omega)]
    obtain ⟨⟨M2, x2⟩, e2, hq2⟩ := rR ruc kc wM
    obtain ⟨Mb, b1', b2, b3, b4, b5⟩ := hq2
    cases b5
    have eb : ∀ a k, a ≠ 47 → a < 58 → mI Mb a k = mI (RFC Ma 6) a k := fun a k w1 w2 => b1'.i (by unfold Srr Ssp; omega)
    have ea : ∀ a k, 18 ≤ a → mI Ma a k = mI M a k := fun a k w => a1.i (fun q => by have := Sci_x a k q; omega)
    have hF2 : Fr Sno M (RFM Mb 6) := fr_rfm (hFa.tr (b1'.up (fun a k w => by unfold Srr Ssp at w; unfold Sno; omega))) (by unfold Sno; omega) (fun k => by unfold Sno; omega)
    refine ⟨_, _, _, e1, e2, INV0.refused hc h hF2 (hO.rf (Y := Ma) (by unfold RN; omega) (fun k => ea 45 k (by omega)) (fun k => eb 45 k (by decide) (by decide)) (eb 0 12 (by decide) (by decide)) (fun k => ?_)) (tape0 ?_ ?_) ?_ ?_⟩
    · rw [eb 48 k (by decide) (by decide), rfc_v.1 48 k (by decide) (by decide), ea 48 k (by omega)]
    · rw [rfm_v.1 11 4 (by decide) (by decide), eb 11 4 (by decide) (by decide), rfc_v.1 11 4 (by decide) (by decide)]
      exact a2
    · rw [rfm_v.2.1 17 (by decide)]
      exact b2
    · rw [rfm_v.1 0 14 (by decide) (by decide), eb 0 14 (by decide) (by decide), rfc_v.2.1 14 (by decide), a3, rfm_v.2.1 18 (by decide), b3]
    · rw [rfm_v.1 0 15 (by decide) (by decide), eb 0 15 (by decide) (by decide), rfc_v.2.1 15 (by decide), a4, rfm_v.2.1 46 (by decide), b4]
  | inr x0 =>
    rw [hr] at hq1 rR
    obtain ⟨M1, g1, g2, g3, g4, g5, g6, g7, g8, hq1⟩ := hq1
    have e1M : ∀ a k, a < 78 → ¬ Scx A.length a k → mI M1 a k = mI M a k := fun a k w1 w2 => g1.i (by omega) w2
    have nx : ∀ a k, a = 12 ∨ a = 45 ∨ a = 48 ∨ a = 55 ∨ a = 56 ∨ (a = 47 ∧ (k = 17 ∨ k = 1)) → mI M1 a k = mI M a k := fun a k w => e1M a k (by omega) (fun q => by
      rcases q with q | q
      · have := Sci_x a k q; omega
      · have := Sco_x a k q; omega)
    cases ho : orL (mI M 49) os 0 (A, y, 0, -1) with
    | inr s =>
      rw [ho] at hq1
      obtain ⟨q1, q2, ⟨d, d1, d2, d3⟩, q3⟩ := hq1
      cases q3
      have fc : Fr Sf0 M1 (wI M1 0 12 0) := Fr.rf.wI (show Sf0 0 12 from Or.inl ⟨rfl, rfl⟩)
      have e12 : mI (wI M1 0 12 0) 0 12 = 0 := mI_wIs
      have e45 : ∀ k, mI (wI M1 0 12 0) 45 k = mI M1 45 k := fun k => by rw [mI_wI_row (by decide)]
      generalize wI M1 0 12 0 = Mc at *
      obtain ⟨ruc, kc⟩ := g6.fr fc (fun a k w => by unfold Sf0 at w; unfold Frr; omega)
      have wc : ∀ a k, 1 ≤ a → a ≠ 45 → mI Mc a k = mI M1 a k := fun a k w1 w2 => fc.i (by unfold Sf0; omega)
      obtain ⟨⟨M2, x2⟩, e2, hq2⟩ := rR ruc (kc.trans g7) (fun a k w => by rw [wc a k (by omega) (by omega), nx a k (by omega)])
      obtain ⟨Mr, b1', b2, b3, hq2⟩ := hq2
      rw [kc, g7, ho] at hq2
      obtain ⟨b4, b5, b6⟩ := hq2
      cases b6
      refine ⟨_, _, _, e1, e2, ?_⟩
      have fr : Fr (Sfr2 A.length) Mc (wI (wI Mr 47 0 0) 47 1 (mI Mr 47 1 + 1)) := ((b1'.up (S' := Sfr2 A.length) (fun a k w => Or.inl w)).wI (show Sfr2 A.length 47 0 from Or.inr (Or.inl ⟨rfl, by omega⟩))).wI (show Sfr2 A.length 47 1 from Or.inr (Or.inl ⟨rfl, by omega⟩))
      have r0 : mI (wI (wI Mr 47 0 0) 47 1 (mI Mr 47 1 + 1)) 47 0 = 0 := by rw [mI_wI_ne (by decide), mI_wIs]
      have r1 : mI (wI (wI Mr 47 0 0) 47 1 (mI Mr 47 1 + 1)) 47 1 = mI M 47 1 + 1 := by rw [mI_wIs, b1'.i (fun q => by have := Srx_x 47 1 q; omega), wc 47 1 (by omega) (by omega), nx 47 1 (by omega)]
      have rk : ∀ k, 1 < k → mI (wI (wI Mr 47 0 0) 47 1 (mI Mr 47 1 + 1)) 47 k = mI Mr 47 k := fun k w => by rw [mI_wI_ne (by omega), mI_wI_ne (by omega)]
      have ro : ∀ a, a ≠ 47 → mI (wI (wI Mr 47 0 0) 47 1 (mI Mr 47 1 + 1)) a = mI Mr a := fun a w => by rw [mI_wI_row w, mI_wI_row w]
      generalize wI (wI Mr 47 0 0) 47 1 (mI Mr 47 1 + 1) = M2 at *
      have hO2 : OUTS M2 := ⟨by rw [r0, ro 0 (by decide), b1'.i (fun q => by have := Srx_x 0 12 q; omega), e12], fun m hm => by rw [ro 45 (by decide), ro 48 (by decide), b1'.i (fun q => by have := Srx_x 45 _ q; omega), b1'.i (fun q => by have := Srx_x 48 _ q; omega), e45, nx 45 _ (by omega), wc 48 _ (by omega) (by omega), nx 48 _ (by omega)]; exact hO.2 m hm⟩
      exact ord_end h hks g1 g2 g3 g4 g5 g6 g7 g8 fc q2 fr (by rw [ro 49 (by decide)]; exact b5) (by rw [rk 17 (by decide)]; exact b2) (by rw [rk 18 (by decide)]; exact b3) (by rw [rk 46 (by decide), b4, q1]) hO2 ⟨d, by omega, d2, d3⟩ (Or.inl r1)
    | inl e =>
      rw [ho] at hq1
      obtain ⟨q1, q2, he, ⟨d, d1, d2⟩, q3⟩ := hq1
      cases q3
      have fc : Fr Sf0 M1 (RFC M1 e.2) := fr_rfc Fr.rf (Or.inl ⟨rfl, rfl⟩) (fun k => Or.inr rfl)
      obtain ⟨ruc, kc⟩ := g6.fr fc (fun a k w => by unfold Sf0 at w; unfold Frr; omega)
      have wc : ∀ a k, 1 ≤ a → a ≠ 45 → mI (RFC M1 e.2) a k = mI M1 a k := fun a k w1 w2 => fc.i (by unfold Sf0; omega)
      obtain ⟨⟨M2, x2⟩, e2, hq2⟩ := rR ruc (kc.trans g7) (fun a k w => by rw [wc a k (by omega) (by omega), nx a k (by omega)])
      obtain ⟨Mr, b1', b2, b3, hq2⟩ := hq2
      rw [kc, g7, ho] at hq2
      obtain ⟨b4, b5, -, b6⟩ := hq2
      cases b6
      refine ⟨_, _, _, e1, e2, ?_⟩
      have fr : Fr (Sfr2 A.length) (RFC M1 e.2) (RFM Mr e.2) := fr_rfm (b1'.up (fun a k w => Or.inl w)) (Or.inr (Or.inl ⟨rfl, by omega⟩)) (fun k => Or.inr (Or.inr rfl))
      have hO2 : OUTS (RFM Mr e.2) := hO.rf (Y := M1) (by unfold RN; omega) (fun k => nx 45 k (by omega)) (fun k => b1'.i (fun q => by have := Srx_x 45 k q; omega)) (b1'.i (fun q => by have := Srx_x 0 12 q; omega)) (fun k => by rw [b1'.i (fun q => by have := Srx_x 48 k q; omega), wc 48 k (by omega) (by omega), nx 48 k (by omega)])
      refine ord_end h hks g1 g2 g3 g4 g5 g6 g7 g8 fc q2 fr ?_ ?_ ?_ ?_ hO2 ⟨d + 2, by omega, d2, fun w => by omega⟩ (Or.inr ⟨?_, rfl⟩)
      · rw [show mI (RFM Mr e.2) 49 = mI Mr 49 from funext (fun k => rfm_v.1 49 k (by decide) (by decide))]
        exact b5
      · rw [rfm_v.2.1 17 (by decide)]
        exact b2
      · rw [rfm_v.2.1 18 (by decide)]
        exact b3
      · rw [rfm_v.2.1 46 (by decide), b4, q1]
      · rw [rfm_v.2.1 1 (by decide), b1'.i (fun q => by have := Srx_x 47 1 q; omega), wc 47 1 (by omega) (by omega), nx 47 1 (by omega)]
