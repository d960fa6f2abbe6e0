/-! calls that open the Scale -/
noncomputable def EDG (K : Nat → Int32) (y : Nat) (l : List Nat) : List (List Nat × Nat) := chs (gtK K) (sdK K) (lwK K y) l
/-- the state, whatever the status -/
def REL0 (M : Mem) : Prop := LayC M ∧ LayM M ∧ KOK (mI M 49) ∧ CV M (mI M 49) ∧ True
def MID (M : Mem) : Prop := REL0 M ∧ 78 ≤ mn M ∧ LWS M 9 (mI M 49)
/-- the cells that MID hangs on -/
def Frl (a _k : Nat) : Prop := (1 ≤ a ∧ a ≤ 8) ∨ a = 49
theorem MID.fw {S R : Nat → Nat → Prop} {M M1 : Mem} (h : MID M) (hF : Fw S R M M1) (hs : ∀ a k, S a k → ¬ Frl a k ∧ ¬ HT M a) (hr : ∀ a k, R a k → oldR a k = false ∧ a ≠ 9 ∧ (78 ≤ a → mK M a ≠ 9)) : MID M1 ∧ mI M1 49 = mI M 49 := by
  obtain ⟨⟨hC, hM, hK, ⟨vt, vo, vh⟩, hO⟩, h78, hL⟩ := h
  have e : ∀ a k, a < 78 → Frl a k → mI M1 a k = mI M a k := fun a k w1 w2 => hF.i (by omega) (fun q => (hs _ _ q).1 w2)
  have e49 : mI M1 49 = mI M 49 := funext (fun k => e 49 k (by decide) (by unfold Frl; omega))
  have hR : ∀ a k, oldR a k = true → ¬ R a k := fun a k w q => by rw [(hr _ _ q).1] at w; cases w
  refine ⟨⟨⟨hC.fw h78 hF hR, hM.fw h78 hF hR, by rw [e49]; exact hK, ?_, trivial⟩, by have := hF.1; omega, ?_⟩, e49⟩
  · rw [e49]
    refine ⟨fun t ht => ?_, ?_, fun n g h1 h2 h3 => ?_⟩
    · rw [e 2 t (by decide) (by unfold Frl; omega), e 3 t (by decide) (by unfold Frl; omega), e 4 t (by decide) (by unfold Frl; omega)]
      exact vt t ht
    · unfold CVo
      rw [e 1 8 (by decide) (by unfold Frl; omega), e 1 9 (by decide) (by unfold Frl; omega), e 1 10 (by decide) (by unfold Frl; omega), e 1 11 (by decide) (by unfold Frl; omega), e 1 12 (by decide) (by unfold Frl; omega)]
      exact vo
    · rw [e 5 g (by decide) (by unfold Frl; omega), e 6 g (by decide) (by unfold Frl; omega), e 7 g (by decide) (by unfold Frl; omega), e 8 g (by decide) (by unfold Frl; omega)]
      exact vh n g h1 h2 h3
  · rw [e49]
    exact hL.fw (by omega) hF (fun a k q => (hs a k q).2) (fun a k q => (hr a k q).2) (fun _ _ _ _ _ _ => rfl)
theorem MID.gs {M : Mem} (h : MID M) : KGS M (gtK (mI M 49)) (sdK (mI M 49)) ∧ STd M (sdK (mI M 49)) ∧ TSp (mI M 49) (lwK (mI M 49)) := by
  obtain ⟨⟨hC, hM, ⟨kt, km, kl, kh⟩, ⟨vt, vo, vh⟩, hO⟩, h78, hL⟩ := h
  obtain ⟨o, ho⟩ := hL.has kl
  refine ⟨fun t ht => ⟨(gtK_v kt ht).1, (sdK_v kt ht).1, fun u q => ((sdK_v kt ht).2 u q).1⟩, fun t ht => ⟨?_, fun u q => ((sdK_v kt ht).2 u q).1⟩, TSp_K ho⟩
  rw [(vt t ht).2.2]
  exact (sdK_v kt ht).1
theorem rop_old : ∀ a k, Rop a k → oldR a k = false ∧ a ≠ 9 ∧ (78 ≤ a → True) := fun a k h => by
  obtain ⟨rfl, rfl⟩ := h
  exact ⟨by decide, by decide, fun _ => trivial⟩
theorem m_open {B y : Nat} {M : Mem} (h : MID M) (hS : SCI B M) (hB : B < 16777000) (hy : y ≤ 999) : TT (f_X8_open M 21 (nI y)) (fun M1 => MID M1 ∧ OPN (B + 1) y M1 ∧ mI M1 49 = mI M 49 ∧ Fw Sop Rop M M1 ∧ mn M1 = mn M ∧ mz M1 = mz M) := by
  refine (c_sopen h.1.1 h.1.2.1 h.2.1 h.1.2.2.1 h.1.2.2.2.1 h.2.2 hS hB hy).mono ?_
  rintro M1 ⟨a1, a2, a3, a4⟩
  obtain ⟨b1', b2⟩ := h.fw a2 (fun a k w => ⟨by unfold Sop at w; unfold Frl; omega, fun q => by have := q.1; unfold Sop at w; omega⟩) (fun a k w => ⟨(rop_old a k w).1, (rop_old a k w).2.1, fun q => by unfold Rop at w; omega⟩)
  exact ⟨b1', a1, b2, a2, a3, a4⟩
theorem MID.fr {S : Nat → Nat → Prop} {M M1 : Mem} (h : MID M) (hF : Fr S M M1) (hs : ∀ a k, S a k → a < 78 ∧ ¬ Frl a k) : MID M1 ∧ mI M1 49 = mI M 49 := h.fw (hF.fw (R := fun _ _ => False)) (fun a k w => ⟨(hs a k w).2, fun q => by have := q.1; have := (hs a k w).1; omega⟩) (fun _ _ w => w.elim)
theorem m_listAll {B y : Nat} {M : Mem} (h : MID M) (hO : OPN B y M) (hB : B < 16777216) {l : List Nat} (hl : DL l) : TT (f_X1_listAll M 26 (nI (rank l))) (fun M1 => MID M1 ∧ OPN B y M1 ∧ mI M1 49 = mI M 49 ∧ Fr Sla M M1 ∧ MADE M1 (EDG (mI M 49) y l)) := by
  obtain ⟨g1, g2, g3⟩ := h.gs
  obtain ⟨SC, c1, c2, c3⟩ := hO.run h.1.2.1 hB
  refine (p_listAll c2 h.1.1 c1 hl g2).mono ?_
  rintro M1 ⟨a1, a2, a3, a4⟩
  obtain ⟨b1', b2⟩ := h.fr a1 (fun a k w => by unfold Sla Ssc at w; unfold Frl; omega)
  exact ⟨b1', c3 Sla M1 a1 (fun a k w => by unfold Sla Ssc at w; omega) a2, b2, a1, a4⟩
def mkR (o : Option (List Nat × Nat)) (q : Mem × Int32) : Prop := match o with
  | none => q.2 = -1
  | some c => q.2 = nI (rank c.1) ∧ mI q.1 26 7 = nI c.2
theorem m_makes {B y : Nat} {M : Mem} (h : MID M) (hO : OPN B y M) (hB : B < 16777216) {l : List Nat} (hl : DL l) (hP : PLT M l) {s p t : Nat} (hs : s < 5) (hp : p < 6) (ht : t < 6) : TT (f_X1_makes M 26 (nI s) (nI p) (nI t)) (fun q => MID q.1 ∧ OPN B y q.1 ∧ mI q.1 49 = mI M 49 ∧ Fr Scm M q.1 ∧ mkR (cmk (gtK (mI M 49)) (sdK (mI M 49)) (lwK (mI M 49) y) l s p t) q) := by
  obtain ⟨g1, g2, g3⟩ := h.gs
  obtain ⟨SC, c1, c2, c3⟩ := hO.run h.1.2.1 hB
  refine (p_cmakes c2 h.1.1 c1 hl hP g2 hs hp ht).mono ?_
  rintro q ⟨a1, a2, a3, a4⟩
  obtain ⟨b1', b2⟩ := h.fr a1 (fun a k w => by unfold Scm Ssc at w; unfold Frl; omega)
  exact ⟨b1', c3 Scm q.1 a1 (fun a k w => by unfold Scm Ssc at w; omega) a2, b2, a1, a4⟩
theorem mk_free {M : Mem} {s : Nat} (hs : s < 5) (h1 : s ≠ 1) (p2 p3 q3 : Int32) : f_X1_makes M 26 (nI s) p2 p3 = f_X1_makes M 26 (nI s) p2 q3 := by
  have c : s = 0 ∨ s = 2 ∨ s = 3 ∨ s = 4 := by omega
  unfold f_X1_makes
  simp only [bv]
  rcases c with rfl | rfl | rfl | rfl
  · have e : ¬ nI 0 = 1 := by decide
    simp only [if_neg e]
    rw [sw_at (i := 0) rfl (by decide) (by simp), sw_at (i := 0) rfl (by decide) (by simp)]
  · have e : ¬ nI 2 = 1 := by decide
    simp only [if_neg e]
    rw [sw_at (i := 2) rfl (by decide) (by simp), sw_at (i := 2) rfl (by decide) (by simp)]
  · have e : ¬ nI 3 = 1 := by decide
    simp only [if_neg e]
    rw [sw_at (i := 3) rfl (by decide) (by simp), sw_at (i := 3) rfl (by decide) (by simp)]
  · have e : ¬ nI 4 = 1 := by decide
    simp only [if_neg e]
    rw [sw_no (by simp) (by right; show ((4 : Nat) : Int) ≤ (nI 4).toInt; decide), sw_no (by simp) (by right; show ((4 : Nat) : Int) ≤ (nI 4).toInt; decide)]
/-- a call that looks only -/
def Slk (a k : Nat) : Prop := (a = 21 ∧ 4 ≤ k) ∨ (23 ≤ a ∧ a ≤ 31) ∨ a = 52 ∨ a = 53 ∨ a = 54 ∨ a = 61 ∨ a = 68 ∨ (a = 47 ∧ (k = 7 ∨ k = 8 ∨ k = 11 ∨ (26 ≤ k ∧ k ≤ 29)))
theorem Sls_lk : ∀ a k, Sls a k → Slk a k := fun a k h => by
  rw [Sls_iff] at h
  unfold Slk
  omega
theorem Sla_lk : ∀ a k, Sla a k → Slk a k := fun a k h => by
  unfold Sla Ssc at h
  unfold Slk
  omega
theorem Sop_lk : ∀ a k, Sop a k → Slk a k := fun a k h => by
  unfold Sop at h
  unfold Slk
  omega
theorem INV0.mid {c : Nat} {M : Mem} (h : INV0 c M) : MID M ∧ SCI (300 * c) M := ⟨⟨⟨h.1.1, h.1.2.1, h.1.2.2.1, h.1.2.2.2.1, trivial⟩, h.2.1.1, h.2.2.2.2.2.2.1⟩, h.2.2.2.2.2.2.2⟩
theorem INV0.look {c : Nat} {M M2 : Mem} (h : INV0 c M) (hF : Fw Slk Rop M M2) (hn : mn M2 = mn M) (hz : mz M2 = mz M) (hS : SCI (300 * (c + 1)) M2) : INV0 (c + 1) M2 ∧ QF M M2 := by
  obtain ⟨hmid, e49⟩ := h.mid.1.fw hF (fun a k w => ⟨by unfold Slk at w; unfold Frl; omega, fun q => by have := q.1; unfold Slk at w; omega⟩) (fun a k w => ⟨(rop_old a k w).1, (rop_old a k w).2.1, fun q => by unfold Rop at w; omega⟩)
  obtain ⟨i1, i2, ⟨n, bt, t1, t2, t3, t4⟩, i4, i5, ⟨p1, p2, p3, k, p4, p5, p6, p7⟩, i7, i8⟩ := h
  have h78 := i2.1
  have e : ∀ a k, a < 78 → ¬ Slk a k → mI M2 a k = mI M a k := fun a k w1 w2 => hF.i (by omega) w2
  have hq : QST M M2 := ⟨0, 0, 0, by omega, by omega, by omega, by rw [e 1 13 (by decide) (by unfold Slk; omega)]; exact (Int32.add_zero _).symm, by rw [e 1 14 (by decide) (by unfold Slk; omega)]; exact (Int32.add_zero _).symm, by rw [e 47 1 (by decide) (by unfold Slk; omega)]; exact (Int32.add_zero _).symm, by rw [e49]; exact fun _ => AGK.rf, by rw [e49]; exact fun _ => ⟨AGK.rf, YHK.rf⟩, by rw [e49]; exact fun _ => ⟨AGK.rf, rfl⟩⟩
  have hO2 : OUTS M2 := ⟨by rw [e 0 12 (by decide) (by unfold Slk; omega), e 47 0 (by decide) (by unfold Slk; omega)]; exact i1.2.2.2.2.1, fun m hm => by rw [e 45 _ (by decide) (by unfold Slk; omega), e 48 _ (by decide) (by unfold Slk; omega)]; exact i1.2.2.2.2.2 m hm⟩
  refine ⟨⟨⟨hmid.1.1, hmid.1.2.1, hmid.1.2.2.1, hmid.1.2.2.2.1, hO2⟩, i2.q hq (by omega) (by omega), ⟨n, bt, t1, by rw [e 11 4 (by decide) (by unfold Slk; omega)]; exact t2, by rw [e 47 17 (by decide) (by unfold Slk; omega)]; exact t3, fun i hi => ?_⟩, fun i hi => ?_, i5.fw h78 hF (fun a k w => ⟨by unfold Slk at w; omega, by unfold Slk at w; omega, fun q => by have := q.1; unfold Slk at w; omega⟩) (fun a k w => ⟨by unfold Rop at w; omega, fun q => by have := q.1; unfold Rop at w; omega⟩), ⟨by rw [e 0 13 (by decide) (by unfold Slk; omega), e 47 12 (by decide) (by unfold Slk; omega)]; exact p1, by rw [e 0 14 (by decide) (by unfold Slk; omega), e 47 18 (by decide) (by unfold Slk; omega)]; exact p2, by rw [e 0 15 (by decide) (by unfold Slk; omega), e 47 46 (by decide) (by unfold Slk; omega)]; exact p3, k, p4, by rw [e 0 11 (by decide) (by unfold Slk; omega)]; exact p5, by rw [e 47 57 (by decide) (by unfold Slk; omega)]; exact p6, fun i hi => ?_⟩, hmid.2.2, hS⟩, hF.up (fun a k w => Or.inl (by unfold Slk at w; omega)) (fun a k w => Or.inr (Or.inr (Or.inl w))), by omega, by omega, hq⟩
  · rw [e 12 i (by decide) (by unfold Slk; omega), e 56 i (by decide) (by unfold Slk; omega)]
    exact t4 i hi
  · rw [e 55 i (by decide) (by unfold Slk; omega)]
    exact i4 i hi
  · rw [e 46 i (by decide) (by unfold Slk; omega), e 77 i (by decide) (by unfold Slk; omega)]
    exact p7 i hi
theorem r_listsK {M : Mem} (h : MID M) {l : List Nat} (hl : DL l) {y : Nat} {p3 : Int32} (hy : y ≤ 999) : TT (f_X12_lists M 47 (nI (num l)) (nI y) p3) (fun M1 => MID M1 ∧ mI M1 49 = mI M 49 ∧ Fr Sls M M1 ∧ LSTS p3 M1 (EDG (mI M 49) y l)) := by
  obtain ⟨g1, g2, g3⟩ := h.gs
  refine (p_lists g3 h.1.2.1 (fun _ => rfl) hl g1 hy).mono ?_
  rintro M1 ⟨a1, a2⟩
  obtain ⟨b1', b2⟩ := h.fr a1 (fun a k w => by rw [Sls_iff] at w; unfold Frl; omega)
  exact ⟨b1', b2, a1, a2⟩
