/-! the way: the class -/
def LSTm (P : Nat → Prop) (q : Nat) : Prop := P q ∧ ∀ q', P q' → q ≤ q'
theorem LSTm.un {P : Nat → Prop} {a b : Nat} (h : LSTm P a) (h2 : LSTm P b) : a = b := Nat.le_antisymm (h.2 b h2.1) (h2.2 a h.1)
/-- the DISHES of the way, one after another -/
def wsq (K : Nat → Int32) (y g r0 e : Nat) : Nat → Nat → Prop
  | 0, r => r = r0
  | t + 1, r => ∃ p, wsq K y g r0 e t p ∧ LSTm (fun q => adjK K y p q ∧ isD (rdjK K y) g q (e - t - 1)) r
theorem wsq_un {K : Nat → Int32} {y g r0 e : Nat} : ∀ t a b, wsq K y g r0 e t a → wsq K y g r0 e t b → a = b
  | 0, a, b, h1, h2 => h1.trans h2.symm
  | t + 1, a, b, ⟨p, h1, h2⟩, ⟨q, g1, g2⟩ => by
    have := wsq_un t p q h1 g1
    subst this
    exact h2.un g2
theorem TIN.sla {B y g i d : Nat} {M M1 : Mem} {Q : List Nat} {D : Nat → Option Nat} (h : TIN B y g i d M Q D) (m1 : MID M1) (o1 : OPN B y M1) (k1 : mI M1 49 = mI M 49) (hF : Fr Sla M M1) : TIN B y g i d M1 Q D := by
  obtain ⟨t1, t2, t3, ⟨kk, b1', b2, b3, b4, b5, b6, b7, b8⟩, t5, t6⟩ := h
  have er : mR M1 = mR M := hF.2.2.2.2.1
  have h78 := b4.1
  have e : ∀ a k, a = 1 ∨ 32 ≤ a → mI M1 a k = mI M a k := fun a k w => hF.i (by unfold Sla Ssc; omega)
  refine ⟨t1, by rw [er]; exact t2, t3.fr b1'.2.1 hF (fun a k w => by unfold Sla Ssc at w; omega), ⟨kk, m1, o1, rfl, b4.fr hF, by rw [e d 4 (by omega)]; exact b5, by rw [e d 10 (by omega), k1]; exact b6, b7.e (e d 5 (by omega)) (fun k => e (d + 1) k (by omega)) (fun k => e (d + 2) k (by omega)), by rw [k1]; exact b8⟩, (MTC.e (fun k _ => e d k (by omega)) (e 1 13 (by omega))).mpr t5, fun j d' hj e' => ?_⟩
  rw [er] at e'
  have := (t3.2.2 j d' (by omega) e').1.1
  rw [MTC.e (fun k _ => e d' k (by omega)) (e 1 13 (by omega))]
  exact t6 j d' hj e'
noncomputable def wy0 (a0 : Nat) (p3 : Int32) (d : Nat) : Mem × Int32 × Int32 × Int32 → Option ((Mem × Int32 × Int32 × Int32) ⊕ (Mem × Int32)) := (fun s26 => if p3 ≤ s26.2.2.2 then (some (.inr (s26.1, s26.2.1))) else (bv (s26.2.2.1 + (-1) : Int32) (fun x35 => Option.bind (mR s26.1 a0 5) (fun r36 => grd (okO s26.1 1 r36) (Option.bind (f_X1_listAll s26.1 r36 s26.2.1) (fun q38 => Option.bind (mR q38 a0 5) (fun r43 => grd (okO q38 1 r43) (Option.bind (f_X1_lowestMade q38 r43 (-1) d x35) (fun q45 => bv (s26.2.2.2 + 1 : Int32) (fun x48 => some (.inl (q38, q45, x35, x48))))))))))))
theorem way11 {M : Mem} {a0 : Nat} {p1 p2 p3 : Int32} : f_X11_way M a0 p1 p2 p3 = Option.bind (f_X6_rankOf p1) (fun q1 => Option.bind (f_X6_rankOf p2) (fun q4 => if q1 = (-1) then (some (M, (-1))) else (if q4 = (-1) then (some (M, (-1))) else (if 0 ≤ p3 then (grd (okO M 11 a0) (Option.bind (mR M a0 6) (fun r8 => Option.bind (mR M a0 0) (fun r9 => grd (okO M 10 r9) (grd (okO M 4 r8) (Option.bind (f_X4_stepsFrom M r8 q1 q4 (mI M r9 11)) (fun q12 => if q12.2 = (-1) then (some (q12.1, (-1))) else (if p3 ≤ q12.2 then (Option.bind (mR q12.1 a0 6) (fun r17 => Option.bind (mR q12.1 a0 0) (fun r18 => grd (okO q12.1 10 r18) (grd (okO q12.1 4 r17) (Option.bind (f_X4_tableTo q12.1 r17 q4 (mI q12.1 r18 11)) (fun q21 => Option.bind (loopO (wy0 a0 p3 q21.2) (q21.1, q1, q12.2, 0)) (fun (x33 : Mem × Int32) => Option.bind (f_X6_numberOf x33.2) (fun q49 => some (x33.1, q49))))))))) else (some (q12.1, (-1))))))))))) else (some (M, (-1))))))) := rfl
theorem adjK_r {K : Nat → Int32} {y q : Nat} {l : List Nat} (hl : DL l) : adjK K y (rank l) q ↔ ∃ c, c ∈ EDG K y l ∧ rank c.1 = q := by
  unfold adjK
  rw [dR_rank hl]
  exact ⟨fun w => w.2, fun w => ⟨rank_lt hl, w⟩⟩
theorem c_wy0 {B y g i d : Nat} {M : Mem} {Q : List Nat} {D : Nat → Option Nat} (t0 : TIN B y g i d M Q D) (hB : B < 16777216) {r0 e ii : Nat} (hr0 : r0 < 9331) (he : D r0 = some e) (hi : ii ≤ e) (he9 : e < 9331) : TT (loopO (wy0 0 (nI ii) d) (M, nI r0, nI e, 0)) (fun z => ∃ M1 r, z = (M1, nI r) ∧ r < 9331 ∧ wsq (mI M 49) y g r0 e ii r ∧ Fr Sla M M1 ∧ TIN B y g i d M1 Q D ∧ mI M1 49 = mI M 49) := by
  refine TT_for ii (fun t s => ∃ M' r, s = (M', nI r, nI (e - t), nI t) ∧ TIN B y g i d M' Q D ∧ mI M' 49 = mI M 49 ∧ Fr Sla M M' ∧ r < 9331 ∧ D r = some (e - t) ∧ wsq (mI M 49) y g r0 e t r) ?_ (Nat.zero_le _) ⟨M, r0, rfl, t0, rfl, Fr.rf, hr0, he, rfl⟩
  rintro t s ht ⟨M', r, rfl, tt, k1, f1, hr, hd, hw⟩
  unfold wy0
  simp only
  by_cases w : t = ii
  · rw [if_pos ((nleI (by omega) (by omega)).mpr (by omega)), TT_some]
    subst w
    exact ⟨M', r, rfl, hr, hw, f1, tt, k1⟩
  · have hlt : t < ii := by omega
    obtain ⟨kk, tb⟩ := tt.2.2.2.1
    obtain ⟨m1, o1, -, hT, -, -, tc, b⟩ := tb
    obtain ⟨a1, a2, a3, a4, a5, a6, a7⟩ := lay0 m1
    have el : nI (e - t) + (-1) = nI (e - t - 1) := by
      rw [ladd, show e - t = (e - t - 1) + 1 from by omega, nprd, Nat.add_sub_cancel]
    obtain ⟨l, hl, rfl⟩ : ∃ l, DL l ∧ r = rank l := ⟨dR r, (dR_v hr).1, (dR_v hr).2.symm⟩
    rw [if_neg (fun q => w (by have := (nleI (by omega) (by omega)).mp q; omega)), el, TT_bv, a3, Option.bind_some, grd_y a6, TT_bind]
    refine (m_listAll m1 o1 hB hl).mono ?_
    rintro M2 ⟨m2, o2, k2, f2, hL⟩
    have tt2 := tt.sla m2 o2 k2 f2
    obtain ⟨kk2, tb2⟩ := tt2.2.2.2.1
    have hT2 := tb2.2.2.2.1
    have tc2 := tb2.2.2.2.2.2.2.1
    have b2 := tb2.2.2.2.2.2.2.2
    obtain ⟨c1, c2, c3, c4, c5, c6, c7⟩ := lay0 m2
    rw [k1] at hL
    have hkt : KTH (mI M 49) := by rw [← k1]; exact m1.kth
    obtain ⟨o, eo, ob, lo⟩ := c_lowest m2 hL (EDG_len hl) (fun c hc => (EDG_DL hkt hl hc).1) hT2 (ab := none) (fun a q => by cases q) (p3 := nI (e - t - 1))
    rw [c3, Option.bind_some, grd_y c6, show (-1 : Int32) = oI none from rfl, eo, Option.bind_some, TT_bv, TT_some]
    rw [k2, k1] at b2
    rw [k1] at b
    have iff : ∀ q, q < 9331 → (mI M2 (d + 1) q = nI (e - t - 1) ↔ isD (rdjK (mI M 49) y) g q (e - t - 1)) := fun q hq => by
      rw [tc2.2.1 q hq, oI_n (fun v hv => by have := b2.dlt tc2.2.2.2 hv; omega) (by omega)]
      exact ⟨b2.2.2.2.1 q _, fun hi => b2.below hd (by omega) hi⟩
    have hex : ∃ q, adjK (mI M 49) y (rank l) q ∧ isD (rdjK (mI M 49) y) g q (e - t - 1) := by
      have hD := b2.2.2.2.1 _ _ hd
      rw [show e - t = (e - t - 1) + 1 from by omega] at hD
      obtain ⟨q, q1, q2⟩ := hD.1
      obtain ⟨e', q3, q4⟩ := isD_ex _ q1
      have : e' = e - t - 1 := by
        refine Classical.byContradiction (fun z => ?_)
        exact hD.2 (e' + 1) (by omega) ⟨q, q4.1, q2⟩
      subst this
      exact ⟨q, q2, q4⟩
    have inL : ∀ q, adjK (mI M 49) y (rank l) q → ∃ c, c ∈ EDG (mI M 49) y l ∧ rank c.1 = q := fun q hq => (adjK_r hl).mp hq
    have q9 : ∀ q, adjK (mI M 49) y (rank l) q → q < 9331 := fun q hq => by
      obtain ⟨c, hc, e1⟩ := inL q hq
      rw [← e1]
      exact rank_lt (EDG_DL hkt hl hc).1
    have lowP : ∀ q, adjK (mI M 49) y (rank l) q → isD (rdjK (mI M 49) y) g q (e - t - 1) → ∃ b, o = some b ∧ b ≤ q := fun q hq hi => by
      obtain ⟨c, hc, e1⟩ := inL q hq
      have := lo.1 c hc ⟨(fun a z => by cases z), by rw [e1]; exact (iff q (q9 q hq)).mpr hi⟩
      rw [e1] at this
      exact this
    obtain ⟨q, hq1, hq2⟩ := hex
    obtain ⟨bb, ob1, -⟩ := lowP q hq1 hq2
    obtain ⟨⟨c, hc, hcr⟩, -, hm⟩ := lo.2 bb ob1
    have hb9 := ob bb ob1
    have hadj : adjK (mI M 49) y (rank l) bb := (adjK_r hl).mpr ⟨c, hc, hcr⟩
    have hib := (iff bb hb9).mp hm
    refine ⟨hlt, M2, bb, by rw [ob1, nsucc, Nat.sub_sub]; rfl, tt2, by rw [k2, k1], f1.tr f2, hb9, ?_, rank l, hw, ⟨hadj, hib⟩, fun q' hq' => ?_⟩
    · rw [← Nat.sub_sub]
      exact b2.below hd (by omega) hib
    · obtain ⟨b', e1, e2⟩ := lowP q' hq'.1 hq'.2
      rw [ob1] at e1
      cases e1
      exact e2
