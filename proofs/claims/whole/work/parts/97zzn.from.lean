/-! STEPS from a DISH to another: the class -/
theorem MID.kth {M : Mem} (h : MID M) : KTH (mI M 49) := h.1.2.2.1.1
def SFQ (B y g : Nat) (M M1 : Mem) (i d : Nat) (Q : List Nat) (D : Nat → Option Nat) : Prop := TIN B y g i d M1 Q D ∧ mI M1 49 = mI M 49 ∧ Fw (Spc M) Rpc M M1 ∧ PMN M M1
theorem TIN.mid {B y g i d : Nat} {M : Mem} {Q : List Nat} {D : Nat → Option Nat} (h : TIN B y g i d M Q D) : MID M ∧ OPN B y M ∧ TB M d ∧ TC M d Q D ∧ PTH M := by
  obtain ⟨t1, t2, t3, ⟨kk, tb⟩, t5, t6⟩ := h
  exact ⟨tb.1, tb.2.1, tb.2.2.2.1, tb.2.2.2.2.2.2.1, t3⟩
theorem Sdp_spc {M : Mem} {d : Nat} (h : TB M d) : ∀ a k, Sdp d a k → Spc M a k := fun a k w => by
  rcases w with w | w | w | w
  · unfold Ssc at w
    exact Or.inr (Or.inl (by omega))
  · exact h.spc a k (Or.inl w.1)
  · exact h.spc a k (Or.inr (Or.inl w))
  · exact h.spc a k (Or.inr (Or.inr w))
theorem c_stepsFrom {B y g r : Nat} {M : Mem} (h : MID M) (hS : SCI B M) (hB : B < 16776000) (hy : y ≤ 999) (hg : g < 9331) (hr : r < 9331) (hP : PTH M) : TT (f_X4_stepsFrom M 32 (nI r) (nI g) (nI y)) (fun q => ∃ i d Q D, SFQ (B + 1) y g M q.1 i d Q D ∧ q.2 = oI (D r) ∧ (∀ e, D r = some e → e < 9331) ∧ ∀ e, D r = some e ↔ isD (rdjK (mI M 49) y) g r e) := by
  obtain ⟨l1, l2, l3, l4, l5, l6⟩ := okLP h
  unfold f_X4_stepsFrom
  rw [grd_y l1, TT_bind]
  refine (c_tableTo h hS hB hy hg hP).mono ?_
  rintro ⟨M1, d⟩ ⟨i, Q, D, t, k1, f1, p1⟩
  simp only at t k1 f1 p1 ⊢
  obtain ⟨t1, t2, t3, ⟨kk, tb⟩, t5, t6⟩ := id t
  have hT := tb.2.2.2.1
  rw [grd_y hT.2.1, TT_bind]
  refine (c_spreadY tb (by omega) tb.1.kth hr).mono ?_
  rintro M2 ⟨Q2, D2, kk2, s1, s2, s3⟩
  obtain ⟨t', k2⟩ := t.spr hg hy s1 s2
  have hT2 := s1.2.2.2.1
  obtain ⟨a1, a2, a3, a4, a5, a6, a7, a8, a9, a10⟩ := id hT2
  rw [a5, Option.bind_some, grd_y a7, a8, grd_y ((nvp (by omega)).mpr hr), TT_some, nclampI (by omega)]
  have tc := s1.2.2.2.2.2.2.1
  rw [k1] at s3
  exact ⟨i, d, Q2, D2, ⟨t', by rw [k2, k1], Spc.tr f1 (s2.fw.up (Sdp_spc hT) (fun _ _ w => w)), p1.tr (PMN.fr s2)⟩, tc.2.1 r hr, fun e he => s1.2.2.2.2.2.2.2.dlt tc.2.2.2 he, s3⟩
/-- the same table once more -/
theorem c_tableTo2 {B y g i d : Nat} {M : Mem} {Q : List Nat} {D : Nat → Option Nat} (t : TIN B y g i d M Q D) (hB : B < 16776000) (hy : y ≤ 999) (hg : g < 9331) : TT (f_X4_tableTo M 32 (nI g) (nI y)) (fun q => q.2 = d ∧ SFQ (B + 1) y g M q.1 i d Q D) := by
  obtain ⟨t1, t2, t3, ⟨kk, tb⟩, t5, t6⟩ := id t
  obtain ⟨h, m2, m3, m4, m5, m6, m7, m8⟩ := tb
  obtain ⟨l1, l2, l3, l4, l5, l6⟩ := okLP h
  rw [tableTo_eq, grd_y l1, l3, Option.bind_some, grd_y (okLC h), TT_bind]
  refine (m_open h m2.sci (by omega) hy).mono ?_
  rintro M1 ⟨n1, o1, k1, f1, nn1, z1⟩
  have h78 := h.2.1
  have d78 := m4.1
  have hP1 := t3.op h78 f1 (fun a k w => by have := w.1; omega)
  have er : ∀ i, mR M1 33 i = mR M 33 i := fun i => f1.r (by omega) (fun q => by have := q.1; omega)
  have fw1 : Fw (Spc M) Rpc M M1 := f1.up (fun a k w => Or.inl w) (fun a k w => Or.inl w)
  have pm1 : PMN M M1 := by
    have : ptk M1 = ptk M := by
      unfold ptk
      rw [er, er, er]
    unfold PMN
    rw [this, nn1, z1]
    exact ⟨rfl, rfl⟩
  have e13 : mI M1 1 13 = mI M 1 13 := f1.i (by omega) (fun q => by have := q.1; omega)
  have em : ∀ d', TB M d' → ∀ k, mI M1 d' k = mI M d' k := fun d' hT k => f1.i hT.2.1.1 (fun q => by have := q.1; have := hT.1; omega)
  have em1 : ∀ k, mI M1 (d + 1) k = mI M (d + 1) k := fun k => f1.i m4.2.2.2.2.2.2.1.1 (fun q => by have := q.1; omega)
  have em2 : ∀ k, mI M1 (d + 2) k = mI M (d + 2) k := fun k => f1.i m4.2.2.2.2.2.2.2.2.1.1 (fun q => by have := q.1; omega)
  have mt : MTC M1 d (nI g) (nI y) := (MTC.e (fun k _ => em d m4 k) e13).mpr t5
  have ft : FST M1 i (nI g) (nI y) := fun j d' hj e' => by
    rw [er] at e'
    rw [MTC.e (fun k _ => em d' (t3.2.2 j d' (by omega) e').1 k) e13]
    exact t6 j d' hj e'
  have hd1 : mR M1 33 i = some d := by rw [er]; exact t2
  rw [TT_bind]
  refine (c_tt0 n1 hP1).mono ?_
  rintro z (⟨rfl, hno⟩ | ⟨i', d', rfl, hi', hd', hm', hf'⟩)
  · exact absurd mt (hno i d t1 hd1)
  · show TT (some (M1, d')) _
    rw [TT_some]
    have : i' = i := by
      rcases Nat.lt_trichotomy i' i with q | q | q
      · exact absurd hm' (ft i' d' q hd')
      · exact q
      · exact absurd mt (hf' i d q hd1)
    subst this
    rw [hd1] at hd'
    cases hd'
    refine ⟨rfl, ⟨hi', hd1, hP1, ⟨kk, n1, o1, rfl, m4.fw f1 (fun k q => by have := q.1; omega), by rw [em d m4]; exact m5, by rw [em d m4, k1]; exact m6, m7.e (em d m4 5) em1 em2, by rw [k1]; exact m8⟩, hm', hf'⟩, k1, fw1, pm1⟩
