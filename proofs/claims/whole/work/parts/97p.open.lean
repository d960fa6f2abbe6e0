/-! the LAWs that a valley keeps; opening the Scale -/
section
variable {S R : Nat → Nat → Prop} {M M1 : Mem}
theorem Fw.wI {a k : Nat} {v : Int32} (h : Fw S R M M1) (hs : S a k) : Fw S R M (wI M1 a k v) := by
  obtain ⟨a1, a2, a3, a4, a5⟩ := h
  refine ⟨a1, a2, a3, a4, fun b j hb w => ?_⟩
  have hne : ¬ (b = a ∧ j = k) := fun q => w (by rw [q.1, q.2]; exact hs)
  rw [mI_wI, if_neg hne]
  exact a5 b j hb w
theorem Fw.wR {a k : Nat} {r : Option Nat} (h : Fw S R M M1) (hr : R a k) : Fw S R M (wR M1 a k r) := by
  obtain ⟨a1, a2, a3, a4, a5⟩ := h
  refine ⟨a1, a2, a3, fun b j hb w => ?_, a5⟩
  have hne : ¬ (b = a ∧ j = k) := fun q => w (by rw [q.1, q.2]; exact hr)
  rw [mR_wR, if_neg hne]
  exact a4 b j hb w
end
def KPR (K : Nat → Int32) (sms : List SM) (g : Nat) : Prop := ∃ T len, LAWP K T len g ∧ len ≤ 400 ∧ (∀ j, len ≤ j → T j = 256) ∧ (∀ j, j < len → T j ≠ 256) ∧ RTX T len 0 sms
/-- a valley's LAWs (its row ar of Texts) are those of a kept row -/
def LWS (M : Mem) (ar : Nat) (K : Nat → Int32) : Prop := (∀ g y, g < 6 → mR M ar g = some y → okO M 9 y) ∧ ∀ c g, c ≤ 6 → K 57 = nI c → g < c → ∃ tx sms, mR M ar g = some tx ∧ TXR M tx sms ∧ KPR K sms g
theorem LWS.fw {S R : Nat → Nat → Prop} {M M1 : Mem} {ar : Nat} {K K' : Nat → Int32} (h : LWS M ar K) (har : ar < mn M) (hF : Fw S R M M1) (hs : ∀ a k, S a k → ¬ HT M a) (hr : ∀ a k, R a k → a ≠ ar ∧ (78 ≤ a → mK M a ≠ 9)) (hK : ∀ k, 57 ≤ k → k ≠ 58 → k ≠ 65 → ¬ (2466 ≤ k ∧ k < 2866) → ¬ (5266 ≤ k) → K' k = K k) : LWS M1 ar K' := by
  obtain ⟨h1, h2⟩ := h
  have eR : ∀ g, mR M1 ar g = mR M ar g := fun g => hF.r har (fun q => (hr _ _ q).1 rfl)
  refine ⟨fun g y hg e => hF.ok (h1 g y hg (by rw [← eR]; exact e)), fun c g hc hk hg => ?_⟩
  rw [hK 57 (by omega) (by omega) (by omega) (by omega) (by omega)] at hk
  obtain ⟨tx, sms, e, hx, T, len, ⟨p1, p2⟩, p3, p4, p5, p6⟩ := h2 c g hc hk hg
  obtain ⟨t1, t2, t3⟩ := hx.ht
  refine ⟨tx, sms, (eR g).trans e, hx.fw hF (fun k => ⟨fun q => hs _ _ q t1, fun q => hs _ _ q t2, fun q => hs _ _ q t3⟩) (fun k q => (hr _ _ q).2 t1.1 hx.ok.2), T, len, ⟨?_, fun j hj => ?_⟩, p3, p4, p5, p6⟩
  · rw [hK _ (by omega) (by omega) (by omega) (by omega) (by omega)]
    exact p1
  · rw [hK _ (by omega) (by omega) (by omega) (by omega) (by omega), hK _ (by omega) (by omega) (by omega) (by omega) (by omega)]
    exact p2 j hj
theorem LWS.lawf {M : Mem} {ar : Nat} {K : Nat → Int32} (h : LWS M ar K) (hk : KLW K) : (K 58 = -1 ∧ LAWF K none) ∨ ∃ f tx sms, f < 6 ∧ K 58 = nI f ∧ mR M ar f = some tx ∧ TXR M tx sms ∧ LAWF K (some sms) := by
  obtain ⟨c, hc, h57, h58⟩ := hk
  rcases h58 with h58 | ⟨f, hf, h58⟩
  · exact Or.inl ⟨h58, Or.inl ⟨rfl, h58⟩⟩
  · obtain ⟨tx, sms, e, hx, T, len, p1, p3, p4, p5, p6⟩ := h.2 c f hc h57 hf
    exact Or.inr ⟨f, tx, sms, by omega, h58, e, hx, Or.inr ⟨sms, T, len, f, rfl, by omega, h58, p1, p3, p4, p5, p6⟩⟩
theorem LWS.has {M : Mem} {ar : Nat} {K : Nat → Int32} (h : LWS M ar K) (hk : KLW K) : ∃ o, LAWF K o := by
  rcases h.lawf hk with ⟨_, q⟩ | ⟨_, _, _, _, _, _, _, q⟩
  · exact ⟨_, q⟩
  · exact ⟨_, q⟩
/-- the Scale: what it keeps is right, or stale -/
def SCI (B : Nat) (M : Mem) : Prop := ∃ tn r ru y, tn ≤ B ∧ mI M 21 4 = nI tn ∧ CLB M tn ∧ mI M 21 5 = nI r ∧ mI M 1 13 = nI ru ∧ r ≤ ru ∧ ru < 2147483648 ∧ mI M 21 6 = nI y ∧ y ≤ 999 ∧ (∀ tx, mR M 21 3 = some tx → okO M 9 tx) ∧ (r = ru → ∃ o, LAWF (mI M 49) o ∧ SCV o (mI M 49) y (gtK (mI M 49)) tn M)
/-- the Scale is open for the YEAR y -/
def OPN (B y : Nat) (M : Mem) : Prop := ∃ tn o ru y0, tn ≤ B ∧ mI M 21 5 = nI ru ∧ mI M 1 13 = nI ru ∧ ru < 2147483648 ∧ mI M 21 6 = nI y0 ∧ y0 ≤ 999 ∧ LAWF (mI M 49) o ∧ SCV o (mI M 49) y (gtK (mI M 49)) tn M
theorem SCV.own {o : Option (List SM)} {K : Nat → Int32} {y y0 tn : Nat} {gt : Nat → Bool} {M : Mem} (h : SCV o K y gt tn M) (h6 : mI M 21 6 = nI y0) (hy : y0 ≤ 999) : SCV o K y0 gt tn M := by
  cases o with
  | none => exact h
  | some sms =>
    obtain ⟨tx, y1, b1', b2, b3, b4, b9, b5, b6, b7, b8⟩ := h
    exact ⟨tx, y1, b1', b2, b3, b4, b9, b5, b6, b7, Or.inl ((neqI (by omega) (by omega)).mp (b4.symm.trans h6))⟩
theorem OPN.sci {B y : Nat} {M : Mem} (h : OPN B y M) : SCI B M := by
  obtain ⟨tn, o, ru, y0, h1, h2, h3, h4, h5, h6, h7, h8⟩ := h
  refine ⟨tn, ru, ru, y0, h1, h8.clb.1, h8.clb.2, h2, h3, Nat.le_refl _, h4, h5, h6, fun tx e => ?_, fun _ => ⟨o, h7, h8.own h5 h6⟩⟩
  cases o with
  | none => rw [h8.1] at e; cases e
  | some sms =>
    obtain ⟨tx', y1, b1', b2, _⟩ := h8
    rw [b1'] at e
    cases e
    exact b2.ok
/-- what is open tells the weights of its YEAR -/
theorem OPN.run {B y : Nat} {M : Mem} (hM : LayM M) (hB : B < 16777216) (h : OPN B y M) : ∃ SC : Mem → Prop, SC M ∧ WSp SC (gtK (mI M 49)) (lwK (mI M 49) y) ∧ ∀ S M1, Fr S M M1 → (∀ a k, S a k → ¬ (a = 21 ∧ 5 ≤ k) ∧ ¬ (a = 1 ∧ k = 13) ∧ a ≠ 49) → SC M1 → OPN B y M1 := by
  obtain ⟨tn, o, ru, y0, h1, h2, h3, h4, h5, h6, h7, h8⟩ := h
  refine ⟨SCV o (mI M 49) y (gtK (mI M 49)) tn, h8, ?_, fun S M1 hF hs h9 => ?_⟩
  · rw [lwK_eq hM rfl h7]
    exact WSp_scv (by omega)
  · have e49 : mI M1 49 = mI M 49 := by
      funext k
      exact hF.i (fun q => (hs _ _ q).2.2 rfl)
    refine ⟨tn, o, ru, y0, h1, ?_, ?_, h4, ?_, h6, by rw [e49]; exact h7, by rw [e49]; exact h9⟩
    · rw [hF.i (fun q => (hs _ _ q).1 ⟨rfl, by omega⟩)]; exact h2
    · rw [hF.i (fun q => (hs _ _ q).2.1 ⟨rfl, rfl⟩)]; exact h3
    · rw [hF.i (fun q => (hs _ _ q).1 ⟨rfl, by omega⟩)]; exact h5
theorem neg1_nI {n : Nat} (h : n < 2147483648) : ¬ nI n = -1 := fun q => by
  have := congrArg Int32.toInt q
  rw [nI_tI h] at this
  have h1 : (-1 : Int32).toInt = -1 := rfl
  omega
theorem c_inForce {M : Mem} (hC : LayC M) {K : Nat → Int32} (hO : CVo M 1 K) (hk : KLW K) : f_X10_textInForce M 1 = some (if K 58 = -1 then none else mR M 9 (K 58).toNatClampNeg) := by
  obtain ⟨c, hc, h57, h58⟩ := hk
  obtain ⟨o1, o2, o3, o4, o5⟩ := hO
  unfold LayC at hC
  unfold f_X10_textInForce
  simp only [hC, grd_T, Option.bind_some]
  rw [o2, o3]
  rcases h58 with h58 | ⟨f, hf, h58⟩
  · rw [h58, if_pos (by decide), if_pos rfl]
  · rw [h58, if_neg (show ¬ nI f < 0 by rw [show (0 : Int32) = nI 0 from rfl, nltI (by omega) (by omega)]; omega), if_neg (neg1_nI (by omega)), h57, if_neg (show ¬ nI c ≤ nI f by rw [nleI (by omega) (by omega)]; omega), grd_y ((nvp (by omega)).mpr (by omega))]
noncomputable def opE (M : Mem) (p1 : Int32) : Option Mem := Option.bind (mR M 21 0) (fun r12 => grd (okO M 10 r12) (bv (wI M 21 5 (mI M r12 13)) (fun M14 => bv (wI M14 21 6 p1) (fun M18 => Option.bind (mR M18 21 0) (fun r22 => grd (okO M18 10 r22) (Option.bind (f_X10_textInForce M18 r22) (fun q24 => bv (wR M18 21 3 q24) (fun M27 => bv (wI M27 21 4 ((mI M27 21 4) + 1)) (fun M31 => some M31)))))))))
noncomputable def opJ (M : Mem) (p1 s3 : Int32) : Option Mem := Option.bind (mR M 21 0) (fun r6 => grd (okO M 10 r6) (if (mI M 21 5) = (mI M r6 13) then (if s3 = 0 then (opE M p1) else (some M)) else (opE M p1)))
theorem open_eq {M : Mem} {p1 : Int32} : f_X8_open M 21 p1 = grd (okO M 8 21) (if (mI M 21 6) = p1 then (opJ M p1 1) else (ncase (mR M 21 3) (opJ M p1 1) (fun r39 => Option.bind (mR M 21 3) (fun r40 => grd (okO M 9 r40) (if (mI M r40 4) = 0 then (opJ M p1 1) else (opJ M p1 0)))))) := rfl
def Sop (a k : Nat) : Prop := a = 21 ∧ 4 ≤ k
def Rop (a k : Nat) : Prop := a = 21 ∧ k = 3
noncomputable def OPM (M : Mem) (q : Option Nat) (v5 p1 v4 : Int32) : Mem := wI (wR (wI (wI M 21 5 v5) 21 6 p1) 21 3 q) 21 4 v4
theorem OPM_fw {M : Mem} {q : Option Nat} {v5 p1 v4 : Int32} : Fw Sop Rop M (OPM M q v5 p1 v4) := (((Fw.rf.wI ⟨rfl, by omega⟩).wI ⟨rfl, by omega⟩).wR ⟨rfl, rfl⟩).wI ⟨rfl, by omega⟩
theorem OPM_n {M : Mem} {q : Option Nat} {v5 p1 v4 : Int32} : mn (OPM M q v5 p1 v4) = mn M ∧ mz (OPM M q v5 p1 v4) = mz M := ⟨rfl, rfl⟩
theorem OPM_v {M : Mem} {q : Option Nat} {v5 p1 v4 : Int32} : mI (OPM M q v5 p1 v4) 21 4 = v4 ∧ mI (OPM M q v5 p1 v4) 21 5 = v5 ∧ mI (OPM M q v5 p1 v4) 21 6 = p1 ∧ mR (OPM M q v5 p1 v4) 21 3 = q := by
  unfold OPM
  refine ⟨mI_wIs, ?_, ?_, ?_⟩
  · rw [mI_wI_ne (by decide), mI_wR, mI_wI_ne (by decide), mI_wIs]
  · rw [mI_wI_ne (by decide), mI_wR, mI_wIs]
  · rw [mR_wI, mR_wR, if_pos ⟨rfl, rfl⟩]
theorem opE_eq {M : Mem} (hC : LayC M) {K : Nat → Int32} (hO : CVo M 1 K) (hk : KLW K) {p1 : Int32} : opE M p1 = some (OPM M (if K 58 = -1 then none else mR M 9 (K 58).toNatClampNeg) (mI M 1 13) p1 (mI M 21 4 + 1)) := by
  have hO' : CVo (wI (wI M 21 5 (mI M 1 13)) 21 6 p1) 1 K := by
    unfold CVo
    rw [mI_wI_row (by decide), mI_wI_row (by decide)]
    exact hO
  have hC' : LayC (wI (wI M 21 5 (mI M 1 13)) 21 6 p1) := hC
  have e := c_inForce hC' hO' hk
  unfold LayC at hC
  unfold opE
  simp only [hC, grd_T, Option.bind_some, bv, mR_wI, ok_wI]
  rw [e, Option.bind_some]
  unfold OPM
  rw [mI_wR, mI_wI_ne (by decide), mI_wI_ne (by decide)]
  rfl
theorem c_sopen {B y : Nat} {M : Mem} (hC : LayC M) (hM : LayM M) (h78 : 78 ≤ mn M) (hK : KOK (mI M 49)) (hV : CV M (mI M 49)) (hL : LWS M 9 (mI M 49)) (hS : SCI B M) (hB : B < 16777000) (hy : y ≤ 999) : TT (f_X8_open M 21 (nI y)) (fun M1 => OPN (B + 1) y M1 ∧ Fw Sop Rop M M1 ∧ mn M1 = mn M ∧ mz M1 = mz M) := by
  obtain ⟨kt, km, kl, kh⟩ := hK
  obtain ⟨tn, r, ru, y0, s1, s2, s3, s4, s5, s6, s7, s8, s9, s10, s11⟩ := hS
  have hE : TT (opE M (nI y)) (fun M1 => OPN (B + 1) y M1 ∧ Fw Sop Rop M M1 ∧ mn M1 = mn M ∧ mz M1 = mz M) := by
    rw [opE_eq hC hV.2.1 kl, TT_some, s2, s5, nsucc]
    have hF := OPM_fw (M := M) (q := if mI M 49 58 = -1 then none else mR M 9 (mI M 49 58).toNatClampNeg) (v5 := nI ru) (p1 := nI y) (v4 := nI (tn + 1))
    have hn := OPM_n (M := M) (q := if mI M 49 58 = -1 then none else mR M 9 (mI M 49 58).toNatClampNeg) (v5 := nI ru) (p1 := nI y) (v4 := nI (tn + 1))
    obtain ⟨v1, v2, v3, v4⟩ := OPM_v (M := M) (q := if mI M 49 58 = -1 then none else mR M 9 (mI M 49 58).toNatClampNeg) (v5 := nI ru) (p1 := nI y) (v4 := nI (tn + 1))
    generalize OPM M (if mI M 49 58 = -1 then none else mR M 9 (mI M 49 58).toNatClampNeg) (nI ru) (nI y) (nI (tn + 1)) = M1 at *
    refine ⟨?_, hF, hn.1, hn.2⟩
    have e : ∀ a k, a < 78 → a ≠ 21 → mI M1 a k = mI M a k := fun a k ha hne => hF.i (by omega) (fun q => hne q.1)
    have e49 : mI M1 49 = mI M 49 := funext (fun k => e 49 k (by decide) (by decide))
    have g1 : ∀ t, t < 6 → mI M1 2 t = mI M 49 t ∧ (mI M1 3 t = 0 ↔ gtK (mI M 49) t = false) := fun t ht => by
      rw [e 2 t (by decide) (by decide), e 3 t (by decide) (by decide), (hV.1 t ht).2.1]
      exact ⟨(hV.1 t ht).1, (gtK_v kt ht).2⟩
    have g2 : ∀ k, mI M1 25 k = mI M 25 k := fun k => e 25 k (by decide) (by decide)
    have mk : ∀ o, LAWF (mI M 49) o → SCV o (mI M 49) y (gtK (mI M 49)) (tn + 1) M1 → OPN (B + 1) y M1 := fun o q1 q2 => ⟨tn + 1, o, ru, y, by omega, v2, by rw [e 1 13 (by decide) (by decide)]; exact s5, s7, v3, hy, by rw [e49]; exact q1, by rw [e49]; exact q2⟩
    have hc : CLB M1 (tn + 1) := fun s t p n h h1 h2 h3 h4 h5 => by
      obtain ⟨v, a1, a2, a3⟩ := s3 s t p n h h1 h2 h3 h4 h5
      exact ⟨v, by rw [g2]; exact a1, a2, by omega⟩
    rcases hL.lawf kl with ⟨q1, q2⟩ | ⟨f, tx, sms, q1, q2, q3, q4, q5⟩
    · refine mk none q2 ⟨by rw [v4, if_pos q1], fun t ht => (g1 t ht).2, v1, hc⟩
    · rw [if_neg (by rw [q2]; exact neg1_nI (by omega)), q2, nclampI (by omega), q3] at v4
      obtain ⟨t1, t2, t3⟩ := q4.ht
      refine mk (some sms) q5 ⟨tx, y, v4, q4.fw hF (fun k => ⟨fun q => ?_, fun q => ?_, fun q => ?_⟩) (fun k q => ?_), v1, v3, hy, g1, ?_, fun s t p n h h1 h2 h3 h4 h5 => ?_, Or.inl rfl⟩
      · have := q.1; have := t1.1; omega
      · have := q.1; have := t2.1; omega
      · have := q.1; have := t3.1; omega
      · have := q.1; have := t1.1; omega
      · rw [e 1 12 (by decide) (by decide)]
        exact hV.2.1.2.2.2.2
      · obtain ⟨v, a1, a2, a3⟩ := s3 s t p n h h1 h2 h3 h4 h5
        exact ⟨v, by rw [g2]; exact a1, a2, by omega, fun q => by omega⟩
  have hJ : ∀ s3' : Int32, (s3' ≠ 0 → r = ru → ∀ o, SCV o (mI M 49) y0 (gtK (mI M 49)) tn M → SCV o (mI M 49) y (gtK (mI M 49)) tn M) → TT (opJ M (nI y) s3') (fun M1 => OPN (B + 1) y M1 ∧ Fw Sop Rop M M1 ∧ mn M1 = mn M ∧ mz M1 = mz M) := by
    intro s3' hh
    have hC' := hC
    unfold LayC at hC'
    unfold opJ
    simp only [hC', grd_T, Option.bind_some]
    rw [s4, s5]
    by_cases w : r = ru
    · rw [if_pos (by rw [w])]
      by_cases w2 : s3' = 0
      · rw [if_pos w2]
        exact hE
      · rw [if_neg w2, TT_some]
        obtain ⟨o, o1, o2⟩ := s11 w
        exact ⟨⟨tn, o, ru, y0, by omega, by rw [s4, w], s5, s7, s8, s9, o1, hh w2 w o o2⟩, Fw.rf, rfl, rfl⟩
    · rw [if_neg (fun q => w ((neqI (by omega) (by omega)).mp q))]
      exact hE
  have y0k : okO M 8 21 := by
    unfold LayC at hC
    simp only [hC]
  rw [open_eq, grd_y y0k, s8]
  by_cases w : y0 = y
  · subst w
    rw [if_pos rfl]
    exact hJ 1 (fun _ _ o q => q)
  · rw [if_neg (fun q => w ((neqI (by omega) (by omega)).mp q))]
    cases h3 : mR M 21 3 with
    | none =>
      show TT (opJ M (nI y) 1) _
      refine hJ 1 (fun _ _ o q => ?_)
      cases o with
      | none => exact q
      | some sms =>
        obtain ⟨tx, y1, b1', _⟩ := q
        rw [h3] at b1'
        cases b1'
    | some tx =>
      show TT (Option.bind (some tx) (fun r40 => grd (okO M 9 r40) (if (mI M r40 4) = 0 then (opJ M (nI y) 1) else (opJ M (nI y) 0)))) _
      rw [Option.bind_some, grd_y (s10 tx h3)]
      by_cases w4 : mI M tx 4 = 0
      · rw [if_pos w4]
        refine hJ 1 (fun _ _ o q => ?_)
        cases o with
        | none => exact q
        | some sms =>
          obtain ⟨tx', y1, b1', b2, b3, b4, b9, b5, b6, b7, b8⟩ := q
          rw [h3] at b1'
          cases b1'
          obtain ⟨cls, C, L, c1, c2, c3, c4, c5⟩ := b2
          exact ⟨tx, y1, h3, ⟨cls, C, L, c1, c2, c3, c4, c5⟩, b3, b4, b9, b5, b6, b7, Or.inr (c5 w4)⟩
      · rw [if_neg w4]
        exact hJ 0 (fun q => absurd rfl q)
