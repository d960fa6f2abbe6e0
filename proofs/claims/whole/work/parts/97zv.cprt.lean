/-! chances: the class -/
noncomputable def hoB (p1 : Int32) (a0 : Nat) : Mem × Int32 → Option ((Mem × Int32) ⊕ (Mem)) := (fun s4 => Option.bind (mR s4.1 a0 2) (fun r13 => grd (okO s4.1 1 r13) (if (mI s4.1 r13 5) ≤ s4.2 then (some (.inr s4.1)) else (Option.bind (mR s4.1 a0 4) (fun r15 => Option.bind (mR s4.1 a0 2) (fun r16 => grd (okO s4.1 1 r16) (Option.bind (mR s4.1 r16 3) (fun r18 => grd (okO s4.1 14 r18) (grd (vp_in s4.2 (mL s4.1 r18)) (grd (okO s4.1 15 r15) (grd (vp_in (mI s4.1 r18 s4.2.toNatClampNeg) (mL s4.1 r15)) (Option.bind (mR s4.1 a0 3) (fun r23 => grd (okO s4.1 15 r23) (grd (vp_in p1 (mL s4.1 r23)) (Option.bind (mR s4.1 a0 2) (fun r26 => grd (okO s4.1 1 r26) (Option.bind (mR s4.1 r26 4) (fun r28 => grd (okO s4.1 14 r28) (grd (vp_in s4.2 (mL s4.1 r28)) (Option.bind (mR s4.1 a0 2) (fun r31 => grd (okO s4.1 1 r31) (grd (¬ ((mI s4.1 r31 6).toInt64) = 0) (bv (wJ s4.1 r15 (mI s4.1 r18 s4.2.toNatClampNeg).toNatClampNeg ((mJ s4.1 r15 (mI s4.1 r18 s4.2.toNatClampNeg).toNatClampNeg) + (((mJ s4.1 r23 p1.toNatClampNeg) * ((mI s4.1 r28 s4.2.toNatClampNeg).toInt64)) / ((mI s4.1 r31 6).toInt64)))) (fun M34 => bv (s4.2 + 1 : Int32) (fun x38 => some (.inl (M34, x38)))))))))))))))))))))))))))
theorem handOn_eq {M : Mem} {a0 : Nat} {p1 : Int32} : f_X0_handOn M a0 p1 = grd (okO M 0 a0) (Option.bind (mR M a0 2) (fun r2 => grd (okO M 1 r2) (if 0 < (mI M r2 6) then (Option.bind (loopO (hoB p1 a0) (M, 0)) (fun (x11 : Mem) => some x11)) else (Option.bind (mR M a0 4) (fun r39 => grd (okO M 15 r39) (grd (vp_in p1 (mL M r39)) (Option.bind (mR M a0 3) (fun r42 => grd (okO M 15 r42) (grd (vp_in p1 (mL M r42)) (bv (wJ M r39 p1.toNatClampNeg ((mJ M r39 p1.toNatClampNeg) + (mJ M r42 p1.toNatClampNeg))) (fun M45 => some M45))))))))))) := rfl
noncomputable def flJ (x2 : Int32) (p1 : Int64) (a0 : Nat) : Mem × Int32 → Option ((Mem × Int32) ⊕ (Mem)) := (fun s3 => if x2 ≤ s3.2 then (some (.inr s3.1)) else (grd (vp_in s3.2 (mL s3.1 a0)) (bv (wJ s3.1 a0 s3.2.toNatClampNeg p1) (fun M13 => bv (s3.2 + 1 : Int32) (fun x17 => some (.inl (M13, x17)))))))
theorem fillJ_eq {M : Mem} {a0 : Nat} {p1 : Int64} : f_J7_fill_d0a16 M a0 p1 = grd (okO M 15 a0) (bv (nI (mL M a0) : Int32) (fun x2 => Option.bind (loopO (flJ x2 p1 a0) (M, 0)) (fun (x10 : Mem) => some x10))) := rfl
noncomputable def wk1 (a0 : Nat) : Mem × Int32 → Option ((Mem × Int32) ⊕ (Mem)) := (fun s68 => if 9331 ≤ s68.2 then (some (.inr s68.1)) else (Option.bind (mR s68.1 a0 3) (fun r77 => grd (okO s68.1 15 r77) (grd (vp_in s68.2 (mL s68.1 r77)) (bv (fun (s81 : Mem) => bv (s68.2 + 1 : Int32) (fun x85 => some (.inl (s81, x85)))) (fun j80 => if (lg_cmp (mJ s68.1 r77 s68.2.toNatClampNeg) 0) ≤ 0 then (j80 s68.1) else (Option.bind (mR s68.1 a0 2) (fun r86 => grd (okO s68.1 1 r86) (Option.bind (f_X1_listAll s68.1 r86 s68.2) (fun q88 => Option.bind (f_X0_handOn q88 a0 s68.2) (fun q93 => j80 q93)))))))))))
noncomputable def wk0 (p2 : Int32) (a0 : Nat) : Mem × Int32 → Option ((Mem × Int32) ⊕ (Mem)) := (fun s53 => if p2 ≤ s53.2 then (some (.inr s53.1)) else (Option.bind (mR s53.1 a0 4) (fun r62 => Option.bind (f_J7_fill_d0a16 s53.1 r62 0) (fun q63 => Option.bind (loopO (wk1 a0) (q63, 0)) (fun (x75 : Mem) => Option.bind (mR x75 a0 3) (fun r99 => Option.bind (mR x75 a0 4) (fun r100 => bv (wR x75 a0 3 (some r100)) (fun M101 => bv (wR M101 a0 4 (some r99)) (fun M105 => bv (s53.2 + 1 : Int32) (fun x109 => some (.inl (M105, x109))))))))))))
/-- a frame under which the Scale stays open -/
theorem OPN.fw {S R : Nat → Nat → Prop} {B y : Nat} {M M1 : Mem} (h : OPN B y M) (h78 : 78 ≤ mn M) (hF : Fw S R M M1) (hs : ∀ a k, S a k → ¬ (1 ≤ a ∧ a ≤ 3) ∧ a ≠ 21 ∧ a ≠ 25 ∧ a ≠ 49 ∧ ¬ HT M a) (hr : ∀ a k, R a k → ¬ (a = 21 ∧ k = 3) ∧ (78 ≤ a → mK M a ≠ 9)) : OPN B y M1 := by
  obtain ⟨tn, o, ru, y0, h1, h2, h3, h4, h5, h6, h7, h8⟩ := h
  have e : ∀ a k, (1 ≤ a ∧ a ≤ 3) ∨ a = 21 ∨ a = 25 ∨ a = 49 → mI M1 a k = mI M a k := fun a k w => hF.i (by omega) (fun q => by have := hs a k q; omega)
  have e49 : mI M1 49 = mI M 49 := funext (fun k => e 49 k (by omega))
  refine ⟨tn, o, ru, y0, h1, (e 21 5 (by omega)).trans h2, (e 1 13 (by omega)).trans h3, h4, (e 21 6 (by omega)).trans h5, h6, by rw [e49]; exact h7, ?_⟩
  rw [e49]
  exact h8.fw h78 hF (fun a k q => ⟨(hs a k q).2.1, (hs a k q).2.2.1, (hs a k q).2.2.2.2⟩) hr (fun t _ => e 2 t (by omega)) (fun t _ => e 3 t (by omega)) (e 1 12 (by omega)) (fun _ _ => rfl) rfl (fun _ _ => rfl)
/-- rows of longs on the heap -/
def SJ (r a _k : Nat) : Prop := a = r
def RW15 (M : Mem) (r : Nat) : Prop := 78 ≤ r ∧ okO M 15 r ∧ mL M r = 9331
theorem RW15.nh {M : Mem} {r : Nat} (h : RW15 M r) : ¬ HT M r := fun q => by
  have := h.2.1.2
  rcases q.2 with w | w | w | ⟨w, _⟩ <;> omega
theorem c_fillJ {M : Mem} {r : Nat} (h : RW15 M r) : TT (f_J7_fill_d0a16 M r 0) (fun M1 => Fr (SJ r) M M1 ∧ JR M1 r (fun _ => 0)) := by
  obtain ⟨h1, h2, h3⟩ := h
  rw [fillJ_eq, grd_y h2, h3]
  simp only [bv]
  rw [TT_bind]
  refine TT.mono (Q := fun M1 => Fr (SJ r) M M1 ∧ JR M1 r (fun _ => 0)) ?_ (fun M1 q => ⟨_, rfl, q⟩)
  refine TT_for 9331 (fun k s => s.2 = nI k ∧ Fr (SJ r) M s.1 ∧ ∀ p, p < k → mJ s.1 r p = jj ((0 : Nat) : Int)) ?_ (Nat.zero_le _) ⟨rfl, Fr.rf, fun p hp => by omega⟩
  rintro k ⟨M1, i⟩ hk ⟨q1, q2, q3⟩
  simp only at q1 q2 q3
  subst q1
  unfold flJ
  simp only
  by_cases w : k < 9331
  · rw [if_neg (fun q => by have := (nleI (by omega) (by omega)).mp q; omega), q2.2.2.2.1, h3, grd_y ((nvp (a := k) (by omega)).mpr (by omega)), nclampI (a := k) (by omega)]
    simp only [bv]
    rw [nsucc, TT_some]
    refine ⟨w, rfl, q2.wJ rfl, fun p hp => ?_⟩
    rw [mJ_wJ]
    by_cases e : p = k
    · rw [if_pos ⟨rfl, e⟩]
      exact jj0
    · rw [if_neg (fun q => e q.2)]
      exact q3 p (by omega)
  · have ek : k = 9331 := by omega
    subst ek
    rw [if_pos ((nleI (by omega) (by omega)).mpr (by omega)), TT_some]
    exact ⟨q2, q3⟩
theorem c_handOn {M : Mem} (hC : LayC M) {L : List (List Nat × Nat)} (hL : MADE M L) (hlen : L.length ≤ 45) (hd : ∀ c ∈ L, DL c.1 ∧ c.2 ≤ 99) {Q T : Nat → Nat} {p rp rl : Nat} (hp : p < 9331) (hq : Q p ≤ 1000000000000) (r3 : mR M 42 3 = some rp) (r4 : mR M 42 4 = some rl) (wp : RW15 M rp) (wl : RW15 M rl) (hne : rp ≠ rl) (hQ : JR M rp Q) (hT : JR M rl T) : TT (f_X0_handOn M 42 (nI p)) (fun M2 => Fr (SJ rl) M M2 ∧ JR M2 rl (if sumW L = 0 then put1 T p (Q p) else hndL (Q p) (sumW L) L T)) := by
  obtain ⟨l1, l2, l3⟩ := hL
  have l2 : mI M 26 6 = nI (sumW L) := l2
  have hS := sumW_le (fun c hc => (hd c hc).2)
  have hC2 := hC
  unfold LayC at hC2
  obtain ⟨p1, p2, p3⟩ := wp
  obtain ⟨g1, g2, g3⟩ := wl
  rw [handOn_eq]
  simp only [hC2, grd_T, Option.bind_some, r3, r4, eq_true p2, eq_true g2, p3, g3, bv]
  rw [l2]
  by_cases w : sumW L = 0
  · rw [if_neg (fun q => by rw [w, show (0 : Int32) = nI 0 from rfl] at q; have := (nltI (by omega) (by omega)).mp q; omega), grd_y ((nvp (a := p) (by omega)).mpr (by omega)), grd_y ((nvp (a := p) (by omega)).mpr (by omega)), nclampI (a := p) (by omega), hT p hp, hQ p hp, jj_add, show ((T p : Nat) : Int) + ((Q p : Nat) : Int) = ((T p + Q p : Nat) : Int) from by simp, TT_some, if_pos w]
    exact ⟨Fr.rf.wJ rfl, hT.w hp⟩
  · rw [if_pos (show (0 : Int32) < nI (sumW L) by rw [show (0 : Int32) = nI 0 from rfl, nltI (by omega) (by omega)]; omega), if_neg w, TT_bind]
    refine TT.mono (Q := fun M2 => Fr (SJ rl) M M2 ∧ JR M2 rl (hndL (Q p) (sumW L) L T)) ?_ (fun M2 q => ⟨_, rfl, q⟩)
    refine TT_for L.length (fun k s => s.2 = nI k ∧ Fr (SJ rl) M s.1 ∧ JR s.1 rl (hndL (Q p) (sumW L) (L.take k) T)) ?_ (Nat.zero_le _) ⟨rfl, Fr.rf, hT⟩
    rintro k ⟨M2, i⟩ hk ⟨q1, q2, q3⟩
    simp only at q1 q2 q3
    subst q1
    have hC3 := hC.fr q2
    unfold LayC at hC3
    have e3 : mR M2 42 3 = some rp := by rw [q2.2.2.2.2.1]; exact r3
    have e4 : mR M2 42 4 = some rl := by rw [q2.2.2.2.2.1]; exact r4
    have op := okO_fr q2 p2
    have ol := okO_fr q2 g2
    have lp : mL M2 rp = 9331 := by rw [q2.2.2.2.1]; exact p3
    have ll : mL M2 rl = 9331 := by rw [q2.2.2.2.1]; exact g3
    have ei : ∀ a k, a < 78 → mI M2 a k = mI M a k := fun a k w => q2.i (fun q => by unfold SJ at q; omega)
    unfold hoB
    simp only [hC3, grd_T, Option.bind_some, e3, e4, eq_true op, eq_true ol, lp, ll, bv]
    rw [ei 26 5 (by decide), l1]
    by_cases w2 : k < L.length
    · have ek := List.getElem?_eq_getElem w2
      obtain ⟨d1, d2⟩ := hd _ (List.getElem_mem w2)
      have hr := rank_lt d1
      rw [if_neg (fun q => by have := (nleI (by omega) (by omega)).mp q; omega), grd_y ((nvp (a := k) (by omega)).mpr (by omega)), nclampI (a := k) (by omega), ei 30 k (by decide), (l3 k _ ek).1, grd_y ((nvp (a := rank L[k].1) (by omega)).mpr (by omega)), grd_y ((nvp (a := p) (by omega)).mpr (by omega)), grd_y ((nvp (a := k) (by omega)).mpr (by omega)), ei 26 6 (by decide), l2, grd_y (fun q => by
        rw [nI_j (by omega), show (0 : Int64) = jj 0 from jj_lit 0] at q
        have := (jj_inj (show R64 (sumW L : Int) from ⟨by omega, by omega⟩) R64_0).mp q
        omega), nclampI (a := rank L[k].1) (by omega), nclampI (a := p) (by omega), q3 _ (by omega), q2.j (a := rp) (by unfold SJ; exact hne), hQ p hp, ei 31 k (by decide), (l3 k _ ek).2, jj_hand hq d2 (by omega), nsucc, TT_some]
      refine ⟨w2, rfl, q2.wJ rfl, ?_⟩
      rw [hndL_split L T k _ ek]
      exact q3.w (by omega)
    · rw [if_pos ((nleI (by omega) (by omega)).mpr (by omega)), TT_some]
      rw [List.take_of_length_le (by omega)] at q3
      exact ⟨q2, q3⟩
def Sw2 (rl a k : Nat) : Prop := Sla a k ∨ a = rl
theorem MID.sj {M M1 : Mem} {r : Nat} (h : MID M) (hr : RW15 M r) (hF : Fr (SJ r) M M1) : MID M1 ∧ mI M1 49 = mI M 49 := h.fw (hF.fw (R := fun _ _ => False)) (fun a k w => by
  have w : a = r := w
  subst w
  exact ⟨by have := hr.1; unfold Frl; omega, hr.nh⟩) (fun _ _ w => w.elim)
theorem OPN.sj {M M1 : Mem} {B y r : Nat} (h : OPN B y M) (h78 : 78 ≤ mn M) (hr : RW15 M r) (hF : Fr (SJ r) M M1) : OPN B y M1 := h.fw h78 (hF.fw (R := fun _ _ => False)) (fun a k w => by
  have w : a = r := w
  subst w
  have := hr.1
  exact ⟨by omega, by omega, by omega, by omega, hr.nh⟩) (fun _ _ w => w.elim)
theorem RW15.fr {S : Nat → Nat → Prop} {M M1 : Mem} {r : Nat} (h : RW15 M r) (hF : Fr S M M1) : RW15 M1 r := ⟨h.1, okO_fr hF h.2.1, by rw [hF.2.2.2.1]; exact h.2.2⟩
theorem c_wk1 {B y : Nat} {M1 : Mem} (hm : MID M1) (ho : OPN B y M1) (hB : B < 16777216) {Q : Nat → Nat} (hQ : sumN Q 9331 ≤ 1000000000000) {rp rl : Nat} (r3 : mR M1 42 3 = some rp) (r4 : mR M1 42 4 = some rl) (wp : RW15 M1 rp) (wl : RW15 M1 rl) (hne : rp ≠ rl) (hJ : JR M1 rp Q) (hZ : JR M1 rl (fun _ => 0)) : TT (loopO (wk1 42) (M1, 0)) (fun M2 => Fr (Sw2 rl) M1 M2 ∧ MID M2 ∧ OPN B y M2 ∧ mI M2 49 = mI M1 49 ∧ JR M2 rp Q ∧ JR M2 rl (nxtK (mI M1 49) y Q 9331)) := by
  have kt := hm.1.2.2.1.1
  refine TT_for 9331 (fun k s => s.2 = nI k ∧ Fr (Sw2 rl) M1 s.1 ∧ MID s.1 ∧ OPN B y s.1 ∧ mI s.1 49 = mI M1 49 ∧ JR s.1 rp Q ∧ JR s.1 rl (nxtK (mI M1 49) y Q k)) ?_ (Nat.zero_le _) ⟨rfl, Fr.rf, hm, ho, rfl, hJ, hZ⟩
  rintro k ⟨M2, i⟩ hk ⟨q1, q2, q3, q4, q5, q6, q7⟩
  simp only at q1 q2 q3 q4 q5 q6 q7
  subst q1
  unfold wk1
  by_cases w : k < 9331
  · have hC2 := q3.1.1
    unfold LayC at hC2
    have e3 : mR M2 42 3 = some rp := by rw [q2.2.2.2.2.1]; exact r3
    have e4 : mR M2 42 4 = some rl := by rw [q2.2.2.2.2.1]; exact r4
    have wp2 := wp.fr q2
    have wl2 := wl.fr q2
    have op : okO M2 15 rp := wp2.2.1
    have lp : mL M2 rp = 9331 := wp2.2.2
    have hQk : Q k ≤ 1000000000000 := Nat.le_trans (sumN_ge 9331 w) hQ
    have step : nxtK (mI M1 49) y Q (k + 1) = hnd (mI M1 49) y Q k (nxtK (mI M1 49) y Q k) := rfl
    simp only [hC2, grd_T, Option.bind_some, bv, e3, eq_true op, lp]
    rw [if_neg (fun q => by rw [show (9331 : Int32) = nI 9331 from rfl] at q; have := (nleI (by omega) (by omega)).mp q; omega), grd_y ((nvp (a := k) (by omega)).mpr (by omega)), nclampI (a := k) (by omega), q6 k w, nsucc]
    have l0 : (lg_cmp (jj (Q k : Int)) 0 ≤ 0) ↔ Q k = 0 := by
      rw [show (0 : Int64) = jj 0 from jj_lit 0, lgc3 ⟨by omega, by omega⟩ R64_0]
      omega
    unfold hnd at step
    by_cases w0 : Q k = 0
    · rw [if_pos (l0.mpr w0), TT_some]
      rw [if_pos w0] at step
      exact ⟨w, rfl, q2, q3, q4, q5, q6, by rw [step]; exact q7⟩
    · rw [if_neg w0] at step
      obtain ⟨dl, dr⟩ := dR_v w
      rw [if_neg (fun q => w0 (l0.mp q)), TT_bind]
      have hla := m_listAll q3 q4 hB dl
      rw [dr] at hla
      refine hla.mono ?_
      rintro M3 ⟨m3, o3, k3, f3, l3⟩
      rw [q5] at l3
      have hlen := EDG_len (K := mI M1 49) (y := y) dl
      have hdl : ∀ cc, cc ∈ EDG (mI M1 49) y (dR k) → DL cc.1 ∧ cc.2 ≤ 99 := fun cc q => EDG_DL kt dl q
      have hsl : ∀ r i, 78 ≤ r → ¬ Sla r i := fun r i h => by unfold Sla Ssc; omega
      rw [TT_bind]
      refine (c_handOn m3.1.1 l3 hlen hdl w hQk (by rw [f3.2.2.2.2.1]; exact e3) (by rw [f3.2.2.2.2.1]; exact e4) (wp2.fr f3) (wl2.fr f3) hne (q6.fr f3 (fun i => hsl rp i wp.1)) (q7.fr f3 (fun i => hsl rl i wl.1))).mono ?_
      rintro M4 ⟨f4, j4⟩
      rw [TT_some]
      obtain ⟨m4, k4⟩ := m3.sj (wl2.fr f3) f4
      refine ⟨w, rfl, (q2.tr (f3.up (fun a i h => Or.inl h))).tr (f4.up (fun a i h => Or.inr h)), m4, o3.sj m3.2.1 (wl2.fr f3) f4, by rw [k4, k3, q5], (q6.fr f3 (fun i => hsl rp i wp.1)).fr f4 (fun i h => hne h), by rw [step]; exact j4⟩
  · have ek : k = 9331 := by omega
    subst ek
    simp only
    rw [if_pos (by decide), TT_some]
    exact ⟨q2, q3, q4, q5, q6, q7⟩
