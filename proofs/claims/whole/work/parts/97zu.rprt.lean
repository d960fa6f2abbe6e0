/-! chances: the reference -/
noncomputable def pt6 (a0 : Nat) : Mem × Int32 → Option ((Mem × Int32) ⊕ (Mem)) := (fun s145 => if 9331 ≤ s145.2 then (some (.inr s145.1)) else (Option.bind (mR s145.1 a0 44) (fun r154 => Option.bind (mR s145.1 a0 45) (fun r155 => grd (okO s145.1 15 r155) (grd (vp_in s145.2 (mL s145.1 r155)) (grd (okO s145.1 15 r154) (grd (vp_in s145.2 (mL s145.1 r154)) (bv (wJ s145.1 r154 s145.2.toNatClampNeg (mJ s145.1 r155 s145.2.toNatClampNeg)) (fun M160 => bv (s145.2 + 1 : Int32) (fun x164 => some (.inl (M160, x164))))))))))))
noncomputable def pt5 (x91 : Int32) (s56 : Mem × Int32) (a0 : Nat) : Mem × Int32 → Option ((Mem × Int32) ⊕ (Mem)) := (fun s103 => if (mI s103.1 a0 11) ≤ s103.2 then (some (.inr s103.1)) else (if x91 ≤ 0 then (some (.inr s103.1)) else (Option.bind (mR s103.1 a0 45) (fun r112 => Option.bind (mR s103.1 a0 9) (fun r113 => grd (okO s103.1 14 r113) (grd (vp_in s103.2 (mL s103.1 r113)) (Option.bind (f_X12_placeOf (mI s103.1 r113 s103.2.toNatClampNeg)) (fun q116 => grd (okO s103.1 15 r112) (grd (vp_in q116 (mL s103.1 r112)) (Option.bind (mR s103.1 a0 44) (fun r121 => grd (okO s103.1 15 r121) (grd (vp_in s56.2 (mL s103.1 r121)) (Option.bind (mR s103.1 a0 10) (fun r124 => grd (okO s103.1 14 r124) (grd (vp_in s103.2 (mL s103.1 r124)) (grd (¬ x91.toInt64 = 0) (bv (wJ s103.1 r112 q116.toNatClampNeg ((mJ s103.1 r112 q116.toNatClampNeg) + (((mJ s103.1 r121 s56.2.toNatClampNeg) * ((mI s103.1 r124 s103.2.toNatClampNeg).toInt64)) / x91.toInt64))) (fun M128 => bv (s103.2 + 1 : Int32) (fun x132 => some (.inl (M128, x132)))))))))))))))))))))
noncomputable def pt3 (a0 : Nat) : Mem × Int32 → Option ((Mem × Int32) ⊕ (Mem)) := (fun s56 => if 9331 ≤ s56.2 then (some (.inr s56.1)) else (Option.bind (mR s56.1 a0 44) (fun r65 => grd (okO s56.1 15 r65) (grd (vp_in s56.2 (mL s56.1 r65)) (bv (fun (s69 : Mem) => bv (s56.2 + 1 : Int32) (fun x73 => some (.inl (s69, x73)))) (fun j68 => if (lg_cmp (mJ s56.1 r65 s56.2.toNatClampNeg) 0) = 0 then (j68 s56.1) else (Option.bind (f_X12_dishAt s56.2) (fun q74 => Option.bind (mR s56.1 a0 3) (fun r77 => grd (okO s56.1 14 r77) (grd (vp_in 54 (mL s56.1 r77)) (Option.bind (f_X12_lists s56.1 a0 q74 (mI s56.1 r77 (54 : Int32).toNatClampNeg) 1) (fun q80 => Option.bind (loopO (lrS q80 a0) (0, 0)) (fun (x91 : Int32) => bv (fun (s99 : Mem) => Option.bind (loopO (pt5 x91 s56 a0) (s99, 0)) (fun (x110 : Mem) => j68 x110)) (fun j98 => if x91 = 0 then (Option.bind (mR q80 a0 45) (fun r134 => grd (okO q80 15 r134) (grd (vp_in s56.2 (mL q80 r134)) (Option.bind (mR q80 a0 44) (fun r137 => grd (okO q80 15 r137) (grd (vp_in s56.2 (mL q80 r137)) (bv (wJ q80 r134 s56.2.toNatClampNeg ((mJ q80 r134 s56.2.toNatClampNeg) + (mJ q80 r137 s56.2.toNatClampNeg))) (fun M140 => j98 M140)))))))) else (j98 q80)))))))))))))))
noncomputable def pt2 (a0 : Nat) : Mem × Int32 → Option ((Mem × Int32) ⊕ (Mem)) := (fun s38 => if 9331 ≤ s38.2 then (some (.inr s38.1)) else (Option.bind (mR s38.1 a0 45) (fun r47 => grd (okO s38.1 15 r47) (grd (vp_in s38.2 (mL s38.1 r47)) (bv (wJ s38.1 r47 s38.2.toNatClampNeg 0) (fun M50 => bv (s38.2 + 1 : Int32) (fun x54 => some (.inl (M50, x54)))))))))
noncomputable def pt1 (p2 : Int32) (a0 : Nat) : Mem × Int32 → Option ((Mem × Int32) ⊕ (Mem)) := (fun s29 => if p2 ≤ s29.2 then (some (.inr s29.1)) else (Option.bind (loopO (pt2 a0) (s29.1, 0)) (fun (x45 : Mem) => Option.bind (loopO (pt3 a0) (x45, 0)) (fun (x63 : Mem) => Option.bind (loopO (pt6 a0) (x63, 0)) (fun (x152 : Mem) => bv (s29.2 + 1 : Int32) (fun x166 => some (.inl (x152, x166))))))))
noncomputable def pt0 (a0 : Nat) : Mem × Int32 → Option ((Mem × Int32) ⊕ (Mem)) := (fun s1 => if 9331 ≤ s1.2 then (some (.inr s1.1)) else (grd (okO s1.1 12 a0) (Option.bind (mR s1.1 a0 44) (fun r10 => grd (okO s1.1 15 r10) (grd (vp_in s1.2 (mL s1.1 r10)) (bv (wJ s1.1 r10 s1.2.toNatClampNeg 0) (fun M13 => bv (s1.2 + 1 : Int32) (fun x17 => some (.inl (M13, x17))))))))))
theorem parts_eq {M : Mem} {a0 : Nat} {p1 p2 : Int32} : f_X12_parts M a0 p1 p2 = Option.bind (loopO (pt0 a0) (M, 0)) (fun (x7 : Mem) => grd (okO x7 12 a0) (Option.bind (mR x7 a0 44) (fun r19 => Option.bind (f_X12_placeOf p1) (fun q20 => grd (okO x7 15 r19) (grd (vp_in q20 (mL x7 r19)) (bv (wJ x7 r19 q20.toNatClampNeg 1000000000000) (fun M25 => Option.bind (loopO (pt1 p2 a0) (M25, 0)) (fun (x36 : Mem) => some x36)))))))) := rfl
def JR (M : Mem) (r : Nat) (T : Nat → Nat) : Prop := ∀ p, p < 9331 → mJ M r p = jj (T p : Int)
def S75 (a _k : Nat) : Prop := a = 75
def Spr (a k : Nat) : Prop := Srv a k ∨ a = 74 ∨ a = 75
theorem JR.fr {S : Nat → Nat → Prop} {M M1 : Mem} {r : Nat} {T : Nat → Nat} (h : JR M r T) (hF : Fr S M M1) (hs : ∀ k, ¬ S r k) : JR M1 r T := fun p hp => by
  rw [hF.j (hs p)]
  exact h p hp
theorem JR.w {M : Mem} {r p v : Nat} {T : Nat → Nat} (h : JR M r T) (hp : p < 9331) : JR (wJ M r p (jj ((T p + v : Nat) : Int))) r (put1 T p v) := fun x hx => by
  rw [mJ_wJ]
  unfold put1
  by_cases w : x = p
  · rw [if_pos ⟨rfl, w⟩, if_pos w, w]
  · rw [if_neg (fun q => w q.2), if_neg w]
    exact h x hx
theorem r_pt5 {M0 M1 : Mem} (hM : LayM M1) {L : List (List Nat × Nat)} (hL : LSTS 1 M1 L) (hlen : L.length ≤ 45) (hd : ∀ c ∈ L, DL c.1 ∧ c.2 ≤ 99) {Q T : Nat → Nat} {p S : Nat} (hp : p < 9331) (hq : Q p ≤ 1000000000000) (hS : S < 2147483648) (hS0 : 0 < S) (h74 : JR M1 74 Q) (h75 : JR M1 75 T) : TT (loopO (pt5 (nI S) (M0, nI p) 47) (M1, 0)) (fun M2 => Fr S75 M1 M2 ∧ JR M2 75 (hndL (Q p) S L T)) := by
  obtain ⟨l1, l3⟩ := hL
  refine TT_for L.length (fun k s => s.2 = nI k ∧ Fr S75 M1 s.1 ∧ JR s.1 75 (hndL (Q p) S (L.take k) T)) ?_ (Nat.zero_le _) ⟨rfl, Fr.rf, h75⟩
  rintro k ⟨M2, i⟩ hk ⟨q1, q2, q3⟩
  simp only at q1 q2 q3
  subst q1
  have hM2 := hM.fr q2
  unfold LayM at hM2
  unfold pt5
  simp only [hM2, grd_T, Option.bind_some, bv]
  rw [q2.i (by unfold S75; omega), l1]
  by_cases w : k < L.length
  · have ek := List.getElem?_eq_getElem w
    obtain ⟨d1, d2⟩ := hd _ (List.getElem_mem w)
    have hr := rank_lt d1
    rw [if_neg (fun q => by have := (nleI (by omega) (by omega)).mp q; omega), if_neg (fun q => by rw [show (0 : Int32) = nI 0 from rfl] at q; have := (nleI (by omega) (by omega)).mp q; omega), grd_y ((nvp (a := k) (by omega)).mpr (by omega)), nclampI (a := k) (by omega), q2.i (a := 53) (by unfold S75; omega), (l3 k _ ek).1, p_placeOf d1, Option.bind_some, grd_y ((nvp (a := rank L[k].1) (by omega)).mpr (by omega)), grd_y ((nvp (a := p) (by omega)).mpr (by omega)), grd_y ((nvp (a := k) (by omega)).mpr (by omega)), grd_y (fun q => by
      rw [nI_j hS, show (0 : Int64) = jj 0 from jj_lit 0] at q
      have := (jj_inj (show R64 (S : Int) from ⟨by omega, by omega⟩) R64_0).mp q
      omega), nclampI (a := rank L[k].1) (by omega), nclampI (a := p) (by omega), q3 _ (by omega), q2.j (a := 74) (by unfold S75; omega), h74 p hp, q2.i (a := 54) (by unfold S75; omega), (l3 k _ ek).2, show wv 1 L[k].2 = nI L[k].2 from by unfold wv; rw [if_neg (by decide)], jj_hand hq d2 hS, nsucc, TT_some]
    refine ⟨w, rfl, q2.wJ rfl, ?_⟩
    rw [hndL_split L T k _ ek]
    exact q3.w (by omega)
  · rw [if_pos ((nleI (by omega) (by omega)).mpr (by omega)), TT_some]
    rw [List.take_of_length_le (by omega)] at q3
    exact ⟨q2, q3⟩
theorem r_pt5_0 {M0 M1 : Mem} {p : Nat} : TT (loopO (pt5 (nI 0) (M0, nI p) 47) (M1, 0)) (fun M2 => M2 = M1) := by
  refine TT_for 0 (fun _ s => s.1 = M1) ?_ (Nat.zero_le _) rfl
  rintro k ⟨M2, i⟩ hk e
  simp only at e
  subst e
  unfold pt5
  simp only
  by_cases w : mI M2 47 11 ≤ i
  · rw [if_pos w, TT_some]
    rfl
  · rw [if_neg w, if_pos (show nI 0 ≤ 0 by decide), TT_some]
    rfl
/-- the state of the reference while chances are worked out -/
def RPI (M M' : Mem) : Prop := Fr Spr M M' ∧ MID M' ∧ mI M' 49 = mI M 49
theorem RPI.go {M M1 M2 : Mem} {S : Nat → Nat → Prop} (h : RPI M M1) (hF : Fr S M1 M2) (hs : ∀ a k, S a k → Spr a k) : RPI M M2 := by
  obtain ⟨h1, h2, h3⟩ := h
  obtain ⟨m1, m2⟩ := h2.fr (hF.up hs) (fun a k w => by
    rcases w with w | w | w
    · unfold Srv at w; unfold Frl; omega
    · unfold Frl; omega
    · unfold Frl; omega)
  exact ⟨h1.tr (hF.up hs), m1, m2.trans h3⟩
theorem r_pt3 {M M0 : Mem} {y : Nat} (hy : y ≤ 999) (h54 : mI M 49 54 = nI y) {Q : Nat → Nat} (hQ : sumN Q 9331 ≤ 1000000000000) (h0 : RPI M M0) (h74 : JR M0 74 Q) (h75 : JR M0 75 (fun _ => 0)) : TT (loopO (pt3 47) (M0, 0)) (fun M1 => RPI M M1 ∧ JR M1 74 Q ∧ JR M1 75 (nxtK (mI M 49) y Q 9331)) := by
  refine TT_for 9331 (fun k s => s.2 = nI k ∧ RPI M s.1 ∧ JR s.1 74 Q ∧ JR s.1 75 (nxtK (mI M 49) y Q k)) ?_ (Nat.zero_le _) ⟨rfl, h0, h74, h75⟩
  rintro k ⟨M1, i⟩ hk ⟨q1, ⟨q2, q3, q4⟩, q5, q6⟩
  simp only at q1 q2 q3 q4 q5 q6
  subst q1
  unfold pt3
  by_cases w : k < 9331
  · have kt : KTH (mI M 49) := by
      have := q3.1.2.2.1.1
      rw [q4] at this
      exact this
    have hM1 := q3.1.2.1
    have hM12 := hM1
    unfold LayM at hM12
    have c54 : (54 : Int32).toNatClampNeg = 54 := by decide
    have g54 : vp_in 54 5666 := show vp_in (nI 54) 5666 from (nvp (by omega)).mpr (by omega)
    have hQk : Q k ≤ 1000000000000 := Nat.le_trans (sumN_ge 9331 w) hQ
    simp only [hM12, grd_T, Option.bind_some, bv, c54]
    rw [if_neg (fun q => by rw [show (9331 : Int32) = nI 9331 from rfl] at q; have := (nleI (by omega) (by omega)).mp q; omega), grd_y ((nvp (a := k) (by omega)).mpr (by omega)), nclampI (a := k) (by omega), q5 k w, nsucc]
    have step : nxtK (mI M 49) y Q (k + 1) = hnd (mI M 49) y Q k (nxtK (mI M 49) y Q k) := rfl
    have l0 : (lg_cmp (jj (Q k : Int)) 0 = 0) ↔ Q k = 0 := by
      rw [show (0 : Int64) = jj 0 from jj_lit 0, lgc0 ⟨by omega, by omega⟩ R64_0]
      omega
    unfold hnd at step
    by_cases w0 : Q k = 0
    · rw [if_pos (l0.mpr w0), TT_some]
      rw [if_pos w0] at step
      exact ⟨w, rfl, ⟨q2, q3, q4⟩, q5, by rw [step]; exact q6⟩
    · rw [if_neg w0] at step
      obtain ⟨dl, dr⟩ := dR_v w
      rw [if_neg (fun q => w0 (l0.mp q)), dR_at w, Option.bind_some, grd_y g54, q4, h54, TT_bind]
      refine (r_listsK q3 dl hy).mono ?_
      rintro M2 ⟨m2, k2, f2, l2⟩
      rw [q4] at l2
      have hlen := EDG_len (K := mI M 49) (y := y) dl
      have hdl : ∀ cc, cc ∈ EDG (mI M 49) y (dR k) → DL cc.1 ∧ cc.2 ≤ 99 := fun cc q => EDG_DL kt dl q
      have hsum := sumW_le (fun cc q => (hdl cc q).2)
      have hR2 : RPI M M2 := RPI.go ⟨q2, q3, q4⟩ f2 (fun a k w => Or.inl (Sls_rv a k w))
      have j74 : JR M2 74 Q := q5.fr f2 (fun k => by rw [Sls_iff]; omega)
      have j75 : JR M2 75 (nxtK (mI M 49) y Q k) := q6.fr f2 (fun k => by rw [Sls_iff]; omega)
      have hM3 := m2.1.2.1
      have hM32 := hM3
      unfold LayM at hM32
      generalize EDG (mI M 49) y (dR k) = L at *
      rw [r_sumW hM3 l2 hlen (fun cc q => (hdl cc q).2), Option.bind_some]
      simp only [hM32, grd_T, Option.bind_some]
      by_cases ws : sumW L = 0
      · rw [if_pos ws] at step
        rw [ws, if_pos (show nI 0 = 0 from rfl), grd_y ((nvp (a := k) (by omega)).mpr (by omega)), j75 k w, j74 k w, jj_add, show ((nxtK (mI M 49) y Q k k : Nat) : Int) + ((Q k : Nat) : Int) = ((nxtK (mI M 49) y Q k k + Q k : Nat) : Int) from by simp, grd_y ((nvp (a := k) (by omega)).mpr (by omega)), TT_bind]
        refine (r_pt5_0).mono ?_
        rintro M4 rfl
        rw [TT_some]
        have hF4 : Fr S75 M2 (wJ M2 75 k (jj ((nxtK (mI M 49) y Q k k + Q k : Nat) : Int))) := Fr.rf.wJ rfl
        exact ⟨w, rfl, hR2.go hF4 (fun a k w => Or.inr (Or.inr w)), j74.fr hF4 (fun k => by unfold S75; omega), by rw [step]; exact j75.w w⟩
      · rw [if_neg ws] at step
        rw [if_neg (fun (q : nI (sumW L) = 0) => ws ((neqI (by omega) (by omega)).mp (show nI (sumW L) = nI 0 from q))), TT_bind]
        refine (r_pt5 hM3 l2 hlen hdl w hQk (by omega) (by omega) j74 j75).mono ?_
        rintro M4 ⟨f4, j4⟩
        rw [TT_some]
        exact ⟨w, rfl, hR2.go f4 (fun a k w => Or.inr (Or.inr w)), j74.fr f4 (fun k => by unfold S75; omega), by rw [step]; exact j4⟩
  · have ek : k = 9331 := by omega
    subst ek
    simp only
    rw [if_pos (by decide), TT_some]
    exact ⟨⟨q2, q3, q4⟩, q5, q6⟩
def S74 (a _k : Nat) : Prop := a = 74
theorem jj0 : (0 : Int64) = jj ((0 : Nat) : Int) := jj_lit 0
theorem r_pt0 {M : Mem} (hM : LayM M) : TT (loopO (pt0 47) (M, 0)) (fun M1 => Fr S74 M M1 ∧ JR M1 74 (fun _ => 0)) := by
  refine TT_for 9331 (fun k s => s.2 = nI k ∧ Fr S74 M s.1 ∧ ∀ p, p < k → mJ s.1 74 p = jj ((0 : Nat) : Int)) ?_ (Nat.zero_le _) ⟨rfl, Fr.rf, fun p hp => by omega⟩
  rintro k ⟨M1, i⟩ hk ⟨q1, q2, q3⟩
  simp only at q1 q2 q3
  subst q1
  have hM1 := hM.fr q2
  unfold LayM at hM1
  unfold pt0
  simp only [hM1, grd_T, Option.bind_some, bv]
  by_cases w : k < 9331
  · rw [if_neg (fun q => by rw [show (9331 : Int32) = nI 9331 from rfl] at q; have := (nleI (by omega) (by omega)).mp q; omega), grd_y ((nvp (a := k) (by omega)).mpr (by omega)), nclampI (a := k) (by omega), nsucc, TT_some]
    refine ⟨w, rfl, q2.wJ rfl, fun p hp => ?_⟩
    rw [mJ_wJ]
    by_cases e : p = k
    · rw [if_pos ⟨rfl, e⟩]
      exact jj0
    · rw [if_neg (fun q => e q.2)]
      exact q3 p (by omega)
  · have ek : k = 9331 := by omega
    subst ek
    rw [if_pos (by decide), TT_some]
    exact ⟨q2, q3⟩
theorem r_pt2 {M : Mem} (hM : LayM M) : TT (loopO (pt2 47) (M, 0)) (fun M1 => Fr S75 M M1 ∧ JR M1 75 (fun _ => 0)) := by
  refine TT_for 9331 (fun k s => s.2 = nI k ∧ Fr S75 M s.1 ∧ ∀ p, p < k → mJ s.1 75 p = jj ((0 : Nat) : Int)) ?_ (Nat.zero_le _) ⟨rfl, Fr.rf, fun p hp => by omega⟩
  rintro k ⟨M1, i⟩ hk ⟨q1, q2, q3⟩
  simp only at q1 q2 q3
  subst q1
  have hM1 := hM.fr q2
  unfold LayM at hM1
  unfold pt2
  simp only [hM1, grd_T, Option.bind_some, bv]
  by_cases w : k < 9331
  · rw [if_neg (fun q => by rw [show (9331 : Int32) = nI 9331 from rfl] at q; have := (nleI (by omega) (by omega)).mp q; omega), grd_y ((nvp (a := k) (by omega)).mpr (by omega)), nclampI (a := k) (by omega), nsucc, TT_some]
    refine ⟨w, rfl, q2.wJ rfl, fun p hp => ?_⟩
    rw [mJ_wJ]
    by_cases e : p = k
    · rw [if_pos ⟨rfl, e⟩]
      exact jj0
    · rw [if_neg (fun q => e q.2)]
      exact q3 p (by omega)
  · have ek : k = 9331 := by omega
    subst ek
    rw [if_pos (by decide), TT_some]
    exact ⟨q2, q3⟩
theorem r_pt6 {M : Mem} (hM : LayM M) {T : Nat → Nat} (h75 : JR M 75 T) : TT (loopO (pt6 47) (M, 0)) (fun M1 => Fr S74 M M1 ∧ JR M1 74 T) := by
  refine TT_for 9331 (fun k s => s.2 = nI k ∧ Fr S74 M s.1 ∧ ∀ p, p < k → mJ s.1 74 p = jj (T p : Int)) ?_ (Nat.zero_le _) ⟨rfl, Fr.rf, fun p hp => by omega⟩
  rintro k ⟨M1, i⟩ hk ⟨q1, q2, q3⟩
  simp only at q1 q2 q3
  subst q1
  have hM1 := hM.fr q2
  unfold LayM at hM1
  unfold pt6
  simp only [hM1, grd_T, Option.bind_some, bv]
  by_cases w : k < 9331
  · rw [if_neg (fun q => by rw [show (9331 : Int32) = nI 9331 from rfl] at q; have := (nleI (by omega) (by omega)).mp q; omega), grd_y ((nvp (a := k) (by omega)).mpr (by omega)), nclampI (a := k) (by omega), nsucc]
    rw [grd_y ((nvp (a := k) (by omega)).mpr (by omega)), q2.j (a := 75) (by unfold S74; omega), h75 k w, TT_some]
    refine ⟨w, rfl, q2.wJ rfl, fun p hp => ?_⟩
    rw [mJ_wJ]
    by_cases e : p = k
    · rw [if_pos ⟨rfl, e⟩, e]
    · rw [if_neg (fun q => e q.2)]
      exact q3 p (by omega)
  · have ek : k = 9331 := by omega
    subst ek
    rw [if_pos (by decide), TT_some]
    exact ⟨q2, q3⟩
theorem r_parts {M : Mem} (h : MID M) {y : Nat} (hy : y ≤ 999) (h54 : mI M 49 54 = nI y) {l : List Nat} (hl : DL l) {n : Nat} (hn : n ≤ 3) : TT (f_X12_parts M 47 (nI (num l)) (nI n)) (fun M1 => RPI M M1 ∧ JR M1 74 (PRT (mI M 49) y l n)) := by
  have kt := h.1.2.2.1.1
  have hM := h.1.2.1
  have h0 : RPI M M := ⟨Fr.rf, h, rfl⟩
  rw [parts_eq, TT_bind]
  refine (r_pt0 hM).mono ?_
  rintro M1 ⟨f1, j1⟩
  have hR1 := h0.go f1 (fun a k w => Or.inr (Or.inl w))
  have hM1 := hR1.2.1.1.2.1
  unfold LayM at hM1
  have hr := rank_lt hl
  simp only [hM1, grd_T, Option.bind_some, bv]
  rw [p_placeOf hl, Option.bind_some, grd_y ((nvp (by omega)).mpr (by omega)), nclampI (by omega)]
  have e12 : jj ((0 + 1000000000000 : Nat) : Int) = (1000000000000 : Int64) := by
    rw [Nat.zero_add]
    exact (jj_lit 1000000000000).symm
  have j2 := j1.w (v := 1000000000000) hr
  simp only [e12] at j2
  have hF2 : Fr S74 M1 (wJ M1 74 (rank l) 1000000000000) := Fr.rf.wJ rfl
  have hR2 := hR1.go hF2 (fun a k w => Or.inr (Or.inl w))
  generalize wJ M1 74 (rank l) 1000000000000 = M2 at *
  rw [TT_bind]
  refine TT.mono (Q := fun M3 => RPI M M3 ∧ JR M3 74 (PRT (mI M 49) y l n)) ?_ (fun M3 q => ⟨_, rfl, q⟩)
  refine TT_for n (fun k s => s.2 = nI k ∧ RPI M s.1 ∧ JR s.1 74 (PRT (mI M 49) y l k)) ?_ (Nat.zero_le _) ⟨rfl, hR2, by rw [PRT]; exact j2⟩
  rintro k ⟨M3, i⟩ hk ⟨q1, q2, q3⟩
  simp only at q1 q2 q3
  subst q1
  unfold pt1
  simp only
  by_cases w : k < n
  · rw [if_neg (fun q => by have := (nleI (by omega) (by omega)).mp q; omega), TT_bind]
    refine (r_pt2 q2.2.1.1.2.1).mono ?_
    rintro M4 ⟨f4, j4⟩
    have hR4 := q2.go f4 (fun a k w => Or.inr (Or.inr w))
    rw [TT_bind]
    refine (r_pt3 hy h54 (PRT_sum kt hl k) hR4 (q3.fr f4 (fun k => by unfold S75; omega)) j4).mono ?_
    rintro M5 ⟨hR5, j5, j5b⟩
    rw [TT_bind]
    refine (r_pt6 hR5.2.1.1.2.1 j5b).mono ?_
    rintro M6 ⟨f6, j6⟩
    simp only [bv]
    rw [nsucc, TT_some]
    have ep : PRT (mI M 49) y l (k + 1) = nxtK (mI M 49) y (PRT (mI M 49) y l k) 9331 := by rw [PRT]
    refine ⟨w, rfl, hR5.go f6 (fun a k w => Or.inr (Or.inl w)), ?_⟩
    rw [ep]
    exact j6
  · have ek : k = n := by omega
    subst ek
    rw [if_pos ((nleI (by omega) (by omega)).mpr (by omega)), TT_some]
    exact ⟨q2, q3⟩
