/-! what lies between: the reference -/
def S68 (a _k : Nat) : Prop := a = 68
theorem ly68 {M : Mem} (h : LayM M) : mR M 47 38 = some 68 ∧ okO M 14 68 ∧ mL M 68 = 46 := by
  unfold LayM at h
  simp only [h, and_self]
def MDL (M : Mem) (R : List Nat) : Prop := ∀ j q, R[j]? = some q → mI M 68 j = nI (num (dR q))
theorem numR_eq {p q : Nat} (hp : p < 9331) (hq : q < 9331) : nI (num (dR p)) = nI (num (dR q)) ↔ p = q := by
  rw [num_inj (dR_v hp).1 (dR_v hq).1]
  constructor
  · intro e
    rw [← (dR_v hp).2, ← (dR_v hq).2, e]
  · intro e
    rw [e]
theorem numR_le {p q : Nat} (hp : p < 9331) (hq : q < 9331) : nI (num (dR p)) ≤ nI (num (dR q)) ↔ p ≤ q := by
  have h1 := (dR_v hp).1.num
  have h2 := (dR_v hq).1.num
  rw [nleI (by omega) (by omega)]
  have := numR_lt hq hp
  omega
noncomputable def bn1 (M : Mem) (a0 : Nat) (many k : Int32) : Int32 × Int32 → Option ((Int32 × Int32) ⊕ Int32) := (fun s31 => if many ≤ s31.2 then (some (.inr s31.1)) else (bv (fun (s40 : Int32) => bv (s31.2 + 1 : Int32) (fun x43 => some (.inl (s40, x43)))) (fun j39 => bv (fun (s45 : Unit) => j39 0) (fun j44 => if s31.1 = 0 then (j44 ()) else (Option.bind (mR M a0 38) (fun r48 => grd (okO M 14 r48) (grd (vp_in s31.2 (mL M r48)) (Option.bind (mR M a0 9) (fun r51 => grd (okO M 14 r51) (grd (vp_in k (mL M r51)) (if (mI M r48 s31.2.toNatClampNeg) = (mI M r51 k.toNatClampNeg) then (j44 ()) else (j39 1))))))))))))
noncomputable def bn2 (a0 : Nat) (k : Int32) : Mem × Int32 → Option ((Mem × Int32) ⊕ (Mem × Int32)) := (fun s60 => if s60.2 ≤ 0 then (some (.inr (s60.1, s60.2))) else (Option.bind (mR s60.1 a0 38) (fun r69 => grd (okO s60.1 14 r69) (grd (vp_in (s60.2 - 1) (mL s60.1 r69)) (Option.bind (mR s60.1 a0 9) (fun r72 => grd (okO s60.1 14 r72) (grd (vp_in k (mL s60.1 r72)) (if (mI s60.1 r69 (s60.2 - 1).toNatClampNeg) ≤ (mI s60.1 r72 k.toNatClampNeg) then (some (.inr (s60.1, s60.2))) else (Option.bind (mR s60.1 a0 38) (fun r75 => Option.bind (mR s60.1 a0 38) (fun r76 => grd (okO s60.1 14 r76) (grd (vp_in (s60.2 - 1) (mL s60.1 r76)) (grd (okO s60.1 14 r75) (grd (vp_in s60.2 (mL s60.1 r75)) (bv (wI s60.1 r75 s60.2.toNatClampNeg (mI s60.1 r76 (s60.2 - 1).toNatClampNeg)) (fun M81 => bv (s60.2 + (-1) : Int32) (fun x85 => some (.inl (M81, x85)))))))))))))))))))
noncomputable def bn0 (a0 : Nat) : Mem × Int32 × Int32 → Option ((Mem × Int32 × Int32) ⊕ (Mem × Int32)) := (fun s22 => if (mI s22.1 a0 11) ≤ s22.2.2 then (some (.inr (s22.1, s22.2.1))) else (Option.bind (loopO (bn1 s22.1 a0 s22.2.1 s22.2.2) (1, 0)) (fun (x37 : Int32) => bv (fun (s55 : Mem × Int32) => bv (s22.2.2 + 1 : Int32) (fun x59 => some (.inl (s55.1, s55.2, x59)))) (fun j54 => if x37 = 0 then (j54 (s22.1, s22.2.1)) else (Option.bind (loopO (bn2 a0 s22.2.2) (s22.1, s22.2.1)) (fun (x67 : Mem × Int32) => Option.bind (mR x67.1 a0 38) (fun r87 => Option.bind (mR x67.1 a0 9) (fun r88 => grd (okO x67.1 14 r88) (grd (vp_in s22.2.2 (mL x67.1 r88)) (grd (okO x67.1 14 r87) (grd (vp_in x67.2 (mL x67.1 r87)) (bv (wI x67.1 r87 x67.2.toNatClampNeg (mI x67.1 r88 s22.2.2.toNatClampNeg)) (fun M93 => bv (s22.2.1 + 1 : Int32) (fun x97 => j54 (M93, x97)))))))))))))))
noncomputable def bn3 (a0 : Nat) (p1 p2 many : Int32) : Mem × Int32 × Int32 → Option ((Mem × Int32 × Int32) ⊕ ((Mem × Int32) ⊕ (Mem × Int32))) := (fun s99 => if many ≤ s99.2.2 then (some (.inr (.inl (s99.1, s99.2.1)))) else (Option.bind (mR s99.1 a0 38) (fun r112 => grd (okO s99.1 14 r112) (grd (vp_in s99.2.2 (mL s99.1 r112)) (Option.bind (f_X12_fact s99.1 a0 p1 2) (fun q115 => Option.bind (f_X12_fact s99.1 a0 p1 1) (fun q118 => Option.bind (f_X12_leadsTo s99.1 a0 (mI s99.1 r112 s99.2.2.toNatClampNeg) q115 q118) (fun q121 => bv (fun (s127 : Int32) => bv (s99.2.2 + 1 : Int32) (fun x130 => some (.inl (q121.1, s127, x130)))) (fun j126 => if q121.2 = 0 then (j126 s99.2.1) else (if s99.2.1 = p2 then (some (.inr (.inr (q121.1, s99.2.2)))) else (bv (s99.2.1 + 1 : Int32) (fun x131 => j126 x131))))))))))))
theorem between12 {M : Mem} {a0 : Nat} {p1 p2 : Int32} : f_X12_between M a0 p1 p2 = grd (okO M 12 a0) (Option.bind (f_X12_isHouse M a0 p1) (fun q2 => if q2 = 0 then (some (M, (-1))) else (Option.bind (f_X12_fact M a0 p1 0) (fun q5 => if q5 = (-1) then (some (M, (-1))) else (Option.bind (f_X12_fact M a0 p1 0) (fun q8 => Option.bind (f_X12_fact M a0 q8 2) (fun q11 => Option.bind (f_X12_fact M a0 p1 1) (fun q14 => Option.bind (f_X12_lists M a0 q11 q14 0) (fun q17 => Option.bind (loopO (bn0 a0) (q17, 0, 0)) (fun (x29 : Mem × Int32) => Option.bind (loopO (bn3 a0 p1 p2 x29.2) (x29.1, 0, 0)) (Sum.elim (fun (x108 : Mem × Int32) => if p2 = (-1) then (some (x108.1, x108.2)) else (some (x108.1, (-1)))) (fun (x110 : Mem × Int32) => Option.bind (mR x110.1 a0 38) (fun r133 => grd (okO x110.1 14 r133) (grd (vp_in x110.2 (mL x110.1 r133)) (some (x110.1, mI x110.1 r133 x110.2.toNatClampNeg)))))))))))))))) := rfl
theorem r_bn1 {M : Mem} (h : LayM M) {R : List Nat} (hR : MDL M R) (hR9 : ∀ q, q ∈ R → q < 9331) (hlen : R.length ≤ 45) {k x : Nat} (hk : k < 46) (hx : x < 9331) (hx53 : mI M 53 k = nI (num (dR x))) : TT (loopO (bn1 M 47 (nI R.length) (nI k)) (1, 0)) (fun z => (z = 1 ∧ x ∉ R) ∨ (z = 0 ∧ x ∈ R)) := by
  obtain ⟨a1, a2, a3⟩ := ly68 h
  obtain ⟨n1, n2, n3⟩ := lyL h
  refine TT_for R.length (fun o s => ∃ z, s = (z, nI o) ∧ ((z = 1 ∧ ∀ j q, j < o → R[j]? = some q → q ≠ x) ∨ (z = 0 ∧ x ∈ R))) ?_ (Nat.zero_le _) ⟨1, rfl, Or.inl ⟨rfl, fun j q hj => by omega⟩⟩
  rintro o s ho ⟨z, rfl, hz⟩
  unfold bn1
  simp only
  by_cases w : o = R.length
  · rw [if_pos ((nleI (by omega) (by omega)).mpr (by omega)), TT_some]
    rcases hz with ⟨q1, q2⟩ | q
    · refine Or.inl ⟨q1, fun hm => ?_⟩
      obtain ⟨j, hj, ej⟩ := List.getElem_of_mem hm
      exact q2 j x (by omega) (by rw [List.getElem?_eq_getElem hj, ej]) rfl
    · exact Or.inr q
  · have hlt : o < R.length := by omega
    rw [if_neg (fun q => w (by have := (nleI (by omega) (by omega)).mp q; omega)), TT_bv, TT_bv]
    rcases hz with ⟨rfl, q2⟩ | ⟨rfl, q2⟩
    · have hc := List.getElem?_eq_getElem hlt
      have hcm := List.getElem_mem hlt
      generalize R[o] = r at hc hcm
      rw [if_neg (by decide), a1, Option.bind_some, grd_y a2, a3, grd_y ((nvp (by omega)).mpr (by omega)), n1, Option.bind_some, grd_y n2, n3, grd_y ((nvp (by omega)).mpr hk), nclampI (by omega), nclampI (by omega), hR o r hc, hx53]
      by_cases w2 : r = x
      · rw [if_pos ((numR_eq (hR9 r hcm) hx).mpr w2), TT_bv, TT_some]
        exact ⟨hlt, 0, by rw [nsucc], Or.inr ⟨rfl, by rw [← w2]; exact hcm⟩⟩
      · rw [if_neg (fun q => w2 ((numR_eq (hR9 r hcm) hx).mp q)), TT_bv, TT_some]
        refine ⟨hlt, 1, by rw [nsucc], Or.inl ⟨rfl, fun j q hj e => ?_⟩⟩
        by_cases z : j = o
        · subst z
          rw [hc] at e
          cases e
          exact w2
        · exact q2 j q (by omega) e
    · rw [if_pos rfl, TT_bv, TT_some]
      exact ⟨hlt, 0, by rw [nsucc], Or.inr ⟨rfl, q2⟩⟩
theorem r_bn2 {M : Mem} (h : LayM M) {R : List Nat} (hR : MDL M R) (hs : R.Pairwise (· < ·)) (hR9 : ∀ q, q ∈ R → q < 9331) (hlen : R.length ≤ 44) {k x : Nat} (hk : k < 46) (hx : x < 9331) (hx53 : mI M 53 k = nI (num (dR x))) (hxn : x ∉ R) : TT (loopO (bn2 47 (nI k)) (M, nI R.length)) (fun z => ∃ M1 at', z = (M1, nI at') ∧ at' ≤ R.length ∧ Fr S68 M M1 ∧ (∀ j q, j < at' → R[j]? = some q → mI M1 68 j = nI (num (dR q)) ∧ q < x) ∧ ∀ j q, at' ≤ j → R[j]? = some q → mI M1 68 (j + 1) = nI (num (dR q)) ∧ x < q) := by
  refine TT_for R.length (fun t s => ∃ M', s = (M', nI (R.length - t)) ∧ Fr S68 M M' ∧ (∀ j q, j < R.length - t → R[j]? = some q → mI M' 68 j = nI (num (dR q))) ∧ ∀ j q, R.length - t ≤ j → R[j]? = some q → mI M' 68 (j + 1) = nI (num (dR q)) ∧ x < q) ?_ (Nat.zero_le _) ⟨M, rfl, Fr.rf, fun j q _ e => hR j q e, fun j q hj e => by have := (List.getElem?_eq_some_iff.mp e).1; omega⟩
  rintro t s ht ⟨M', rfl, hF, h1, h2⟩
  have hM' := h.fr hF
  obtain ⟨a1, a2, a3⟩ := ly68 hM'
  obtain ⟨n1, n2, n3⟩ := lyL hM'
  unfold bn2
  simp only
  by_cases w : t = R.length
  · rw [if_pos (show nI (R.length - t) ≤ 0 from show nI (R.length - t) ≤ nI 0 from (nleI (by omega) (by omega)).mpr (by omega)), TT_some]
    exact ⟨M', R.length - t, rfl, by omega, hF, fun j q hj => by omega, h2⟩
  · have e1 : nI (R.length - t) - 1 = nI (R.length - t - 1) := by
      rw [show R.length - t = (R.length - t - 1) + 1 from by omega, nprd, Nat.add_sub_cancel]
    have hlt : R.length - t - 1 < R.length := by omega
    have hc := List.getElem?_eq_getElem hlt
    have hcm := List.getElem_mem hlt
    generalize R[R.length - t - 1] = r at hc hcm
    have hr9 := hR9 r hcm
    have e53 : mI M' 53 k = nI (num (dR x)) := by
      rw [hF.i (by unfold S68; omega)]
      exact hx53
    rw [if_neg (show ¬ nI (R.length - t) ≤ 0 from fun q : nI (R.length - t) ≤ nI 0 => by have := (nleI (by omega) (by omega)).mp q; omega), a1, Option.bind_some, grd_y a2, a3, e1, grd_y ((nvp (by omega)).mpr (by omega)), n1, Option.bind_some, grd_y n2, n3, grd_y ((nvp (by omega)).mpr hk), nclampI (a := R.length - t - 1) (by omega), nclampI (a := k) (by omega), h1 _ r (by omega) hc, e53]
    by_cases w2 : r ≤ x
    · rw [if_pos ((numR_le hr9 hx).mpr w2), TT_some]
      have hrx : r < x := Nat.lt_of_le_of_ne w2 (fun q => hxn (by rw [← q]; exact hcm))
      refine ⟨M', R.length - t, rfl, by omega, hF, fun j q hj e => ⟨h1 j q hj e, ?_⟩, h2⟩
      rcases Nat.lt_or_ge j (R.length - t - 1) with z | z
      · have := srt_lt hs e hc z
        omega
      · have : j = R.length - t - 1 := by omega
        subst this
        rw [hc] at e
        cases e
        exact hrx
    · rw [if_neg (fun q => w2 ((numR_le hr9 hx).mp q)), Option.bind_some, Option.bind_some, grd_y a2, a3, grd_y ((nvp (by omega)).mpr (by omega)), grd_y a2, grd_y ((nvp (by omega)).mpr (by omega)), nclampI (a := R.length - t) (by omega), TT_bv, TT_bv, TT_some, h1 _ r (by omega) hc]
      refine ⟨by omega, _, by rw [ladd, e1, Nat.sub_sub], hF.wI rfl, fun j q hj e => ?_, fun j q hj e => ?_⟩
      · rw [mI_wI, if_neg (by omega)]
        exact h1 j q (by omega) e
      · rw [mI_wI]
        by_cases z : j = R.length - t - 1
        · subst z
          rw [hc] at e
          cases e
          rw [if_pos ⟨rfl, by omega⟩]
          exact ⟨rfl, by omega⟩
        · rw [if_neg (by omega)]
          exact h2 j q (by omega) e
theorem ins_get {R : List Nat} {at' x j : Nat} (h : at' ≤ R.length) : (R.take at' ++ x :: R.drop at')[j]? = if j < at' then R[j]? else if j = at' then some x else R[j - 1]? := by
  have hl : (R.take at').length = at' := by rw [List.length_take]; omega
  by_cases w : j < at'
  · rw [if_pos w, List.getElem?_append_left (by omega), List.getElem?_take, if_pos w]
  · rw [if_neg w, List.getElem?_append_right (by omega), hl]
    by_cases w2 : j = at'
    · rw [if_pos w2, w2, Nat.sub_self]
      rfl
    · rw [if_neg w2, show j - at' = (j - at' - 1) + 1 from by omega, List.getElem?_cons_succ, List.getElem?_drop]
      congr 1
      omega
theorem r_bn0 {M : Mem} (h : LayM M) {L : List (List Nat × Nat)} (hL : LSTS 0 M L) (hlen : L.length ≤ 45) (hd : ∀ c, c ∈ L → DL c.1) : TT (loopO (bn0 47) (M, 0, 0)) (fun z => ∃ M1 R, z = (M1, nI R.length) ∧ Fr S68 M M1 ∧ MDL M1 R ∧ R.Pairwise (· < ·) ∧ R.length ≤ 45 ∧ ∀ q, q ∈ R ↔ ∃ c, c ∈ L ∧ rank c.1 = q) := by
  refine TT_for L.length (fun k s => ∃ M' R, s = (M', nI R.length, nI k) ∧ Fr S68 M M' ∧ MDL M' R ∧ R.Pairwise (· < ·) ∧ R.length ≤ k ∧ ∀ q, q ∈ R ↔ ∃ j c, j < k ∧ L[j]? = some c ∧ rank c.1 = q) ?_ (Nat.zero_le _) ⟨M, [], rfl, Fr.rf, (fun j q e => by simp at e), List.Pairwise.nil, Nat.le_refl _, fun q => ⟨fun z => by simp at z, fun ⟨j, c, z, _⟩ => by omega⟩⟩
  rintro k s hk ⟨M', R, rfl, hF, hM, hs, hl, hm⟩
  have hM' := h.fr hF
  obtain ⟨a1, a2, a3⟩ := ly68 hM'
  obtain ⟨n1, n2, n3⟩ := lyL hM'
  have e11 : mI M' 47 11 = nI L.length := by
    rw [hF.i (by unfold S68; omega)]
    exact hL.1
  have hR9 : ∀ q, q ∈ R → q < 9331 := fun q hq => by
    obtain ⟨j, c, _, h2, h3⟩ := (hm q).mp hq
    rw [← h3]
    exact rank_lt (hd c (List.mem_of_getElem? h2))
  unfold bn0
  simp only
  rw [e11]
  by_cases w : k = L.length
  · rw [if_pos ((nleI (by omega) (by omega)).mpr (by omega)), TT_some]
    refine ⟨M', R, rfl, hF, hM, hs, by omega, fun q => (hm q).trans ⟨?_, ?_⟩⟩
    · rintro ⟨j, c, _, h2, h3⟩
      exact ⟨c, List.mem_of_getElem? h2, h3⟩
    · rintro ⟨c, hc, h3⟩
      obtain ⟨j, hj, ej⟩ := List.getElem_of_mem hc
      exact ⟨j, c, by omega, by rw [List.getElem?_eq_getElem hj, ej], h3⟩
  · have hlt : k < L.length := by omega
    have hc := List.getElem?_eq_getElem hlt
    have hcm := List.getElem_mem hlt
    generalize L[k] = c at hc hcm
    have hdc := hd c hcm
    have hx := rank_lt hdc
    have e53 : mI M' 53 k = nI (num (dR (rank c.1))) := by
      rw [hF.i (by unfold S68; omega), dR_rank hdc]
      exact (hL.2 k c hc).1
    rw [if_neg (fun q => w (by have := (nleI (by omega) (by omega)).mp q; omega)), TT_bind]
    refine (r_bn1 hM' hM hR9 (by omega) (by omega) hx e53).mono ?_
    have hmk : ∀ R' : List Nat, (∀ q, q ∈ R' ↔ (q ∈ R ∨ q = rank c.1)) → ∀ q, q ∈ R' ↔ ∃ j c, j < k + 1 ∧ L[j]? = some c ∧ rank c.1 = q := fun R' hR' q => by
      rw [hR', hm]
      constructor
      · rintro (⟨j, c', q1, q2, q3⟩ | q)
        · exact ⟨j, c', by omega, q2, q3⟩
        · exact ⟨k, c, by omega, hc, q.symm⟩
      · rintro ⟨j, c', q1, q2, q3⟩
        by_cases z : j = k
        · subst z
          rw [hc] at q2
          cases q2
          exact Or.inr q3.symm
        · exact Or.inl ⟨j, c', by omega, q2, q3⟩
    rintro z (⟨rfl, hxn⟩ | ⟨rfl, hxi⟩)
    · rw [TT_bv, if_neg (by decide), TT_bind]
      refine (r_bn2 hM' hM hs hR9 (by omega) (by omega) hx e53 hxn).mono ?_
      rintro z ⟨M2, at', rfl, hat, f2, g1, g2⟩
      have hM2 := hM'.fr f2
      obtain ⟨b1', b2, b3⟩ := ly68 hM2
      obtain ⟨m1, m2, m3⟩ := lyL hM2
      simp only
      rw [b1', Option.bind_some, m1, Option.bind_some, grd_y m2, m3, grd_y ((nvp (by omega)).mpr (by omega)), grd_y b2, b3, grd_y ((nvp (by omega)).mpr (by omega)), nclampI (a := at') (by omega), nclampI (a := k) (by omega), f2.i (by unfold S68; omega), e53, TT_bv, TT_bv, TT_bv, TT_some]
      have hll : (R.take at' ++ rank c.1 :: R.drop at').length = R.length + 1 := by
        simp only [List.length_append, List.length_take, List.length_cons, List.length_drop]
        omega
      refine ⟨hlt, _, R.take at' ++ rank c.1 :: R.drop at', by rw [hll, nsucc, nsucc], (hF.tr f2).wI rfl, fun j q e => ?_, ?_, by rw [hll]; omega, hmk _ (fun q => ?_)⟩
      · rw [ins_get hat] at e
        rw [mI_wI]
        by_cases z1 : j < at'
        · rw [if_pos z1] at e
          rw [if_neg (by omega)]
          exact (g1 j q z1 e).1
        · rw [if_neg z1] at e
          by_cases z2 : j = at'
          · rw [if_pos z2] at e
            cases e
            rw [if_pos ⟨rfl, z2⟩]
          · rw [if_neg z2] at e
            rw [if_neg (by omega)]
            have := (g2 (j - 1) q (by omega) e).1
            rw [show j - 1 + 1 = j from by omega] at this
            exact this
      · rw [List.pairwise_append, List.pairwise_cons]
        have lo : ∀ q, q ∈ R.take at' → q < rank c.1 := fun q hq => by
          obtain ⟨j, hj, ej⟩ := List.getElem_of_mem hq
          have e : (R.take at')[j]? = some q := by rw [List.getElem?_eq_getElem hj, ej]
          rw [List.getElem?_take] at e
          split at e
          · rename_i z
            exact (g1 j q z e).2
          · cases e
        have hi : ∀ q, q ∈ R.drop at' → rank c.1 < q := fun q hq => by
          obtain ⟨j, hj, ej⟩ := List.getElem_of_mem hq
          have e : (R.drop at')[j]? = some q := by rw [List.getElem?_eq_getElem hj, ej]
          rw [List.getElem?_drop] at e
          exact (g2 _ q (by omega) e).2
        refine ⟨hs.sublist (List.take_sublist _ _), ⟨hi, hs.sublist (List.drop_sublist _ _)⟩, fun a ha b hb => ?_⟩
        rcases List.mem_cons.mp hb with z | z
        · rw [z]
          exact lo a ha
        · have := lo a ha
          have := hi b z
          omega
      · rw [List.mem_append, List.mem_cons]
        have hsp : q ∈ R ↔ (q ∈ R.take at' ∨ q ∈ R.drop at') := by
          rw [← List.mem_append, List.take_append_drop]
        rw [hsp]
        constructor
        · rintro (z | z | z)
          · exact Or.inl (Or.inl z)
          · exact Or.inr z
          · exact Or.inl (Or.inr z)
        · rintro ((z | z) | z)
          · exact Or.inl z
          · exact Or.inr (Or.inr z)
          · exact Or.inr (Or.inl z)
    · rw [TT_bv, if_pos rfl, TT_bv, TT_some]
      refine ⟨hlt, M', R, by rw [nsucc], hF, hM, hs, by omega, hmk R (fun q => ⟨fun z => Or.inl z, fun z => ?_⟩)⟩
      rcases z with z | z
      · exact z
      · rw [z]
        exact hxi
