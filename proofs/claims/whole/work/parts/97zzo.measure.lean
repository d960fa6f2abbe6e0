/-! STEPS from a DISH: the reference -/
def fI : Option Nat → Int32
  | none => nI 1000000
  | some d => nI d
theorem fI_far {o : Option Nat} (h : ∀ d, o = some d → d < 9331) : (1000000 : Int32) ≤ fI o ↔ o = none := by
  cases o with
  | none => exact ⟨fun _ => rfl, fun _ => show (nI 1000000 : Int32) ≤ nI 1000000 from (nleI (by omega) (by omega)).mpr (Nat.le_refl _)⟩
  | some d =>
    have := h d rfl
    show (nI 1000000 : Int32) ≤ nI d ↔ _
    rw [nleI (by omega) (by omega)]
    exact ⟨fun q => by omega, fun q => by cases q⟩
theorem fI_eq {o : Option Nat} (h : ∀ d, o = some d → d < 9331) : fI o = (1000000 : Int32) ↔ o = none := by
  cases o with
  | none => exact ⟨fun _ => rfl, fun _ => rfl⟩
  | some d =>
    have := h d rfl
    show nI d = nI 1000000 ↔ _
    rw [neqI (by omega) (by omega)]
    exact ⟨fun q => by omega, fun q => by cases q⟩
theorem lyF {M : Mem} (h : LayM M) : okO M 12 47 ∧ mR M 47 35 = some 65 ∧ okO M 14 65 ∧ mL M 65 = 9331 ∧ mR M 47 36 = some 66 ∧ okO M 14 66 ∧ mL M 66 = 9331 := by
  unfold LayM at h
  simp only [h, and_self]
theorem lyN {M : Mem} (h : LayM M) : mR M 47 33 = some 64 ∧ okO M 14 64 ∧ mL M 64 = 9331 ∧ mR M 47 32 = some 63 ∧ okO M 14 63 ∧ mL M 63 = 429226 := by
  unfold LayM at h
  simp only [h, and_self]
theorem lyL {M : Mem} (h : LayM M) : mR M 47 9 = some 53 ∧ okO M 14 53 ∧ mL M 53 = 46 := by
  unfold LayM at h
  simp only [h, and_self]
def Sfq (a _k : Nat) : Prop := a = 65 ∨ a = 66
def RTC (M : Mem) (Q : List Nat) (D : Nat → Option Nat) : Prop := (∀ p, p < 9331 → mI M 65 p = fI (D p)) ∧ (∀ i p, Q[i]? = some p → mI M 66 i = nI p) ∧ ∀ p, p ∈ Q → p < 9331
/-- in the midst of measuring: the head is p, e STEPS away -/
def RBS (K : Nat → Int32) (y a k p e : Nat) (M0 M : Mem) (Q : List Nat) (D : Nat → Option Nat) : Prop := Fr Sfq M0 M ∧ RTC M Q D ∧ BFS (adjK K y) a Q k D ∧ Q[k]? = some p ∧ D p = some e
noncomputable def RTM (M : Mem) (r e n : Nat) : Mem := wI (wI M 65 r (nI (e + 1))) 66 n (nI r)
theorem RBS.add {K : Nat → Int32} {y a k p e : Nat} {M0 M : Mem} {Q : List Nat} {D : Nat → Option Nat} (h : RBS K y a k p e M0 M Q D) {r : Nat} (hr : r < 9331) (hn : D r = none) (ha : adjK K y p r) : Q.length < 9331 ∧ RBS K y a k p e M0 (RTM M r e Q.length) (Q ++ [r]) (fun x => if x = r then some (e + 1) else D x) := by
  obtain ⟨f, ⟨c1, c2, c3⟩, b, b2, b3⟩ := h
  have hB2 := b.add (D' := fun x => if x = r then some (e + 1) else D x) b2 b3 ha hn (fun x => rfl)
  have hq2 : ∀ p, p ∈ Q ++ [r] → p < 9331 := fun p hp => by
    rcases List.mem_append.mp hp with w | w
    · exact c3 p w
    · rw [List.mem_singleton] at w
      omega
  have hlen := hB2.ql hq2
  rw [List.length_append, List.length_singleton] at hlen
  refine ⟨by omega, (f.wI (Or.inl rfl)).wI (Or.inr rfl), ⟨fun q hq => ?_, fun i q hi => ?_, hq2⟩, hB2, ?_, ?_⟩
  · show mI (RTM M r e Q.length) 65 q = fI (if q = r then some (e + 1) else D q)
    unfold RTM
    rw [mI_wI_row (by omega), mI_wI]
    by_cases w : q = r
    · rw [if_pos ⟨rfl, w⟩, if_pos w]
      rfl
    · rw [if_neg (fun z => w z.2), if_neg w]
      exact c1 q hq
  · unfold RTM
    rw [mI_wI]
    by_cases w : i < Q.length
    · rw [if_neg (by omega), mI_wI_row (by omega)]
      rw [List.getElem?_append_left w] at hi
      exact c2 i q hi
    · have hi2 := (List.getElem?_eq_some_iff.mp hi).1
      rw [List.length_append, List.length_singleton] at hi2
      have : i = Q.length := by omega
      subst this
      rw [if_pos ⟨rfl, rfl⟩]
      rw [List.getElem?_append_right (by omega), Nat.sub_self] at hi
      cases hi
      rfl
  · have := (List.getElem?_eq_some_iff.mp b2).1
    rw [List.getElem?_append_left this]
    exact b2
  · show (if p = r then some (e + 1) else D p) = some e
    rw [if_neg (fun w => by rw [← w, b3] at hn; cases hn)]
    exact b3
theorem RBS.mem {K : Nat → Int32} {y a k p e : Nat} {M0 M : Mem} {Q : List Nat} {D : Nat → Option Nat} (h : RBS K y a k p e M0 M Q D) {r : Nat} : D r ≠ none ↔ r ∈ Q := by
  rw [h.2.2.1.2.1 r]
  cases D r with
  | none => exact ⟨fun q => absurd rfl q, fun ⟨d, q⟩ => by cases q⟩
  | some d => exact ⟨fun _ => ⟨d, rfl⟩, fun _ q => by cases q⟩
noncomputable def me0 (a0 : Nat) : Mem × Int32 → Option ((Mem × Int32) ⊕ (Mem)) := (fun s7 => if 9331 ≤ s7.2 then (some (.inr s7.1)) else (Option.bind (mR s7.1 a0 35) (fun r16 => grd (okO s7.1 14 r16) (grd (vp_in s7.2 (mL s7.1 r16)) (bv (wI s7.1 r16 s7.2.toNatClampNeg 1000000) (fun M19 => bv (s7.2 + 1 : Int32) (fun x23 => some (.inl (M19, x23)))))))))
noncomputable def me2 (a0 : Nat) (x51 : Int32) : Mem × Int32 × Int32 → Option ((Mem × Int32 × Int32) ⊕ (Mem × Int32)) := (fun s52 => Option.bind (mR s52.1 a0 33) (fun r61 => grd (okO s52.1 14 r61) (grd (vp_in x51 (mL s52.1 r61)) (if (mI s52.1 r61 x51.toNatClampNeg) ≤ s52.2.2 then (some (.inr (s52.1, s52.2.1))) else (Option.bind (mR s52.1 a0 32) (fun r64 => grd (okO s52.1 14 r64) (grd (vp_in ((46 * x51) + s52.2.2) (mL s52.1 r64)) (bv (mI s52.1 r64 ((46 * x51) + s52.2.2).toNatClampNeg : Int32) (fun x67 => Option.bind (mR s52.1 a0 35) (fun r68 => grd (okO s52.1 14 r68) (grd (vp_in x67 (mL s52.1 r68)) (bv (fun (s72 : Mem × Int32) => bv (s52.2.2 + 1 : Int32) (fun x76 => some (.inl (s72.1, s72.2, x76)))) (fun j71 => if 1000000 ≤ (mI s52.1 r68 x67.toNatClampNeg) then (Option.bind (mR s52.1 a0 35) (fun r77 => Option.bind (mR s52.1 a0 35) (fun r78 => grd (okO s52.1 14 r78) (grd (vp_in x51 (mL s52.1 r78)) (grd (okO s52.1 14 r77) (grd (vp_in x67 (mL s52.1 r77)) (bv (wI s52.1 r77 x67.toNatClampNeg ((mI s52.1 r78 x51.toNatClampNeg) + 1)) (fun M83 => Option.bind (mR M83 a0 36) (fun r87 => grd (okO M83 14 r87) (grd (vp_in s52.2.1 (mL M83 r87)) (bv (wI M83 r87 s52.2.1.toNatClampNeg x67) (fun M90 => bv (s52.2.1 + 1 : Int32) (fun x94 => j71 (M90, x94)))))))))))))) else (j71 (s52.1, s52.2.1)))))))))))))))
noncomputable def me1 (a0 : Nat) : Mem × Int32 × Int32 → Option ((Mem × Int32 × Int32) ⊕ (Mem)) := (fun s39 => if s39.2.1 ≤ s39.2.2 then (some (.inr s39.1)) else (Option.bind (mR s39.1 a0 36) (fun r48 => grd (okO s39.1 14 r48) (grd (vp_in s39.2.2 (mL s39.1 r48)) (bv (mI s39.1 r48 s39.2.2.toNatClampNeg : Int32) (fun x51 => Option.bind (loopO (me2 a0 x51) (s39.1, s39.2.1, 0)) (fun (x59 : Mem × Int32) => bv (s39.2.2 + 1 : Int32) (fun x96 => some (.inl (x59.1, x59.2, x96))))))))))
theorem measures_eq {M : Mem} {a0 : Nat} {p1 : Int32} : f_X12_measures M a0 p1 = grd (okO M 12 a0) (Option.bind (f_X12_laysNext M a0) (fun q2 => Option.bind (loopO (me0 a0) (q2, 0)) (fun (x14 : Mem) => Option.bind (mR x14 a0 35) (fun r25 => grd (okO x14 14 r25) (grd (vp_in p1 (mL x14 r25)) (bv (wI x14 r25 p1.toNatClampNeg 0) (fun M28 => Option.bind (mR M28 a0 36) (fun r32 => grd (okO M28 14 r32) (grd (vp_in 0 (mL M28 r32)) (bv (wI M28 r32 (0 : Int32).toNatClampNeg p1) (fun M35 => Option.bind (loopO (me1 a0) (M35, 1, 0)) (fun (x46 : Mem) => some x46)))))))))))) := rfl
theorem le9331 {k : Nat} (h : k ≤ 9331) : ((9331 : Int32) ≤ nI k) ↔ k = 9331 := by
  rw [show (9331 : Int32) = nI 9331 from rfl, nleI (by omega) (by omega)]
  omega
theorem r_me0 {M : Mem} (h : LayM M) : TT (loopO (me0 47) (M, 0)) (fun M1 => Fr (fun a _ => a = 65) M M1 ∧ ∀ k, k < 9331 → mI M1 65 k = nI 1000000) := by
  obtain ⟨l0, l1, l2, l3, -⟩ := lyF h
  refine TT_for 9331 (fun k s => ∃ M', s = (M', nI k) ∧ Fr (fun a _ => a = 65) M M' ∧ ∀ j, j < k → mI M' 65 j = nI 1000000) ?_ (Nat.zero_le _) ⟨M, rfl, Fr.rf, fun j hj => by omega⟩
  rintro k s hk ⟨M', rfl, hF, hv⟩
  unfold me0
  simp only
  by_cases w : k = 9331
  · rw [if_pos ((le9331 hk).mpr w), TT_some]
    subst w
    exact ⟨hF, hv⟩
  · rw [if_neg (fun q => w ((le9331 hk).mp q)), hF.2.2.2.2.1, l1, Option.bind_some, grd_y (okO_fr hF l2), hF.2.2.2.1, l3, grd_y ((nvp (by omega)).mpr (by omega)), TT_bv, TT_bv, TT_some, nclampI (by omega)]
    refine ⟨by omega, _, by rw [nsucc], hF.wI rfl, fun j hj => ?_⟩
    rw [mI_wI]
    by_cases q : j = k
    · rw [if_pos ⟨rfl, q⟩]
      rfl
    · rw [if_neg (fun z => q z.2)]
      exact hv j (by omega)
theorem r_me2 {K : Nat → Int32} {y a k p e : Nat} {M0 M : Mem} {Q0 : List Nat} {D0 : Nat → Option Nat} (hM : LayM M0) (hk : KTH K) (hp : p < 9331) (hN : NXP M0 K y p) (h : RBS K y a k p e M0 M Q0 D0) : TT (loopO (me2 47 (nI p)) (M, nI Q0.length, 0)) (fun z => ∃ M1 Q D, z = (M1, nI Q.length) ∧ RBS K y a k p e M0 M1 Q D ∧ ∀ r, adjK K y p r → r ∈ Q) := by
  obtain ⟨dl, dr⟩ := dR_v hp
  have hlen := EDG_len (K := K) (y := y) dl
  refine TT_for (EDG K y (dR p)).length (fun i s => ∃ M' Q D, s = (M', nI Q.length, nI i) ∧ RBS K y a k p e M0 M' Q D ∧ ∀ j c, j < i → (EDG K y (dR p))[j]? = some c → rank c.1 ∈ Q) ?_ (Nat.zero_le _) ⟨M, Q0, D0, rfl, h, fun j c hj => by omega⟩
  rintro i s hi ⟨M', Q, D, rfl, hb, hf⟩
  obtain ⟨f, ⟨c1, c2, c3⟩, b, b2, b3⟩ := id hb
  have hM' := hM.fr f
  obtain ⟨l0, l1, l2, l3, l4, l5, l6⟩ := lyF hM'
  obtain ⟨n1, n2, n3, n4, n5, n6⟩ := lyN hM'
  have e64 : mI M' 64 p = nI (EDG K y (dR p)).length := by
    rw [f.i (by unfold Sfq; omega)]
    exact hN.1
  unfold me2
  simp only
  rw [n1, Option.bind_some, grd_y n2, n3, grd_y ((nvp (by omega)).mpr hp), nclampI (a := p) (by omega), e64]
  by_cases w : i = (EDG K y (dR p)).length
  · rw [if_pos ((nleI (by omega) (by omega)).mpr (by omega)), TT_some]
    refine ⟨M', Q, D, rfl, hb, fun r hr => ?_⟩
    obtain ⟨_, c, hc, e1⟩ := hr
    obtain ⟨j, hj, ej⟩ := List.getElem_of_mem hc
    rw [← e1]
    exact hf j c (by omega) (by rw [List.getElem?_eq_getElem hj, ej])
  · have hlt : i < (EDG K y (dR p)).length := by omega
    rw [if_neg (fun q => w (by have := (nleI (by omega) (by omega)).mp q; omega))]
    have hc := List.getElem?_eq_getElem hlt
    have hcm := List.getElem_mem hlt
    generalize (EDG K y (dR p))[i] = c at hc hcm
    have hdc := (EDG_DL hk dl hcm).1
    have hrl := rank_lt hdc
    have e63 : mI M' 63 (46 * p + i) = nI (rank c.1) := by
      rw [f.i (by unfold Sfq; omega)]
      exact hN.2 i c hc
    have hadj : adjK K y p (rank c.1) := ⟨hp, c, hcm, rfl⟩
    have hDd : ∀ d, D (rank c.1) = some d → d < 9331 := fun d q => b.dlt c3 q
    have hed := b.dlt c3 b3
    rw [n4, Option.bind_some, grd_y n5, show (46 : Int32) * nI p = nI (46 * p) from nmul 46 p, nadd, n6, grd_y ((nvp (by omega)).mpr (by omega)), nclampI (a := 46 * p + i) (by omega), e63, TT_bv, l1, Option.bind_some, grd_y l2, l3, grd_y ((nvp (by omega)).mpr hrl), TT_bv, nclampI (a := rank c.1) (by omega), c1 _ hrl]
    have fin : ∀ M2 Q2 D2, RBS K y a k p e M0 M2 Q2 D2 → (∀ r, r ∈ Q → r ∈ Q2) → rank c.1 ∈ Q2 → TT (some (Sum.inl (M2, nI Q2.length, nI i + 1)) : Option ((Mem × Int32 × Int32) ⊕ (Mem × Int32))) (fun r => r.elim (fun s' => i < (EDG K y (dR p)).length ∧ ∃ M' Q D, s' = (M', nI Q.length, nI (i + 1)) ∧ RBS K y a k p e M0 M' Q D ∧ ∀ j c, j < i + 1 → (EDG K y (dR p))[j]? = some c → rank c.1 ∈ Q) (fun z => ∃ M1 Q D, z = (M1, nI Q.length) ∧ RBS K y a k p e M0 M1 Q D ∧ ∀ r, adjK K y p r → r ∈ Q)) := fun M2 Q2 D2 q1 q2 q3 => by
      rw [TT_some]
      refine ⟨hlt, M2, Q2, D2, by rw [nsucc], q1, fun j c' hj hc' => ?_⟩
      by_cases z : j = i
      · subst z
        rw [hc] at hc'
        cases hc'
        exact q3
      · exact q2 _ (hf j c' (by omega) hc')
    by_cases w2 : D (rank c.1) = none
    · rw [if_pos ((fI_far hDd).mpr w2)]
      obtain ⟨g1, g2⟩ := hb.add hrl w2 hadj
      rw [Option.bind_some, Option.bind_some, grd_y l2, l3, grd_y ((nvp (by omega)).mpr hp), grd_y l2, grd_y ((nvp (by omega)).mpr hrl), c1 p hp, b3, show fI (some e) + 1 = nI (e + 1) from nsucc e, TT_bv, mR_wI, l4, Option.bind_some, ok_wI, grd_y l5, mL_wI, l6, grd_y ((nvp (by omega)).mpr g1), nclampI (a := Q.length) (by omega), TT_bv, TT_bv]
      have := fin _ _ _ g2 (fun r hr => List.mem_append_left _ hr) (List.mem_append_right _ (List.mem_singleton.mpr rfl))
      rw [List.length_append, List.length_singleton] at this
      rw [nsucc Q.length]
      exact this
    · rw [if_neg (fun q => w2 ((fI_far hDd).mp q))]
      exact fin M' Q D hb (fun _ q => q) (hb.mem.mp w2)
theorem r_me1 {K : Nat → Int32} {y a : Nat} {M : Mem} {D0 : Nat → Option Nat} (hM : LayM M) (hk : KTH K) (hN : ∀ p, p < 9331 → NXP M K y p) (ha : a < 9331) (h0 : RTC M [a] D0) (hb0 : BFS (adjK K y) a [a] 0 D0) : TT (loopO (me1 47) (M, 1, 0)) (fun M1 => ∃ Q D, Fr Sfq M M1 ∧ RTC M1 Q D ∧ BFS (adjK K y) a Q Q.length D) := by
  refine TT_for 9331 (fun k s => ∃ M' Q D, s = (M', nI Q.length, nI k) ∧ Fr Sfq M M' ∧ RTC M' Q D ∧ BFS (adjK K y) a Q k D) ?_ (Nat.zero_le _) ⟨M, [a], D0, rfl, Fr.rf, h0, hb0⟩
  rintro k s hk9 ⟨M', Q, D, rfl, f, c, b⟩
  have hM' := hM.fr f
  obtain ⟨l0, l1, l2, l3, l4, l5, l6⟩ := lyF hM'
  have hql := b.ql c.2.2
  have hkq := b.2.2.2.2.2.2.2.1
  unfold me1
  simp only
  by_cases w : k = Q.length
  · rw [if_pos ((nleI (by omega) (by omega)).mpr (by omega)), TT_some]
    subst w
    exact ⟨Q, D, f, c, b⟩
  · have hlt : k < Q.length := by omega
    have hto := List.getElem?_eq_getElem hlt
    have hmem := List.getElem_mem hlt
    generalize Q[k] = p at hto hmem
    have hp := c.2.2 p hmem
    obtain ⟨e, he⟩ := (b.2.1 p).mp hmem
    rw [if_neg (fun q => w (by have := (nleI (by omega) (by omega)).mp q; omega)), l4, Option.bind_some, grd_y l5, l6, grd_y ((nvp (by omega)).mpr (by omega)), nclampI (a := k) (by omega), c.2.1 k p hto, TT_bv, TT_bind]
    have hlp := EDG_len (K := K) (y := y) (dR_v hp).1
    refine (r_me2 hM' hk hp ((hN p hp).fr f (by unfold Sfq; omega) (fun i _ => by unfold Sfq; omega) hlp) ⟨Fr.rf, c, b, hto, he⟩).mono ?_
    rintro z ⟨M1, Q1, D1, rfl, ⟨g1, g2, g3, g4, g5⟩, g6⟩
    rw [TT_bv, TT_some]
    exact ⟨by omega, M1, Q1, D1, by rw [nsucc], f.tr g1, g2, g3.next g4 g6⟩
def Sms (a k : Nat) : Prop := Snx a k ∨ a = 65 ∨ a = 66
theorem NXC.e {S : Nat → Nat → Prop} {M M1 : Mem} (h : NXC M) (hF : Fr S M M1) (hs : ∀ a k, S a k → a ≠ 63 ∧ a ≠ 64 ∧ ¬ (a = 47 ∧ (k = 34 ∨ k = 1)) ∧ a ≠ 49) : NXC M1 := by
  have e49 : mI M1 49 = mI M 49 := by
    funext k
    exact hF.i (fun q => (hs 49 k q).2.2.2 rfl)
  have e34 : mI M1 47 34 = mI M 47 34 := hF.i (fun q => (hs 47 34 q).2.2.1 ⟨rfl, Or.inl rfl⟩)
  have e1 : mI M1 47 1 = mI M 47 1 := hF.i (fun q => (hs 47 1 q).2.2.1 ⟨rfl, Or.inr rfl⟩)
  rcases h with h | ⟨nb, ve, y, h1, h2, h3, h4, h5, h6, h7⟩
  · left
    rw [e34]
    exact h
  · right
    refine ⟨nb, ve, y, by rw [e34]; exact h1, by rw [e1]; exact h2, h3, h4, by rw [e49]; exact h5, h6, fun q p hp => ?_⟩
    rw [e49]
    exact (h7 q p hp).fr hF (fun q => (hs 64 p q).2.1 rfl) (fun i _ q => (hs 63 _ q).1 rfl) (EDG_len (dR_v hp).1)
theorem RTC.start {M M1 : Mem} {a : Nat} (ha : a < 9331) (hv : ∀ k, k < 9331 → mI M 65 k = nI 1000000) (hM : M1 = wI (wI M 65 a 0) 66 0 (nI a)) : RTC M1 [a] (fun p => if p = a then some 0 else none) := by
  subst hM
  refine ⟨fun p hp => ?_, fun i p hi => ?_, fun p hp => by rw [List.mem_singleton] at hp; omega⟩
  · show _ = fI (if p = a then some 0 else none)
    rw [mI_wI_row (by omega), mI_wI]
    by_cases w : p = a
    · rw [if_pos ⟨rfl, w⟩, if_pos w]
      rfl
    · rw [if_neg (fun z => w z.2), if_neg w]
      exact hv p hp
  · have : i = 0 := by
      have := (List.getElem?_eq_some_iff.mp hi).1
      simp at this
      exact this
    subst this
    simp at hi
    rw [mI_wIs, hi]
theorem r_measures {M : Mem} (h : MID M) (hx : NXC M) {y ve a : Nat} (hy : y ≤ 999) (h54 : mI M 49 54 = nI y) (hv : mI M 47 1 = nI ve) (hve : ve < 2147483648) (ha : a < 9331) : TT (f_X12_measures M 47 (nI a)) (fun M1 => Fr Sms M M1 ∧ MID M1 ∧ mI M1 49 = mI M 49 ∧ NXC M1 ∧ (∀ p, p < 9331 → NXP M1 (mI M 49) y p) ∧ ∃ D : Nat → Option Nat, (∀ p, p < 9331 → mI M1 65 p = fI (D p)) ∧ (∀ p d, D p = some d → d < 9331) ∧ ∀ p d, D p = some d ↔ isD (adjK (mI M 49) y) a p d) := by
  rw [measures_eq, grd_y (lyF h.1.2.1).1, TT_bind]
  refine (r_laysNext h hx hy h54 hv hve).mono ?_
  rintro M1 ⟨f1, m1, k1, x1, n1⟩
  rw [TT_bind]
  refine (r_me0 m1.1.2.1).mono ?_
  rintro M2 ⟨f2, v2⟩
  have hM2 := m1.1.2.1.fr f2
  obtain ⟨l0, l1, l2, l3, l4, l5, l6⟩ := lyF hM2
  have c0 : (0 : Int32).toNatClampNeg = 0 := by decide
  rw [l1, Option.bind_some, grd_y l2, l3, grd_y ((nvp (by omega)).mpr ha), nclampI (by omega), TT_bv, mR_wI, l4, Option.bind_some, ok_wI, grd_y l5, mL_wI, l6, grd_y (show vp_in 0 9331 from (nvp (a := 0) (by omega)).mpr (by omega)), c0, TT_bv, TT_bind]
  have f3 : Fr Sfq M2 (wI (wI M2 65 a 0) 66 0 (nI a)) := (Fr.rf.wI (Or.inl rfl)).wI (Or.inr rfl)
  have c3 := RTC.start ha v2 rfl
  generalize wI (wI M2 65 a 0) 66 0 (nI a) = M3 at f3 c3
  have hM3 := hM2.fr f3
  have f23 : Fr Sfq M1 M3 := (f2.up (fun a k w => Or.inl w)).tr f3
  have n3 : ∀ p, p < 9331 → NXP M3 (mI M 49) y p := fun p hp => (n1 p hp).fr f23 (by unfold Sfq; omega) (fun i _ => by unfold Sfq; omega) (EDG_len (dR_v hp).1)
  refine (r_me1 hM3 h.kth n3 ha c3 (BFS.start (if_pos rfl) (fun p hp => if_neg hp))).mono ?_
  rintro M4 ⟨Q, D, f4, c4, d4⟩
  rw [TT_some]
  have f14 : Fr Sfq M1 M4 := f23.tr f4
  obtain ⟨m4, k4⟩ := m1.fr f14 (fun a k w => by unfold Sfq at w; unfold Frl; omega)
  refine ⟨(f1.up (fun a k w => Or.inl w)).tr (f14.up (fun a k w => Or.inr w)), m4, by rw [k4, k1], x1.e f14 (fun a k w => by unfold Sfq at w; omega), fun p hp => (n1 p hp).fr f14 (by unfold Sfq; omega) (fun i _ => by unfold Sfq; omega) (EDG_len (dR_v hp).1), D, c4.1, fun p d hd => d4.dlt c4.2.2 hd, d4.full⟩
