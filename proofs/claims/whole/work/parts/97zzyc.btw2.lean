/-! between() on both sides -/
theorem r_leadsF {M : Mem} (m1 : MID M) {l d : List Nat} (hl : DL l) (hdd : DL d) {y : Nat} (hy : y ≤ 999) : TT (f_X12_leadsTo M 47 (nI (num l)) (nI (num d)) (nI y)) (fun q => MID q.1 ∧ mI q.1 49 = mI M 49 ∧ Fr Sls M q.1 ∧ q.2 = b1 (hasD (EDG (mI M 49) y l) d)) := by
  obtain ⟨q, e1, h1, h2, h3, h4⟩ := r_leads m1 hl hdd hy
  obtain ⟨M2, e2, _, _, f2, _⟩ := r_listsK (p3 := 0) m1 hl hy
  refine ⟨q, e1, h1, h2, ?_, h4⟩
  rw [leadsTo_eq, grd_y (lyF m1.1.2.1).1, e2, Option.bind_some] at e1
  cases hz : loopO (ltB M2 47 (nI (num d))) 0 with
  | none =>
    rw [hz] at e1
    cases e1
  | some z =>
    rw [hz, Option.bind_some] at e1
    cases z with
    | inl u =>
      have : (M2, (0 : Int32)) = q := Option.some.inj e1
      rw [← this]
      exact f2
    | inr u =>
      have : (M2, (1 : Int32)) = q := Option.some.inj e1
      rw [← this]
      exact f2
theorem hasD_adj {K : Nat → Int32} (hk : KTH K) {y q : Nat} (hq : q < 9331) {d : List Nat} (hd : DL d) : hasD (EDG K y (dR q)) d = true ↔ adjK K y q (rank d) := by
  unfold hasD
  rw [List.any_eq_true]
  constructor
  · rintro ⟨c, hc, e⟩
    have e' : c.1 = d := of_decide_eq_true e
    exact ⟨hq, c, hc, by rw [e']⟩
  · rintro ⟨_, c, hc, e⟩
    refine ⟨c, hc, decide_eq_true ?_⟩
    exact (rank_eq (EDG_DL hk (dR_v hq).1 hc).1 hd).mp e
theorem HSV.frR {S : Nat → Nat → Prop} {M M1 : Mem} {n : Nat} {mo : Nat → Option Nat} {yr : Nat → Nat} {di : Nat → List Nat} (hv : HSV M n mo yr di) (hF : Fr S M M1) (hs : ∀ a k, S a k → 47 ≤ a ∧ a ≠ 49) : HSV M1 n mo yr di := hv.fr hF (fun a k w => by have := hs a k w; omega)
noncomputable def pE (K : Nat → Int32) (y g q : Nat) : Bool := @decide (adjK K y q g) (Classical.propDecidable _)
theorem pE_iff {K : Nat → Int32} {y g q : Nat} : pE K y g q = true ↔ adjK K y q g := by
  unfold pE
  exact @decide_eq_true_iff _ (Classical.propDecidable _)
theorem flt_nth {R : List Nat} {P : Nat → Bool} {k r : Nat} (h : R[k]? = some r) (hp : P r = true) : (R.filter P)[((R.take k).filter P).length]? = some r ∧ ((R.take (k + 1)).filter P).length = ((R.take k).filter P).length + 1 := by
  obtain ⟨hk, e⟩ := List.getElem?_eq_some_iff.mp h
  have e1 : R.take (k + 1) = R.take k ++ [r] := by rw [List.take_succ, h]; rfl
  have e2 : R = R.take k ++ r :: R.drop (k + 1) := by
    rw [← e, ← List.drop_eq_getElem_cons hk, List.take_append_drop]
  constructor
  · rw [show R.filter P = ((R.take k) ++ r :: R.drop (k + 1)).filter P from by rw [← e2], List.filter_append, List.getElem?_append_right (Nat.le_refl _), Nat.sub_self, List.filter_cons_of_pos hp]
    rfl
  · rw [e1, List.filter_append, List.length_append, List.filter_cons_of_pos hp]
    rfl
theorem flt_no {R : List Nat} {P : Nat → Bool} {k r : Nat} (h : R[k]? = some r) (hp : ¬ P r = true) : ((R.take (k + 1)).filter P).length = ((R.take k).filter P).length := by
  have e1 : R.take (k + 1) = R.take k ++ [r] := by rw [List.take_succ, h]; rfl
  rw [e1, List.filter_append, List.length_append, List.filter_cons_of_neg hp]
  rfl
theorem flt_le (R : List Nat) (P : Nat → Bool) (k : Nat) : ((R.take k).filter P).length ≤ R.length := Nat.le_trans (List.length_filter_le _ _) (by rw [List.length_take]; omega)
theorem r_bn3 {M : Mem} (h : MID M) {n : Nat} {mo : Nat → Option Nat} {yr : Nat → Nat} {di : Nat → List Nat} (hv : HSV M n mo yr di) {j : Nat} (hj : j < n) {R : List Nat} (hR : MDL M R) (hR9 : ∀ q, q ∈ R → q < 9331) (hlen : R.length ≤ 45) {p2 : Int32} : TT (Option.bind (loopO (bn3 47 (nI j) p2 (nI R.length)) (M, 0, 0)) (Sum.elim (fun (x108 : Mem × Int32) => if p2 = (-1) then (some (x108.1, x108.2)) else (some (x108.1, (-1)))) (fun (x110 : Mem × Int32) => Option.bind (mR x110.1 47 38) (fun r133 => grd (okO x110.1 14 r133) (grd (vp_in x110.2 (mL x110.1 r133)) (some (x110.1, mI x110.1 r133 x110.2.toNatClampNeg))))))) (fun q => Fr Sls M q.1 ∧ q.2 = if -1 ≤ p2 then btA (R.filter (pE (mI M 49) (yr j) (rank (di j)))) p2 else -1) := by
  obtain ⟨g1, g2, g3, -⟩ := hv.2.2.2 j hj
  have hr9 := rank_lt g3
  have hkt := h.kth
  generalize hP : pE (mI M 49) (yr j) (rank (di j)) = P
  have key : TT (loopO (bn3 47 (nI j) p2 (nI R.length)) (M, 0, 0)) (fun z => ∃ M1, Fr Sls M M1 ∧ MID M1 ∧ MDL M1 R ∧ ((z = Sum.inl (M1, nI (R.filter P).length) ∧ ∀ m, m < (R.filter P).length → nI m ≠ p2) ∨ ∃ k r, z = Sum.inr (M1, nI k) ∧ R[k]? = some r ∧ ∃ ii, p2 = nI ii ∧ ii ≤ 45 ∧ (R.filter P)[ii]? = some r)) := by
    refine TT_for R.length (fun k s => ∃ M', s = (M', nI ((R.take k).filter P).length, nI k) ∧ Fr Sls M M' ∧ MID M' ∧ mI M' 49 = mI M 49 ∧ MDL M' R ∧ HSV M' n mo yr di ∧ ∀ m, m < ((R.take k).filter P).length → nI m ≠ p2) ?_ (Nat.zero_le _) ⟨M, rfl, Fr.rf, h, rfl, hR, hv, fun m hm => by simp at hm⟩
    rintro k s hk ⟨M', rfl, hF, hm', k1, hR', hv', hno⟩
    obtain ⟨a1, a2, a3⟩ := ly68 hm'.1.2.1
    unfold bn3
    simp only
    by_cases w : k = R.length
    · rw [if_pos ((nleI (by omega) (by omega)).mpr (by omega)), TT_some]
      have e : R.take k = R := List.take_of_length_le (by omega)
      rw [e] at hno ⊢
      exact ⟨M', hF, hm', hR', Or.inl ⟨rfl, hno⟩⟩
    · have hlt : k < R.length := by omega
      have hc := List.getElem?_eq_getElem hlt
      have hcm := List.getElem_mem hlt
      generalize R[k] = r at hc hcm
      have hr := hR9 r hcm
      rw [if_neg (fun q => w (by have := (nleI (by omega) (by omega)).mp q; omega)), a1, Option.bind_some, grd_y a2, a3, grd_y ((nvp (by omega)).mpr (by omega)), r_di hm'.1.2.1 hv' hj, Option.bind_some, r_yr hm'.1.2.1 hv' hj, Option.bind_some, nclampI (a := k) (by omega), hR' k r hc, TT_bind]
      refine (r_leadsF hm' (dR_v hr).1 g3 g2).mono ?_
      rintro ⟨M2, z⟩ ⟨m2, k2, f2, e2⟩
      simp only at m2 k2 f2 e2
      have hF2 : Fr Sls M M2 := hF.tr f2
      have hR2 : MDL M2 R := fun j q e => by
        rw [f2.i (by rw [Sls_iff]; omega)]
        exact hR' j q e
      have hv2 := hv'.frR f2 (fun a k w => by rw [Sls_iff] at w; omega)
      have hfl := flt_le R P k
      simp only
      rw [TT_bv]
      rw [k1] at e2
      by_cases w2 : adjK (mI M 49) (yr j) r (rank (di j))
      · have hp : P r = true := by rw [← hP]; exact pE_iff.mpr w2
        obtain ⟨q1, q2⟩ := flt_nth hc hp
        rw [(hasD_adj hkt hr g3).mpr w2] at e2
        rw [if_neg (by rw [e2]; decide)]
        by_cases w3 : nI ((R.take k).filter P).length = p2
        · rw [if_pos w3, TT_some]
          exact ⟨M2, hF2, m2, hR2, Or.inr ⟨k, r, rfl, hc, _, w3.symm, by omega, q1⟩⟩
        · rw [if_neg w3, TT_bv, TT_bv, TT_some]
          refine ⟨hlt, M2, by rw [q2, nsucc, nsucc], hF2, m2, by rw [k2, k1], hR2, hv2, fun m hm => ?_⟩
          rw [q2] at hm
          by_cases z : m = ((R.take k).filter P).length
          · rw [z]; exact w3
          · exact hno m (by omega)
      · have hp : ¬ P r = true := by rw [← hP, pE_iff]; exact w2
        have q2 := flt_no hc hp
        have hh : hasD (EDG (mI M 49) (yr j) (dR r)) (di j) = false := by
          rw [← Bool.not_eq_true, hasD_adj hkt hr g3]
          exact w2
        rw [hh] at e2
        rw [if_pos (by rw [e2]; rfl), TT_bv, TT_some]
        refine ⟨hlt, M2, by rw [q2, nsucc], hF2, m2, by rw [k2, k1], hR2, hv2, fun m hm => ?_⟩
        rw [q2] at hm
        exact hno m hm
  rw [TT_bind]
  refine key.mono ?_
  rintro z ⟨M1, f1, m1, hR1, hz⟩
  rcases hz with ⟨rfl, hno⟩ | ⟨k, r, rfl, hk, ii, rfl, hii, he⟩
  · show TT (if p2 = (-1) then (some (M1, nI (R.filter P).length)) else (some (M1, (-1)))) _
    unfold btA
    by_cases w : p2 = -1
    · rw [if_pos w, TT_some]
      exact ⟨f1, by rw [if_pos (by rw [w]; decide), if_pos w]⟩
    · rw [if_neg w, TT_some]
      refine ⟨f1, ?_⟩
      by_cases hp2' : ¬ -1 ≤ p2
      · rw [if_neg hp2']
      have hp2 : -1 ≤ p2 := Classical.not_not.mp hp2'
      rw [if_pos hp2, if_neg w]
      have h0 : 0 ≤ p2 := by
        rw [Int32.le_iff_toInt_le] at hp2 ⊢
        have e1 : (-1 : Int32).toInt = -1 := by decide
        have e0 : (0 : Int32).toInt = 0 := by decide
        rw [e1] at hp2
        rw [e0]
        have : p2.toInt ≠ -1 := fun q => w (Int32.toInt_inj.mp (by rw [q]; exact e1.symm))
        omega
      obtain ⟨ii, rfl, hii⟩ := nat_of h0
      rw [nclampI hii]
      have : ¬ ii < (R.filter P).length := fun q => hno ii q rfl
      rw [List.getElem?_eq_none_iff.mpr (by omega)]
  · obtain ⟨a1, a2, a3⟩ := ly68 m1.1.2.1
    have hkl := (List.getElem?_eq_some_iff.mp hk).1
    show TT (Option.bind (mR M1 47 38) (fun r133 => grd (okO M1 14 r133) (grd (vp_in (nI k) (mL M1 r133)) (some (M1, mI M1 r133 (nI k).toNatClampNeg))))) _
    rw [a1, Option.bind_some, grd_y a2, a3, grd_y ((nvp (by omega)).mpr (by omega)), nclampI (by omega), TT_some]
    refine ⟨f1, ?_⟩
    have hp2 : (-1 : Int32) ≤ nI ii := by
      rw [Int32.le_iff_toInt_le, nI_tI (by omega)]
      have e1 : (-1 : Int32).toInt = -1 := by decide
      omega
    rw [if_pos hp2]
    unfold btA
    rw [if_neg (neg1_nI (by omega)), nclampI (by omega), he]
    exact hR1 k r hk
theorem between11 {M : Mem} {a0 : Nat} {p1 p2 : Int32} : f_X11_between M a0 p1 p2 = grd (okO M 11 a0) (Option.bind (mR M a0 0) (fun r2 => grd (okO M 10 r2) (Option.bind (f_X10_hasHouse M r2 p1) (fun q4 => if q4 = 0 then (some (M, (-1))) else (Option.bind (mR M a0 0) (fun r7 => Option.bind (mR M a0 0) (fun r8 => grd (okO M 10 r8) (Option.bind (mR M r8 3) (fun r10 => grd (okO M 14 r10) (grd (vp_in p1 (mL M r10)) (grd (okO M 10 r7) (Option.bind (f_X10_hasHouse M r7 (mI M r10 p1.toNatClampNeg)) (fun q14 => if q14 = 0 then (some (M, (-1))) else (if (-1) ≤ p2 then (Option.bind (mR M a0 6) (fun r17 => Option.bind (mR M a0 0) (fun r18 => grd (okO M 10 r18) (Option.bind (mR M r18 5) (fun r20 => grd (okO M 14 r20) (grd (vp_in p1 (mL M r20)) (Option.bind (mR M a0 0) (fun r23 => grd (okO M 10 r23) (Option.bind (mR M r23 4) (fun r25 => grd (okO M 14 r25) (grd (vp_in p1 (mL M r25)) (grd (okO M 4 r17) (Option.bind (f_X4_tableTo M r17 (mI M r20 p1.toNatClampNeg) (mI M r25 p1.toNatClampNeg)) (fun q29 => grd (okO q29.1 2 q29.2) (Option.bind (f_X2_spread q29.1 q29.2 (-1) 1) (fun q35 => Option.bind (mR q35 a0 5) (fun r41 => Option.bind (mR q35 a0 0) (fun r42 => grd (okO q35 10 r42) (Option.bind (mR q35 r42 5) (fun r44 => Option.bind (mR q35 a0 0) (fun r45 => grd (okO q35 10 r45) (Option.bind (mR q35 r45 3) (fun r47 => grd (okO q35 14 r47) (grd (vp_in p1 (mL q35 r47)) (grd (okO q35 14 r44) (grd (vp_in (mI q35 r47 p1.toNatClampNeg) (mL q35 r44)) (grd (okO q35 1 r41) (Option.bind (f_X1_listAll q35 r41 (mI q35 r44 (mI q35 r47 p1.toNatClampNeg).toNatClampNeg)) (fun q53 => Option.bind (mR q53 a0 5) (fun r59 => grd (okO q53 1 r59) (Option.bind (f_X1_lowestMade q53 r59 (-1) q29.2 1) (fun q61 => Option.bind (loopO (bw0 q53 a0 q29.2 p2) (q61, 0, 0)) (fun (x70 : Int32 × Int32) => if p2 = (-1) then (some (q53, x70.2)) else (Option.bind (f_X6_numberOf x70.1) (fun q81 => some (q53, q81)))))))))))))))))))))))))))))))))))) else (some (M, (-1))))))))))))))))) := rfl
theorem hasHouse_m1 {n : Nat} (hn : n ≤ 12) : ¬ (0 ≤ (-1 : Int32) ∧ (-1 : Int32) < nI n) := fun q => absurd q.1 (by decide)
theorem r_between {M : Mem} (h : MID M) {n : Nat} {mo : Nat → Option Nat} {yr : Nat → Nat} {di : Nat → List Nat} (hv : HSV M n mo yr di) {j m : Nat} (hj : j < n) (hm : mo j = some m) {p2 : Int32} : TT (f_X12_between M 47 (nI j) p2) (fun q => Fr Srv M q.1 ∧ ∃ R : List Nat, R.Pairwise (· < ·) ∧ (∀ q, q ∈ R ↔ adjK (mI M 49) (yr j) (rank (di m)) q) ∧ q.2 = if -1 ≤ p2 then btA (R.filter (pE (mI M 49) (yr j) (rank (di j)))) p2 else -1) := by
  obtain ⟨hn, v1, v2, v3⟩ := id hv
  obtain ⟨g1, g2, g3, -⟩ := v3 j hj
  have hmj := g1 m hm
  obtain ⟨-, -, e3, -⟩ := v3 m (by omega)
  have hM := h.1.2.1
  rw [between12, grd_y (lyF hM).1, r_isHouse hM hn v1, if_pos (house_in hn hj), Option.bind_some, if_neg (by decide), r_mo hM hv hj, hm, Option.bind_some, if_neg (show ¬ oI (some m) = -1 from neg1_nI (by omega)), Option.bind_some, show oI (some m) = nI m from rfl, r_di hM hv (show m < n by omega), Option.bind_some, r_yr hM hv hj, Option.bind_some, TT_bind]
  refine (r_listsK h e3 g2).mono ?_
  rintro M1 ⟨m1, k1, f1, ls⟩
  have hkt := h.kth
  have hdl : ∀ c, c ∈ EDG (mI M 49) (yr j) (di m) → DL c.1 := fun c hc => (EDG_DL hkt e3 hc).1
  rw [TT_bind]
  refine (r_bn0 m1.1.2.1 ls (EDG_len e3) hdl).mono ?_
  rintro z ⟨M2, R, rfl, f2, hR, hs, hl, hmem⟩
  obtain ⟨m2, k2⟩ := m1.fr f2 (fun a k w => by unfold S68 at w; unfold Frl; omega)
  have hv2 := (hv.frR f1 (fun a k w => by rw [Sls_iff] at w; omega)).frR f2 (fun a k w => by unfold S68 at w; omega)
  have hR9 : ∀ q, q ∈ R → q < 9331 := fun q hq => by
    obtain ⟨c, hc, e⟩ := (hmem q).mp hq
    rw [← e]
    exact rank_lt (hdl c hc)
  simp only
  refine (r_bn3 m2 hv2 hj hR hR9 hl).mono ?_
  rintro q ⟨f3, e⟩
  refine ⟨((f1.up (fun a k w => Sls_rv a k w)).tr (f2.up (fun a k w => ?_))).tr (f3.up (fun a k w => Sls_rv a k w)), R, hs, fun q => (hmem q).trans (adjK_r e3).symm, by rw [e, k2, k1]⟩
  unfold S68 at w
  unfold Srv
  omega
theorem srt_un : ∀ {A B : List Nat}, A.Pairwise (· < ·) → B.Pairwise (· < ·) → (∀ q, q ∈ A ↔ q ∈ B) → A = B
  | [], [], _, _, _ => rfl
  | [], b :: B, _, _, h => absurd ((h b).mpr List.mem_cons_self) (by simp)
  | a :: A, [], _, _, h => absurd ((h a).mp List.mem_cons_self) (by simp)
  | a :: A, b :: B, ha, hb, h => by
    rw [List.pairwise_cons] at ha hb
    have e : a = b := by
      rcases List.mem_cons.mp ((h a).mp List.mem_cons_self) with w | w
      · exact w
      · rcases List.mem_cons.mp ((h b).mpr List.mem_cons_self) with w2 | w2
        · exact w2.symm
        · have := hb.1 a w
          have := ha.1 b w2
          omega
    subst e
    rw [srt_un ha.2 hb.2 (fun q => ?_)]
    constructor
    · intro hq
      rcases List.mem_cons.mp ((h q).mp (List.mem_cons_of_mem _ hq)) with w | w
      · have := ha.1 q hq
        omega
      · exact w
    · intro hq
      rcases List.mem_cons.mp ((h q).mpr (List.mem_cons_of_mem _ hq)) with w | w
      · have := hb.1 q hq
        omega
      · exact w
theorem c_between {c : Nat} (hc : c < 600) {M : Mem} (h : INV0 c M) (hP : PTH M) {n : Nat} {mo : Nat → Option Nat} {yr : Nat → Nat} {di : Nat → List Nat} (hv : HSV M n mo yr di) {j m : Nat} (hj : j < n) (hm : mo j = some m) {p2 : Int32} (hp2 : -1 ≤ p2) {E : List Nat} (hE1 : E.Pairwise (· < ·)) (hE2 : ∀ q, q ∈ E ↔ (adjK (mI M 49) (yr j) (rank (di m)) q ∧ adjK (mI M 49) (yr j) q (rank (di j)))) : TT (f_X11_between M 0 (nI j) p2) (fun q => ∃ B, q.2 = btA E p2 ∧ MID q.1 ∧ SCI B q.1 ∧ B ≤ 300 * (c + 1) ∧ PTH q.1 ∧ mI q.1 49 = mI M 49 ∧ Fw (Spc M) Rpc M q.1 ∧ PMN M q.1) := by
  obtain ⟨m1, s1⟩ := h.mid
  have h78 := m1.2.1
  obtain ⟨hn, v1, v2, v3⟩ := id hv
  obtain ⟨o1, o2, o3, o4, o5, o6, o7⟩ := lay0 m1
  obtain ⟨a1, a2, a3, a4, a5, a6, a7, a8, a9⟩ := lay1 m1
  have k10 := (okLV m1).1
  obtain ⟨g1, g2, g3, g4, g5, g6, g7, g8, g9, -⟩ := v3 j hj
  have hmj := g1 m hm
  obtain ⟨-, -, e3, -, -, -, -, -, e9, -⟩ := v3 m (by omega)
  have hh : vp_in (nI j) 12 := (nvp (by omega)).mpr (by omega)
  have r2 := rank_lt g3
  rw [between11, grd_y o1, o2, Option.bind_some, grd_y k10, c_hasHouse m1.1.1 hn v2, if_pos (house_in hn hj), Option.bind_some, if_neg (by decide), Option.bind_some, Option.bind_some, grd_y k10, a1, Option.bind_some, grd_y a4, a7, grd_y hh, grd_y k10, nclampI (by omega), g7, hm, show oI (some m) = nI m from rfl, c_hasHouse m1.1.1 hn v2, if_pos (house_in hn (show m < n by omega)), Option.bind_some, if_neg (by decide), if_pos hp2, o4, Option.bind_some, Option.bind_some, grd_y k10, a3, Option.bind_some, grd_y a6, a9, grd_y hh, Option.bind_some, grd_y k10, a2, Option.bind_some, grd_y a5, a8, grd_y hh, grd_y (okLP m1).1, g9, g8, TT_bind]
  refine (c_tableTo m1 s1 (by omega) g2 r2 hP).mono ?_
  rintro ⟨M1, d⟩ ⟨i, Q, D, t, k1, f1, p1⟩
  simp only at t k1 f1 p1 ⊢
  obtain ⟨t1, t2, t3, ⟨kk, tb⟩, t5, t6⟩ := id t
  have hT := tb.2.2.2.1
  rw [grd_y hT.2.1, TT_bind]
  refine (c_spread1 tb (by omega) tb.1.kth).mono ?_
  rintro M2 ⟨Q2, D2, kk2, s2, sf2, s3⟩
  obtain ⟨t', k2⟩ := t.spr r2 g2 s2 sf2
  obtain ⟨n2, op2, hT2, tc2, hP2⟩ := t'.mid
  have f2 : Fw (Spc M) Rpc M M2 := Spc.tr f1 (sf2.fw.up (Sdp_spc hT) (fun _ _ w => w))
  have hv2 := hv.spc h78 f2
  obtain ⟨-, -, -, -, -, -, w7, -, -, -⟩ := hv2.2.2.2 j hj
  obtain ⟨-, -, -, -, -, -, -, -, w9, -⟩ := hv2.2.2.2 m (by omega)
  obtain ⟨b1', b2, b3, b4, b5, b6, b7⟩ := lay0 n2
  obtain ⟨c1, c2, c3, c4, c5, c6, c7, c8, c9⟩ := lay1 n2
  have k10' := (okLV n2).1
  rw [b3, Option.bind_some, b2, Option.bind_some, grd_y k10', c3, Option.bind_some, Option.bind_some, grd_y k10', c1, Option.bind_some, grd_y c4, c7, grd_y hh, grd_y c6, w7, hm, show oI (some m) = nI m from rfl, c9, grd_y ((nvp (by omega)).mpr (by omega)), grd_y b6, nclampI (a := m) (by omega), w9, TT_bind]
  refine (m_listAll n2 op2 (by omega) e3).mono ?_
  rintro M3 ⟨n3, op3, k3, f3, hL⟩
  have t3' := t'.sla n3 op3 k3 f3
  obtain ⟨-, -, hT3, tc3, hP3⟩ := t3'.mid
  obtain ⟨d1, d2, d3, d4, d5, d6, d7⟩ := lay0 n3
  rw [k2, k1] at hL
  have hkt := m1.kth
  have hdl : ∀ c, c ∈ EDG (mI M 49) (yr j) (di m) → DL c.1 := fun c hc => (EDG_DL hkt e3 hc).1
  have hE : ENB M3 d (EDG (mI M 49) (yr j) (di m)) E := by
    refine ⟨hE1, fun q => (hE2 q).trans ?_⟩
    rw [← adjK_r e3]
    refine and_congr_right (fun hq => ?_)
    have hq9 : q < 9331 := by
      obtain ⟨c, hc, e⟩ := (adjK_r e3).mp hq
      rw [← e]
      exact rank_lt (hdl c hc)
    obtain ⟨kk3, tb3⟩ := t3'.2.2.2.1
    rw [tc3.2.1 q hq9, show (1 : Int32) = nI 1 from rfl, oI_n (fun v hv => by have := tb3.2.2.2.2.2.2.2.dlt tc3.2.2.2 hv; omega) (by omega), s3 q, k1]
    constructor
    · intro ha
      refine ⟨⟨_, rfl, ha⟩, fun e he => ?_⟩
      have : e = 0 := by omega
      subst this
      intro hz
      exact adjK_ne hkt ha hz
    · rintro ⟨⟨x, hx, hx2⟩, -⟩
      rw [show x = rank (di j) from hx] at hx2
      exact hx2
  rw [d3, Option.bind_some, grd_y d6]
  refine (c_bw0 n3 hL (EDG_len e3) hdl hT3 hE hp2).mono ?_
  rintro q rfl
  refine ⟨300 * c + 1, rfl, n3, op3.sci, by omega, hP3, by show mI M3 49 = _; rw [k3, k2, k1], Spc.tr f2 ((f3.fw).up (fun a k w => ?_) (fun _ _ w => w)), (p1.tr (PMN.fr sf2)).tr (PMN.fr f3)⟩
  unfold Sla Ssc at w
  exact Or.inr (Or.inl (by omega))
theorem both_between {c : Nat} (hc : c < 600) {M : Mem} (h : INV0 c M) (hP : PTH M) (hN : NXC M) (p1 p2 : Int32) : PCALL c M (fun M => f_X11_between M 0 p1 p2) (fun M => f_X12_between M 47 p1 p2) := by
  obtain ⟨m1, s1⟩ := h.mid
  have h78 := m1.2.1
  obtain ⟨n, mo, yr, di, hv⟩ := h.1.hsv
  obtain ⟨hn, v1, v2, v3⟩ := id hv
  obtain ⟨o1, o2, o3, o4, o5, o6, o7⟩ := lay0 m1
  obtain ⟨a1, a2, a3, a4, a5, a6, a7, a8, a9⟩ := lay1 m1
  have l0 := (lyF m1.1.2.1).1
  have k10 := (okLV m1).1
  by_cases w : 0 ≤ p1 ∧ p1 < nI n
  · obtain ⟨j, hj, rfl⟩ := house_of hn w
    obtain ⟨g1, g2, g3, g4, g5, g6, g7, g8, g9, -⟩ := v3 j hj
    have hh : vp_in (nI j) 12 := (nvp (by omega)).mpr (by omega)
    cases hmo : mo j with
    | none =>
      refine PCALL.same h hP hN (-1) ?_ ?_
      · show f_X11_between M 0 _ _ = _
        rw [between11, grd_y o1, o2, Option.bind_some, grd_y k10, c_hasHouse m1.1.1 hn v2, if_pos (house_in hn hj), Option.bind_some, if_neg (by decide), Option.bind_some, Option.bind_some, grd_y k10, a1, Option.bind_some, grd_y a4, a7, grd_y hh, grd_y k10, nclampI (by omega), g7, hmo, show oI none = -1 from rfl, c_hasHouse m1.1.1 hn v2, if_neg (hasHouse_m1 hn), Option.bind_some, if_pos rfl]
      · show f_X12_between M 47 _ _ = _
        rw [between12, grd_y l0, r_isHouse m1.1.2.1 hn v1, if_pos (house_in hn hj), Option.bind_some, if_neg (by decide), r_mo m1.1.2.1 hv hj, hmo, Option.bind_some, if_pos (show oI none = -1 from rfl)]
    | some m =>
      have hmj := g1 m hmo
      by_cases w2 : -1 ≤ p2
      · obtain ⟨⟨M', z'⟩, _, _, R, hR1, hR2, _⟩ := r_between (p2 := p2) m1 hv hj hmo
        have hF1 := hR1.filter (pE (mI M 49) (yr j) (rank (di j)))
        obtain ⟨⟨M1, z⟩, hf, B, hz, n1, s1', hB, hP1, k1, f1, pm⟩ := c_between hc h hP hv hj hmo w2 hF1 (fun q => by rw [List.mem_filter, hR2, pE_iff])
        simp only at hz n1 s1' hP1 k1 f1 pm
        have hv1 := hv.spc h78 f1
        obtain ⟨⟨M2, z2⟩, hg, f2, R', hR1', hR2', hz2⟩ := r_between (p2 := p2) n1 hv1 hj hmo
        simp only at f2 hz2
        rw [k1] at hR2' hz2
        have hRR : R' = R := srt_un hR1' hR1 (fun q => (hR2' q).trans (hR2 q).symm)
        have : z2 = z := by rw [hz2, hz, hRR, if_pos w2]
        subst this
        exact ⟨M1, M2, z2, hf, hg, PTQ.end (y := 0) h f1 n1 s1' hB hP1 pm k1 (f2.up (fun a k w => Or.inl (Or.inl (Or.inl w)))) ((hN.spc h78 f1 k1).e f2 (fun a k w => by unfold Srv at w; omega))⟩
      · have hf : f_X11_between M 0 (nI j) p2 = some (M, -1) := by
          rw [between11, grd_y o1, o2, Option.bind_some, grd_y k10, c_hasHouse m1.1.1 hn v2, if_pos (house_in hn hj), Option.bind_some, if_neg (by decide), Option.bind_some, Option.bind_some, grd_y k10, a1, Option.bind_some, grd_y a4, a7, grd_y hh, grd_y k10, nclampI (by omega), g7, hmo, show oI (some m) = nI m from rfl, c_hasHouse m1.1.1 hn v2, if_pos (house_in hn (show m < n by omega)), Option.bind_some, if_neg (by decide), if_neg w2]
        obtain ⟨⟨M2, z2⟩, hg, f2, R', hR1', hR2', hz2⟩ := r_between (p2 := p2) m1 hv hj hmo
        simp only at f2 hz2
        rw [if_neg w2] at hz2
        subst hz2
        exact ⟨M, M2, -1, hf, hg, PTQ.end (y := 0) h Fw.rf m1 s1 (by omega) hP (PMN.fr (S := fun _ _ => False) Fr.rf) rfl (f2.up (fun a k w => Or.inl (Or.inl (Or.inl w)))) (hN.e f2 (fun a k w => by unfold Srv at w; omega))⟩
  · refine PCALL.same h hP hN (-1) ?_ ?_
    · show f_X11_between M 0 _ _ = _
      rw [between11, grd_y o1, o2, Option.bind_some, grd_y k10, c_hasHouse m1.1.1 hn v2, if_neg w, Option.bind_some, if_pos rfl]
    · show f_X12_between M 47 _ _ = _
      rw [between12, grd_y l0, r_isHouse m1.1.2.1 hn v1, if_neg w, Option.bind_some, if_pos rfl]
