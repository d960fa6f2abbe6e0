/-! the way: the reference -/
theorem wk_head {adj : Nat → Nat → Prop} {g : Nat} : ∀ n q, wk adj q (n + 1) g ↔ ∃ r, adj q r ∧ wk adj r n g := by
  intro n q
  constructor
  · revert g
    induction n with
    | zero =>
      intro g h
      obtain ⟨r, h1, h2⟩ := h
      rw [show r = q from h1] at h2
      exact ⟨g, h2, rfl⟩
    | succ n ih =>
      intro g h
      obtain ⟨r, h1, h2⟩ := h
      obtain ⟨s, g1, g2⟩ := ih h1
      exact ⟨s, g1, r, g2, h2⟩
  · rintro ⟨r, h1, h2⟩
    have h3 : wk adj q 1 r := ⟨q, rfl, h1⟩
    have := wk_app (c := g) h3 n h2
    rw [Nat.add_comm] at this
    exact this
theorem fI_n {o : Option Nat} (h : ∀ d, o = some d → d < 9331) {u : Nat} (hu : u < 10000) : fI o = nI u ↔ o = some u := by
  cases o with
  | none =>
    show nI 1000000 = nI u ↔ _
    rw [neqI (by omega) (by omega)]
    exact ⟨fun q => by omega, fun q => by cases q⟩
  | some d =>
    have := h d rfl
    show nI d = nI u ↔ _
    rw [neqI (by omega) (by omega)]
    exact ⟨fun q => by rw [q], fun q => by cases q; rfl⟩
theorem ly67 {M : Mem} (h : LayM M) : mR M 47 37 = some 67 ∧ okO M 17 67 ∧ mL M 67 = 9331 := by
  unfold LayM at h
  simp only [h, and_self]
def S67 (a _k : Nat) : Prop := a = 67
def WCT (M : Mem) (K : Nat → Int32) (y : Nat) (D : Nat → Option Nat) : Prop := LayM M ∧ (∀ p, p < 9331 → NXP M K y p) ∧ (∀ p, p < 9331 → mI M 65 p = fI (D p)) ∧ ∀ p d, D p = some d → d < 9331
theorem WCT.fr {M M1 : Mem} {K : Nat → Int32} {y : Nat} {D : Nat → Option Nat} (h : WCT M K y D) (hF : Fr S67 M M1) : WCT M1 K y D := ⟨h.1.fr hF, fun p hp => (h.2.1 p hp).fr hF (by unfold S67; omega) (fun i _ => by unfold S67; omega) (EDG_len (dR_v hp).1), fun p hp => by rw [hF.i (by unfold S67; omega)]; exact h.2.2.1 p hp, h.2.2.2⟩
def LD (M : Mem) (B : Nat → Bool) : Prop := ∀ p, p < 9331 → mI M 67 p = b1 (B p)
theorem nar_b1 {b : Bool} : vp_nar .boolean (b1 b) = b1 b := by
  cases b <;> decide
noncomputable def wl0 (a0 : Nat) (p2 : Int32) : Mem × Int32 → Option ((Mem × Int32) ⊕ (Mem)) := (fun s23 => if 9331 ≤ s23.2 then (some (.inr s23.1)) else (Option.bind (mR s23.1 a0 37) (fun r32 => Option.bind (f_X12_placeOf p2) (fun q33 => bv (fun (s37 : Int32) => grd (okO s23.1 17 r32) (grd (vp_in s23.2 (mL s23.1 r32)) (bv (wI s23.1 r32 s23.2.toNatClampNeg (vp_nar .boolean s37)) (fun M42 => bv (s23.2 + 1 : Int32) (fun x46 => some (.inl (M42, x46))))))) (fun j36 => if s23.2 = q33 then (j36 1) else (j36 0))))))
noncomputable def wl3 (a0 : Nat) (p dd : Int32) : Mem × Int32 → Option ((Mem × Int32) ⊕ (Mem)) := (fun s76 => Option.bind (mR s76.1 a0 33) (fun r85 => grd (okO s76.1 14 r85) (grd (vp_in p (mL s76.1 r85)) (if (mI s76.1 r85 p.toNatClampNeg) ≤ s76.2 then (some (.inr s76.1)) else (Option.bind (mR s76.1 a0 37) (fun r88 => Option.bind (mR s76.1 a0 37) (fun r89 => grd (okO s76.1 17 r89) (grd (vp_in p (mL s76.1 r89)) (bv (fun (s93 : Int32) => grd (okO s76.1 17 r88) (grd (vp_in p (mL s76.1 r88)) (bv (wI s76.1 r88 p.toNatClampNeg (vp_nar .boolean s93)) (fun M98 => bv (s76.2 + 1 : Int32) (fun x102 => some (.inl (M98, x102))))))) (fun j92 => bv (fun (s104 : Unit) => j92 1) (fun j103 => if (mI s76.1 r89 p.toNatClampNeg) = 0 then (Option.bind (mR s76.1 a0 37) (fun r107 => Option.bind (mR s76.1 a0 32) (fun r108 => grd (okO s76.1 14 r108) (grd (vp_in ((46 * p) + s76.2) (mL s76.1 r108)) (grd (okO s76.1 17 r107) (grd (vp_in (mI s76.1 r108 ((46 * p) + s76.2).toNatClampNeg) (mL s76.1 r107)) (bv (fun (s114 : Unit) => j92 0) (fun j113 => if (mI s76.1 r107 (mI s76.1 r108 ((46 * p) + s76.2).toNatClampNeg).toNatClampNeg) = 0 then (j113 ()) else (Option.bind (mR s76.1 a0 35) (fun r117 => Option.bind (mR s76.1 a0 32) (fun r118 => grd (okO s76.1 14 r118) (grd (vp_in ((46 * p) + s76.2) (mL s76.1 r118)) (grd (okO s76.1 14 r117) (grd (vp_in (mI s76.1 r118 ((46 * p) + s76.2).toNatClampNeg) (mL s76.1 r117)) (if (mI s76.1 r117 (mI s76.1 r118 ((46 * p) + s76.2).toNatClampNeg).toNatClampNeg) = (dd + 1) then (j103 ()) else (j113 ())))))))))))))))) else (j103 ()))))))))))))
noncomputable def wl2 (a0 : Nat) (dd : Int32) : Mem × Int32 → Option ((Mem × Int32) ⊕ (Mem)) := (fun s58 => if 9331 ≤ s58.2 then (some (.inr s58.1)) else (Option.bind (mR s58.1 a0 35) (fun r67 => grd (okO s58.1 14 r67) (grd (vp_in s58.2 (mL s58.1 r67)) (bv (fun (s71 : Mem) => bv (s58.2 + 1 : Int32) (fun x75 => some (.inl (s71, x75)))) (fun j70 => if (mI s58.1 r67 s58.2.toNatClampNeg) = dd then (Option.bind (loopO (wl3 a0 s58.2 dd) (s58.1, 0)) (fun (x83 : Mem) => j70 x83)) else (j70 s58.1)))))))
noncomputable def wl1 (a0 : Nat) : Mem × Int32 → Option ((Mem × Int32) ⊕ (Mem)) := (fun s49 => if s49.2 < 0 then (some (.inr s49.1)) else (Option.bind (loopO (wl2 a0 s49.2) (s49.1, 0)) (fun (x65 : Mem) => bv (s49.2 + (-1) : Int32) (fun x125 => some (.inl (x65, x125))))))
noncomputable def wf1 (x56 : Mem) (a0 : Nat) (p dd : Int32) : Int32 × Int32 → Option ((Int32 × Int32) ⊕ Int32) := (fun s138 => Option.bind (mR x56 a0 33) (fun r146 => grd (okO x56 14 r146) (grd (vp_in p (mL x56 r146)) (if (mI x56 r146 p.toNatClampNeg) ≤ s138.2 then (some (.inr s138.1)) else (Option.bind (mR x56 a0 32) (fun r149 => grd (okO x56 14 r149) (grd (vp_in ((46 * p) + s138.2) (mL x56 r149)) (bv (mI x56 r149 ((46 * p) + s138.2).toNatClampNeg : Int32) (fun x152 => Option.bind (mR x56 a0 37) (fun r153 => grd (okO x56 17 r153) (grd (vp_in x152 (mL x56 r153)) (bv (fun (s157 : Int32) => bv (s138.2 + 1 : Int32) (fun x160 => some (.inl (s157, x160)))) (fun j156 => if (mI x56 r153 x152.toNatClampNeg) = 0 then (j156 s138.1) else (Option.bind (mR x56 a0 35) (fun r161 => grd (okO x56 14 r161) (grd (vp_in x152 (mL x56 r161)) (if (mI x56 r161 x152.toNatClampNeg) = (dd + 1) then (if s138.1 ≤ x152 then (j156 s138.1) else (j156 x152)) else (j156 s138.1))))))))))))))))))
noncomputable def wf0 (x56 : Mem) (a0 : Nat) (p3 : Int32) : Int32 × Int32 → Option ((Int32 × Int32) ⊕ Int32) := (fun s130 => if p3 ≤ s130.2 then (some (.inr s130.1)) else (Option.bind (loopO (wf1 x56 a0 s130.1 s130.2) (9331, 0)) (fun (x144 : Int32) => bv (s130.2 + 1 : Int32) (fun x164 => some (.inl (x144, x164))))))
theorem way12 {M : Mem} {a0 : Nat} {p1 p2 p3 : Int32} : f_X12_way M a0 p1 p2 p3 = Option.bind (f_X12_isDish p1) (fun q1 => if q1 = 0 then (some (M, (-1))) else (Option.bind (f_X12_isDish p2) (fun q4 => if q4 = 0 then (some (M, (-1))) else (if 0 ≤ p3 then (Option.bind (f_X12_placeOf p1) (fun q7 => grd (okO M 12 a0) (Option.bind (f_X12_measures M a0 q7) (fun q11 => Option.bind (mR q11 a0 35) (fun r16 => Option.bind (f_X12_placeOf p2) (fun q17 => grd (okO q11 14 r16) (grd (vp_in q17 (mL q11 r16)) (bv (mI q11 r16 q17.toNatClampNeg : Int32) (fun x22 => if x22 = 1000000 then (some (q11, (-1))) else (if p3 ≤ x22 then (Option.bind (loopO (wl0 a0 p2) (q11, 0)) (fun (x30 : Mem) => bv (x22 - 1 : Int32) (fun x48 => Option.bind (loopO (wl1 a0) (x30, x48)) (fun (x56 : Mem) => Option.bind (f_X12_placeOf p1) (fun q127 => Option.bind (loopO (wf0 x56 a0 p3) (q127, 0)) (fun (x136 : Int32) => Option.bind (f_X12_dishAt x136) (fun q165 => some (x56, q165)))))))) else (some (q11, (-1))))))))))))) else (some (M, (-1))))))) := rfl
theorem r_wl0 {M : Mem} (h : LayM M) {l : List Nat} (hl : DL l) : TT (loopO (wl0 47 (nI (num l))) (M, 0)) (fun M1 => Fr S67 M M1 ∧ LD M1 (fun p => decide (p = rank l))) := by
  obtain ⟨l1, l2, l3⟩ := ly67 h
  have hr := rank_lt hl
  refine TT_for 9331 (fun k s => ∃ M', s = (M', nI k) ∧ Fr S67 M M' ∧ ∀ p, p < k → mI M' 67 p = b1 (decide (p = rank l))) ?_ (Nat.zero_le _) ⟨M, rfl, Fr.rf, fun j hj => by omega⟩
  rintro k s hk ⟨M', rfl, hF, hv⟩
  unfold wl0
  simp only
  by_cases w : k = 9331
  · rw [if_pos ((le9331 hk).mpr w), TT_some]
    subst w
    exact ⟨hF, hv⟩
  · rw [if_neg (fun q => w ((le9331 hk).mp q)), hF.2.2.2.2.1, l1, Option.bind_some, p_placeOf hl, Option.bind_some, TT_bv]
    have fin : ∀ b : Bool, b = decide (k = rank l) → TT (grd (okO M' 17 67) (grd (vp_in (nI k) (mL M' 67)) (bv (wI M' 67 (nI k).toNatClampNeg (vp_nar .boolean (b1 b))) (fun M42 => bv (nI k + 1 : Int32) (fun x46 => (some (.inl (M42, x46)) : Option ((Mem × Int32) ⊕ (Mem))))))) ) (fun r => r.elim (fun s' => k < 9331 ∧ ∃ M', s' = (M', nI (k + 1)) ∧ Fr S67 M M' ∧ ∀ p, p < k + 1 → mI M' 67 p = b1 (decide (p = rank l))) (fun M1 => Fr S67 M M1 ∧ LD M1 (fun p => decide (p = rank l)))) := fun b hb => by
      rw [grd_y (okO_fr hF l2), hF.2.2.2.1, l3, grd_y ((nvp (by omega)).mpr (by omega)), TT_bv, TT_bv, TT_some, nclampI (by omega), nar_b1]
      refine ⟨by omega, _, by rw [nsucc], hF.wI rfl, fun j hj => ?_⟩
      rw [mI_wI]
      by_cases q : j = k
      · rw [if_pos ⟨rfl, q⟩, hb, q]
      · rw [if_neg (fun z => q z.2)]
        exact hv j (by omega)
    by_cases w2 : k = rank l
    · rw [if_pos ((neqI (by omega) (by omega)).mpr w2)]
      exact fin true (by simp [w2])
    · rw [if_neg (fun q => w2 ((neqI (by omega) (by omega)).mp q))]
      exact fin false (by simp [w2])
theorem r_wl3 {M : Mem} {K : Nat → Int32} {y : Nat} {D : Nat → Option Nat} (hk : KTH K) (h : WCT M K y D) {B : Nat → Bool} (hB : LD M B) {p dd : Nat} (hp : p < 9331) (hd : D p = some dd) : TT (loopO (wl3 47 (nI p) (nI dd)) (M, 0)) (fun M1 => ∃ v : Bool, Fr S67 M M1 ∧ LD M1 (fun q => if q = p then v else B q) ∧ (v = true ↔ (B p = true ∨ ∃ r, adjK K y p r ∧ B r = true ∧ D r = some (dd + 1)))) := by
  obtain ⟨dl, dr⟩ := dR_v hp
  have hlen := EDG_len (K := K) (y := y) dl
  have hdd := h.2.2.2 p dd hd
  refine TT_for (EDG K y (dR p)).length (fun k s => ∃ M' v, s = (M', nI k) ∧ Fr S67 M M' ∧ LD M' (fun q => if q = p then v else B q) ∧ (v = true ↔ (B p = true ∨ ∃ j c, j < k ∧ (EDG K y (dR p))[j]? = some c ∧ B (rank c.1) = true ∧ D (rank c.1) = some (dd + 1)))) ?_ (Nat.zero_le _) ⟨M, B p, rfl, Fr.rf, fun q hq => ?_, ?_⟩
  · rintro i s hi ⟨M', v, rfl, hF, hL, hv⟩
    obtain ⟨hM', n', c1, -⟩ := h.fr hF
    obtain ⟨l0, l1, l2, l3, -⟩ := lyF hM'
    obtain ⟨n1, n2, n3, n4, n5, n6⟩ := lyN hM'
    obtain ⟨r1, r2, r3⟩ := ly67 hM'
    unfold wl3
    simp only
    rw [n1, Option.bind_some, grd_y n2, n3, grd_y ((nvp (by omega)).mpr hp), nclampI (a := p) (by omega), (n' p hp).1]
    by_cases w : i = (EDG K y (dR p)).length
    · rw [if_pos ((nleI (by omega) (by omega)).mpr (by omega)), TT_some]
      refine ⟨v, hF, hL, hv.trans ⟨?_, ?_⟩⟩
      · rintro (q | ⟨j, c, q1, q2, q3, q4⟩)
        · exact Or.inl q
        · exact Or.inr ⟨rank c.1, ⟨hp, c, List.mem_of_getElem? q2, rfl⟩, q3, q4⟩
      · rintro (q | ⟨r, ⟨_, c, hc, e1⟩, q3, q4⟩)
        · exact Or.inl q
        · obtain ⟨j, hj, ej⟩ := List.getElem_of_mem hc
          refine Or.inr ⟨j, c, by omega, by rw [List.getElem?_eq_getElem hj, ej], ?_, ?_⟩
          · rw [e1]; exact q3
          · rw [e1]; exact q4
    · have hlt : i < (EDG K y (dR p)).length := by omega
      have hc := List.getElem?_eq_getElem hlt
      have hcm := List.getElem_mem hlt
      generalize (EDG K y (dR p))[i] = c at hc hcm
      have hdc := (EDG_DL hk dl hcm).1
      have hrl := rank_lt hdc
      have e63 := (n' p hp).2 i c hc
      have hadj : adjK K y p (rank c.1) := ⟨hp, c, hcm, rfl⟩
      have hne : ¬ rank c.1 = p := fun q => adjK_ne hk hadj q.symm
      have eP : mI M' 67 p = b1 v := by
        have := hL p hp
        simp only [if_pos] at this
        exact this
      have eR : mI M' 67 (rank c.1) = b1 (B (rank c.1)) := by
        have := hL _ hrl
        simp only [if_neg hne] at this
        exact this
      rw [if_neg (fun q => w (by have := (nleI (by omega) (by omega)).mp q; omega)), r1, Option.bind_some, Option.bind_some, grd_y r2, r3, grd_y ((nvp (by omega)).mpr hp), TT_bv, TT_bv, eP]
      have fin : ∀ v' : Bool, (v' = true ↔ (v = true ∨ (B (rank c.1) = true ∧ D (rank c.1) = some (dd + 1)))) → TT (grd (okO M' 17 67) (grd (vp_in (nI p) (9331)) (bv (wI M' 67 p (vp_nar .boolean (b1 v'))) (fun M98 => bv (nI i + 1 : Int32) (fun x102 => (some (.inl (M98, x102)) : Option ((Mem × Int32) ⊕ (Mem)))))))) (fun r => r.elim (fun s' => i < (EDG K y (dR p)).length ∧ ∃ M' v, s' = (M', nI (i + 1)) ∧ Fr S67 M M' ∧ LD M' (fun q => if q = p then v else B q) ∧ (v = true ↔ (B p = true ∨ ∃ j c, j < i + 1 ∧ (EDG K y (dR p))[j]? = some c ∧ B (rank c.1) = true ∧ D (rank c.1) = some (dd + 1)))) (fun M1 => ∃ v : Bool, Fr S67 M M1 ∧ LD M1 (fun q => if q = p then v else B q) ∧ (v = true ↔ (B p = true ∨ ∃ r, adjK K y p r ∧ B r = true ∧ D r = some (dd + 1))))) := fun v' hv' => by
        rw [grd_y r2, grd_y ((nvp (by omega)).mpr hp), TT_bv, TT_bv, TT_some, nar_b1]
        refine ⟨hlt, _, v', by rw [nsucc], hF.wI rfl, fun q hq => ?_, hv'.trans ?_⟩
        · rw [mI_wI]
          by_cases z : q = p
          · rw [if_pos ⟨rfl, z⟩]
            simp only [if_pos z]
          · rw [if_neg (fun u => z u.2)]
            simp only [if_neg z]
            have := hL q hq
            simp only [if_neg z] at this
            exact this
        · rw [hv]
          constructor
          · rintro ((q | ⟨j, c', q1, q2, q3, q4⟩) | ⟨q1, q2⟩)
            · exact Or.inl q
            · exact Or.inr ⟨j, c', by omega, q2, q3, q4⟩
            · exact Or.inr ⟨i, c, by omega, hc, q1, q2⟩
          · rintro (q | ⟨j, c', q1, q2, q3, q4⟩)
            · exact Or.inl (Or.inl q)
            · by_cases z : j = i
              · subst z
                rw [hc] at q2
                cases q2
                exact Or.inr ⟨q3, q4⟩
              · exact Or.inl (Or.inr ⟨j, c', by omega, q2, q3, q4⟩)
      cases v with
      | true =>
        rw [if_neg (by decide)]
        exact fin true (by simp)
      | false =>
        rw [if_pos (show b1 false = 0 from rfl), Option.bind_some, n4, Option.bind_some, grd_y n5, show (46 : Int32) * nI p = nI (46 * p) from nmul 46 p, nadd, n6, grd_y ((nvp (by omega)).mpr (by omega)), grd_y r2, nclampI (a := 46 * p + i) (by omega), e63, r3, grd_y ((nvp (by omega)).mpr hrl), TT_bv, nclampI (a := rank c.1) (by omega), eR]
        cases hBr : B (rank c.1) with
        | false =>
          rw [if_pos (show b1 false = 0 from rfl)]
          exact fin false (by simp [hBr])
        | true =>
          rw [if_neg (by decide), l1, Option.bind_some, Option.bind_some, grd_y n5, n6, grd_y ((nvp (by omega)).mpr (by omega)), grd_y l2, e63, l3, grd_y ((nvp (by omega)).mpr hrl), nclampI (a := rank c.1) (by omega), c1 _ hrl, nsucc dd]
          by_cases w3 : D (rank c.1) = some (dd + 1)
          · rw [if_pos ((fI_n (fun d q => h.2.2.2 _ d q) (by omega)).mpr w3)]
            exact fin true (by simp [hBr, w3])
          · rw [if_neg (fun q => w3 ((fI_n (fun d q => h.2.2.2 _ d q) (by omega)).mp q))]
            exact fin false (by simp [w3])
  · by_cases z : q = p
    · simp only [if_pos z]
      rw [z]
      exact hB p hp
    · simp only [if_neg z]
      exact hB q hq
  · constructor
    · exact fun q => Or.inl q
    · rintro (q | ⟨j, c, q1, _⟩)
      · exact q
      · omega
