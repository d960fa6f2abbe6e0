/-! first() on both sides -/
theorem fI_far2 {o : Option Nat} (h : ∀ d, o = some d → d < 1000000) : (1000000 : Int32) ≤ fI o ↔ o = none := by
  cases o with
  | none => exact ⟨fun _ => rfl, fun _ => show (nI 1000000 : Int32) ≤ nI 1000000 from (nleI (by omega) (by omega)).mpr (Nat.le_refl _)⟩
  | some d =>
    have := h d rfl
    show (nI 1000000 : Int32) ≤ nI d ↔ _
    rw [nleI (by omega) (by omega)]
    exact ⟨fun q => by omega, fun q => by cases q⟩
theorem fI_near {o : Option Nat} (h : ∀ d, o = some d → d < 9331) : fI o < (1000000 : Int32) ↔ ∃ d, o = some d := by
  cases o with
  | none =>
    show nI 1000000 < nI 1000000 ↔ _
    rw [nltI (by omega) (by omega)]
    exact ⟨fun q => by omega, fun ⟨d, q⟩ => by cases q⟩
  | some d =>
    have := h d rfl
    show nI d < nI 1000000 ↔ _
    rw [nltI (by omega) (by omega)]
    exact ⟨fun _ => ⟨d, rfl⟩, fun _ => by omega⟩
theorem ly69 {M : Mem} (h : LayM M) : mR M 47 39 = some 69 ∧ okO M 14 69 ∧ mL M 69 = 9331 ∧ mR M 47 3 = some 49 ∧ okO M 14 49 ∧ mL M 49 = 5666 := by
  unfold LayM at h
  simp only [h, and_self]
def S69 (a _k : Nat) : Prop := a = 69
def SUMF (M : Mem) (f : Nat → Option Nat) : Prop := ∀ p, p < 9331 → mI M 69 p = fI (f p)
noncomputable def fr0 (a0 : Nat) : Mem × Int32 → Option ((Mem × Int32) ⊕ (Mem)) := (fun s13 => if 9331 ≤ s13.2 then (some (.inr s13.1)) else (Option.bind (mR s13.1 a0 39) (fun r22 => grd (okO s13.1 14 r22) (grd (vp_in s13.2 (mL s13.1 r22)) (bv (wI s13.1 r22 s13.2.toNatClampNeg 0) (fun M25 => bv (s13.2 + 1 : Int32) (fun x29 => some (.inl (M25, x29)))))))))
noncomputable def fr2 (a0 : Nat) : Mem × Int32 → Option ((Mem × Int32) ⊕ (Mem)) := (fun s63 => if 9331 ≤ s63.2 then (some (.inr s63.1)) else (Option.bind (mR s63.1 a0 39) (fun r72 => Option.bind (mR s63.1 a0 39) (fun r73 => grd (okO s63.1 14 r73) (grd (vp_in s63.2 (mL s63.1 r73)) (bv (fun (s77 : Int32) => grd (okO s63.1 14 r72) (grd (vp_in s63.2 (mL s63.1 r72)) (bv (wI s63.1 r72 s63.2.toNatClampNeg s77) (fun M82 => bv (s63.2 + 1 : Int32) (fun x86 => some (.inl (M82, x86))))))) (fun j76 => bv (fun (s88 : Unit) => j76 1000000) (fun j87 => if 1000000 ≤ (mI s63.1 r73 s63.2.toNatClampNeg) then (j87 ()) else (Option.bind (mR s63.1 a0 35) (fun r91 => grd (okO s63.1 14 r91) (grd (vp_in s63.2 (mL s63.1 r91)) (if (mI s63.1 r91 s63.2.toNatClampNeg) < 1000000 then (Option.bind (mR s63.1 a0 39) (fun r94 => grd (okO s63.1 14 r94) (grd (vp_in s63.2 (mL s63.1 r94)) (Option.bind (mR s63.1 a0 35) (fun r97 => grd (okO s63.1 14 r97) (grd (vp_in s63.2 (mL s63.1 r97)) (j76 ((mI s63.1 r94 s63.2.toNatClampNeg) + (mI s63.1 r97 s63.2.toNatClampNeg))))))))) else (j87 ())))))))))))))
noncomputable def fr1 (a0 : Nat) (p1 : Int32) : Mem × Int32 → Option ((Mem × Int32) ⊕ (Mem)) := (fun s31 => Option.bind (mR s31.1 a0 3) (fun r40 => grd (okO s31.1 14 r40) (grd (vp_in 56 (mL s31.1 r40)) (if (mI s31.1 r40 (56 : Int32).toNatClampNeg) ≤ s31.2 then (some (.inr s31.1)) else (Option.bind (f_X12_isOne p1 s31.2) (fun q43 => bv (fun (s47 : Mem) => bv (s31.2 + 1 : Int32) (fun x51 => some (.inl (s47, x51)))) (fun j46 => if q43 = 0 then (j46 s31.1) else (Option.bind (f_X12_fact s31.1 a0 s31.2 2) (fun q52 => Option.bind (f_X12_placeOf q52) (fun q55 => Option.bind (f_X12_measuresTo s31.1 a0 q55) (fun q58 => Option.bind (loopO (fr2 a0) (q58, 0)) (fun (x70 : Mem) => j46 x70))))))))))))
noncomputable def fr3 (x38 : Mem) (a0 : Nat) : Int32 × Int32 × Int32 → Option ((Int32 × Int32 × Int32) ⊕ (Int32 × Int32)) := (fun s102 => if 9331 ≤ s102.2.2 then (some (.inr (s102.1, s102.2.1))) else (Option.bind (mR x38 a0 39) (fun r110 => grd (okO x38 14 r110) (grd (vp_in s102.2.2 (mL x38 r110)) (bv (fun (s114 : Int32 × Int32) => bv (s102.2.2 + 1 : Int32) (fun x117 => some (.inl (s114.1, s114.2, x117)))) (fun j113 => if 1000000 ≤ (mI x38 r110 s102.2.2.toNatClampNeg) then (j113 (s102.1, s102.2.1)) else (bv (fun (s119 : Unit) => bv (fun (s123 : Int32 × Int32) => bv (s123.2 + 1 : Int32) (fun x126 => j113 (s123.1, x126))) (fun j122 => bv (fun (s128 : Unit) => j122 (s102.2.2, 0)) (fun j127 => if s102.1 = (-1) then (j127 ()) else (Option.bind (mR x38 a0 39) (fun r131 => grd (okO x38 14 r131) (grd (vp_in s102.2.2 (mL x38 r131)) (Option.bind (mR x38 a0 39) (fun r134 => grd (okO x38 14 r134) (grd (vp_in s102.1 (mL x38 r134)) (if (mI x38 r134 s102.1.toNatClampNeg) ≤ (mI x38 r131 s102.2.2.toNatClampNeg) then (j122 (s102.1, s102.2.1)) else (j127 ()))))))))))) (fun j118 => if s102.1 = (-1) then (j118 ()) else (Option.bind (mR x38 a0 39) (fun r137 => grd (okO x38 14 r137) (grd (vp_in s102.2.2 (mL x38 r137)) (Option.bind (mR x38 a0 39) (fun r140 => grd (okO x38 14 r140) (grd (vp_in s102.1 (mL x38 r140)) (if (mI x38 r137 s102.2.2.toNatClampNeg) ≤ (mI x38 r140 s102.1.toNatClampNeg) then (j118 ()) else (j113 (s102.1, s102.2.1)))))))))))))))))
theorem first12 {M : Mem} {a0 : Nat} {p1 p2 : Int32} : f_X12_first M a0 p1 p2 = grd (okO M 12 a0) (Option.bind (f_X12_areHouses M a0 p1) (fun q2 => if q2 = 0 then (some (M, (-1))) else (Option.bind (f_X12_lies p2 0 2) (fun q5 => if q5 = 0 then (some (M, (-1))) else (Option.bind (f_X12_laysNext M a0) (fun q8 => Option.bind (loopO (fr0 a0) (q8, 0)) (fun (x20 : Mem) => Option.bind (loopO (fr1 a0 p1) (x20, 0)) (fun (x38 : Mem) => Option.bind (loopO (fr3 x38 a0) ((-1), 0, 0)) (fun (x108 : Int32 × Int32) => if x108.1 = (-1) then (some (x38, (-1))) else (if p2 = 0 then (Option.bind (mR x38 a0 39) (fun r146 => grd (okO x38 14 r146) (grd (vp_in x108.1 (mL x38 r146)) (some (x38, mI x38 r146 x108.1.toNatClampNeg))))) else (if p2 = 1 then (some (x38, x108.2)) else (Option.bind (f_X12_dishAt x108.1) (fun q143 => some (x38, q143)))))))))))))) := rfl
theorem r_fr0 {M : Mem} (h : LayM M) : TT (loopO (fr0 47) (M, 0)) (fun M1 => Fr S69 M M1 ∧ SUMF M1 (fun _ => some 0)) := by
  obtain ⟨l1, l2, l3, -⟩ := ly69 h
  refine TT_for 9331 (fun k s => ∃ M', s = (M', nI k) ∧ Fr S69 M M' ∧ ∀ j, j < k → mI M' 69 j = nI 0) ?_ (Nat.zero_le _) ⟨M, rfl, Fr.rf, fun j hj => by omega⟩
  rintro k s hk ⟨M', rfl, hF, hv⟩
  unfold fr0
  simp only
  by_cases w : k = 9331
  · rw [if_pos ((le9331 hk).mpr w), TT_some]
    subst w
    exact ⟨hF, hv⟩
  · rw [if_neg (fun q => w ((le9331 hk).mp q)), hF.2.2.2.2.1, l1, Option.bind_some, grd_y (okO_fr hF l2), hF.2.2.2.1, l3, grd_y ((nvp (by omega)).mpr (by omega)), TT_bv, TT_bv, TT_some, nclampI (by omega)]
    refine ⟨by omega, _, by rw [nsucc], hF.wI rfl, fun j hj => ?_⟩
    rw [mI_wI]
    by_cases q : j = k
    · rw [if_pos ⟨rfl, q⟩]
      rfl
    · rw [if_neg (fun z => q z.2)]
      exact hv j (by omega)
theorem r_fr2 {M : Mem} (h : LayM M) {f g : Nat → Option Nat} (hf : SUMF M f) (hg : FARR M g) (bf : ∀ p s, f p = some s → s < 1000000) (bg : ∀ p s, g p = some s → s < 9331) : TT (loopO (fr2 47) (M, 0)) (fun M1 => Fr S69 M M1 ∧ SUMF M1 (fun p => add2 (f p) (g p))) := by
  obtain ⟨l1, l2, l3, -⟩ := ly69 h
  obtain ⟨n0, n1, n2, n3, -⟩ := lyF h
  refine TT_for 9331 (fun k s => ∃ M', s = (M', nI k) ∧ Fr S69 M M' ∧ (∀ p, p < k → mI M' 69 p = fI (add2 (f p) (g p))) ∧ ∀ p, k ≤ p → p < 9331 → mI M' 69 p = fI (f p)) ?_ (Nat.zero_le _) ⟨M, rfl, Fr.rf, (fun j hj => by omega), fun p _ hp => hf p hp⟩
  rintro k s hk ⟨M', rfl, hF, hv1, hv2⟩
  unfold fr2
  simp only
  by_cases w : k = 9331
  · rw [if_pos ((le9331 hk).mpr w), TT_some]
    subst w
    exact ⟨hF, hv1⟩
  · have hk9 : k < 9331 := by omega
    rw [if_neg (fun q => w ((le9331 hk).mp q)), hF.2.2.2.2.1, l1, Option.bind_some, Option.bind_some, grd_y (okO_fr hF l2), hF.2.2.2.1, l3, grd_y ((nvp (by omega)).mpr hk9), nclampI (by omega), hv2 k (Nat.le_refl _) hk9, TT_bv, TT_bv]
    have fin : ∀ x, x = fI (add2 (f k) (g k)) → TT (grd (okO M' 14 69) (grd (vp_in (nI k) 9331) (bv (wI M' 69 k x) (fun M20 => bv (nI k + 1 : Int32) (fun x24 => (some (.inl (M20, x24)) : Option ((Mem × Int32) ⊕ (Mem)))))))) (fun r => r.elim (fun s' => k < 9331 ∧ ∃ M', s' = (M', nI (k + 1)) ∧ Fr S69 M M' ∧ (∀ p, p < k + 1 → mI M' 69 p = fI (add2 (f p) (g p))) ∧ ∀ p, k + 1 ≤ p → p < 9331 → mI M' 69 p = fI (f p)) (fun M1 => Fr S69 M M1 ∧ SUMF M1 (fun p => add2 (f p) (g p)))) := fun x hx => by
      rw [grd_y (okO_fr hF l2), grd_y ((nvp (by omega)).mpr hk9), TT_bv, TT_bv, TT_some]
      refine ⟨hk9, _, by rw [nsucc], hF.wI rfl, fun p hp => ?_, fun p h1 h2 => ?_⟩
      · rw [mI_wI]
        by_cases q : p = k
        · rw [if_pos ⟨rfl, q⟩, hx, q]
        · rw [if_neg (fun z => q z.2)]
          exact hv1 p (by omega)
      · rw [mI_wI, if_neg (by omega)]
        exact hv2 p (by omega) h2
    have ga : mI M' 65 k = fI (g k) := by
      rw [hF.i (by unfold S69; omega)]
      exact hg k hk9
    cases h1 : f k with
    | none =>
      rw [if_pos (show (1000000 : Int32) ≤ fI none from (fI_far2 (fun d q => by cases q)).mpr rfl)]
      exact fin 1000000 (by rw [h1]; rfl)
    | some a =>
      have ha := bf k a h1
      rw [if_neg (fun q => by have := (fI_far2 (fun d z => by cases z; exact ha)).mp q; cases this), n1, Option.bind_some, grd_y (okO_fr hF n2), n3, grd_y ((nvp (by omega)).mpr hk9), ga]
      cases h2 : g k with
      | none =>
        rw [if_neg (fun q => by obtain ⟨d, z⟩ := (fI_near (fun d z => by cases z)).mp q; cases z)]
        exact fin 1000000 (by rw [h1, h2]; rfl)
      | some e =>
        have he := bg k e h2
        rw [if_pos ((fI_near (fun d z => by cases z; exact he)).mpr ⟨e, rfl⟩), Option.bind_some, grd_y (okO_fr hF l2), l3, grd_y ((nvp (by omega)).mpr hk9), Option.bind_some, grd_y (okO_fr hF n2), n3, grd_y ((nvp (by omega)).mpr hk9), hv2 k (Nat.le_refl _) hk9, h1, ga, h2]
        exact fin _ (by rw [h1, h2]; exact nadd a e)
def Sfz (a _k : Nat) : Prop := a = 65 ∨ a = 69
theorem r_fr1 {M : Mem} {K : Nat → Int32} {y n b : Nat} {mo : Nat → Option Nat} {yr : Nat → Nat} {di : Nat → List Nat} (hk : KTH K) (hM : LayM M) (hN : ∀ p, p < 9331 → NXP M K y p) (hv : HSV M n mo yr di) (hb : b < 4096) {T : Nat → Nat → Option Nat} (hT : ∀ h, h < n → TST K y (rank (di h)) (T h)) (h0 : SUMF M (fun _ => some 0)) : TT (loopO (fr1 47 (nI b)) (M, 0)) (fun M1 => Fr Sfz M M1 ∧ SUMF M1 (smF T b n)) := by
  have hn := hv.1
  refine TT_for n (fun h s => ∃ M', s = (M', nI h) ∧ Fr Sfz M M' ∧ SUMF M' (smF T b h)) ?_ (Nat.zero_le _) ⟨M, rfl, Fr.rf, h0⟩
  rintro h s hh ⟨M', rfl, hF, hf⟩
  have hM' := hM.fr hF
  obtain ⟨l1, l2, l3, l4, l5, l6⟩ := ly69 hM'
  have hv' := hv.frR hF (fun a k w => by unfold Sfz at w; omega)
  have c56 : (56 : Int32).toNatClampNeg = 56 := by decide
  unfold fr1
  simp only
  rw [l4, Option.bind_some, grd_y l5, l6, grd_y (show vp_in 56 5666 from (nvp (a := 56) (by omega)).mpr (by omega)), c56, hv'.2.1]
  by_cases w : h = n
  · rw [if_pos ((nleI (by omega) (by omega)).mpr (by omega)), TT_some]
    subst w
    exact ⟨hF, hf⟩
  · have hlt : h < n := by omega
    obtain ⟨-, g2, g3, -⟩ := hv.2.2.2 h hlt
    have r2 := rank_lt g3
    rw [if_neg (fun q => w (by have := (nleI (by omega) (by omega)).mp q; omega)), r_isOne hb (by omega), Option.bind_some, TT_bv]
    cases wb : b.testBit h with
    | true =>
      rw [if_neg (by decide), r_di hM' hv' hlt, Option.bind_some, p_placeOf g3, Option.bind_some, TT_bind]
      have hN' : ∀ p, p < 9331 → NXP M' K y p := fun p hp => (hN p hp).fr hF (by unfold Sfz; omega) (fun i _ => by unfold Sfz; omega) (EDG_len (dR_v hp).1)
      refine (r_measuresTo hk hM' hN' r2 (hT h hlt)).mono ?_
      rintro M1 ⟨f1, v1⟩
      have hf1 : SUMF M1 (smF T b h) := fun p hp => by rw [f1.i (by unfold S65; omega)]; exact hf p hp
      have bT : ∀ q s, smF T b h q = some s → s < 1000000 := fun q s e => by
        have := smF_le (T := T) (n := n) (fun h p e hh he => (hT h hh).2 p e he) h q s (by omega) e
        omega
      rw [TT_bind]
      refine (r_fr2 (hM'.fr f1) hf1 v1 bT (fun p e he => (hT h hlt).2 p e he)).mono ?_
      rintro M2 ⟨f2, v2⟩
      rw [TT_bv, TT_some]
      refine ⟨hlt, M2, by rw [nsucc], (hF.tr (f1.up (fun a k w => Or.inl w))).tr (f2.up (fun a k w => Or.inr w)), fun p hp => ?_⟩
      rw [v2 p hp, smF, if_pos wb]
    | false =>
      rw [if_pos (show b1 false = 0 from rfl), TT_bv, TT_some]
      refine ⟨hlt, M', by rw [nsucc], hF, fun p hp => ?_⟩
      rw [hf p hp, smF, if_neg (by rw [wb]; decide)]
def BST : Option (Nat × Nat × Nat) → Int32 → Int32 → Prop
  | none, b, c => b = -1 ∧ c = 0
  | some (_, c', r), b, c => b = nI r ∧ c = nI c'
theorem r_fr3 {M : Mem} (h : LayM M) {f : Nat → Option Nat} (hf : SUMF M f) (bf : ∀ p s, f p = some s → s < 1000000) : TT (loopO (fr3 M 47) ((-1), 0, 0)) (fun z => BST (lsF f 9331) z.1 z.2) := by
  obtain ⟨l1, l2, l3, -⟩ := ly69 h
  refine TT_for 9331 (fun (k : Nat) (s : Int32 × Int32 × Int32) => s.2.2 = nI k ∧ BST (lsF f k) s.1 s.2.1) ?_ (Nat.zero_le _) ⟨rfl, rfl, rfl⟩
  rintro k ⟨be, cn, p⟩ hk ⟨rfl, hL⟩
  simp only at hL
  unfold fr3
  simp only
  by_cases w : k = 9331
  · rw [if_pos ((le9331 hk).mpr w), TT_some]
    subst w
    exact hL
  · have hk9 : k < 9331 := by omega
    rw [if_neg (fun q => w ((le9331 hk).mp q)), l1, Option.bind_some, grd_y l2, l3, grd_y ((nvp (by omega)).mpr hk9), TT_bv, nclampI (by omega), hf k hk9]
    have fin : ∀ be' cn' : Int32, BST (lsF f (k + 1)) be' cn' → TT (some (Sum.inl (be', cn', nI k + 1)) : Option ((Int32 × Int32 × Int32) ⊕ (Int32 × Int32))) (fun r => r.elim (fun s' => k < 9331 ∧ s'.2.2 = nI (k + 1) ∧ BST (lsF f (k + 1)) s'.1 s'.2.1) (fun z => BST (lsF f 9331) z.1 z.2)) := fun be' cn' q => by
      rw [TT_some]
      exact ⟨hk9, nsucc k, q⟩
    cases h1 : f k with
    | none =>
      rw [if_pos (show (1000000 : Int32) ≤ fI none from (fI_far2 (fun d q => by cases q)).mpr rfl)]
      refine fin be cn ?_
      rw [lsF, h1]
      exact hL
    | some s =>
      have hs := bf k s h1
      rw [if_neg (fun q => by have := (fI_far2 (fun d z => by cases z; exact hs)).mp q; cases this), TT_bv]
      cases h2 : lsF f k with
      | none =>
        rw [h2] at hL
        obtain ⟨q1, q2⟩ := hL
        subst q1
        subst q2
        rw [if_pos rfl, TT_bv, TT_bv, if_pos rfl, TT_bv]
        refine fin (nI k) 1 ?_
        rw [lsF, h1, h2]
        exact ⟨rfl, rfl⟩
      | some t =>
        obtain ⟨s0, c0, r0⟩ := t
        rw [h2] at hL
        obtain ⟨q1, q2⟩ := hL
        subst q1
        subst q2
        obtain ⟨b1', b2, b3, b4⟩ := lsF_b bf k s0 c0 r0 h2
        have e69 : mI M 69 r0 = nI s0 := by rw [hf r0 (by omega), b4]; rfl
        have ek : mI M 69 k = nI s := by rw [hf k hk9, h1]; rfl
        rw [if_neg (neg1_nI (by omega)), Option.bind_some, grd_y l2, l3, grd_y ((nvp (by omega)).mpr hk9), Option.bind_some, grd_y l2, l3, grd_y ((nvp (by omega)).mpr (show r0 < 9331 by omega)), nclampI (a := r0) (by omega), e69, ek]
        by_cases w3 : s ≤ s0
        · rw [if_pos ((nleI (by omega) (by omega)).mpr w3), TT_bv, TT_bv, if_neg (neg1_nI (by omega)), Option.bind_some, grd_y l2, l3, grd_y ((nvp (by omega)).mpr hk9), Option.bind_some, grd_y l2, l3, grd_y ((nvp (by omega)).mpr (show r0 < 9331 by omega)), e69, ek]
          by_cases w4 : s = s0
          · subst w4
            rw [if_pos ((nleI (by omega) (by omega)).mpr (Nat.le_refl _)), TT_bv, nsucc c0]
            refine fin _ _ ?_
            rw [lsF, h1, h2]
            simp only
            rw [if_neg (by omega), if_pos trivial]
            exact ⟨rfl, rfl⟩
          · rw [if_neg (fun q => w4 (by have := (nleI (by omega) (by omega)).mp q; omega)), TT_bv]
            refine fin (nI k) 1 ?_
            rw [lsF, h1, h2]
            simp only
            rw [if_neg (by omega), if_neg w4]
            exact ⟨rfl, rfl⟩
        · rw [if_neg (fun q => w3 ((nleI (by omega) (by omega)).mp q))]
          refine fin _ _ ?_
          rw [lsF, h1, h2]
          simp only
          rw [if_pos (by omega)]
          exact ⟨rfl, rfl⟩
noncomputable def fsA (o : Option (Nat × Nat × Nat)) (p2 : Int32) : Int32 := match o with
  | none => -1
  | some (s, c, r) => if p2 = 0 then nI s else if p2 = 1 then nI c else if p2 = 2 then nI (num (dR r)) else -1
def Sff (a k : Nat) : Prop := Sms a k ∨ a = 69
theorem r_first {M : Mem} (h : MID M) (hx : NXC M) {y ve n b : Nat} {mo : Nat → Option Nat} {yr : Nat → Nat} {di : Nat → List Nat} (hv : HSV M n mo yr di) (hy : y ≤ 999) (h54 : mI M 49 54 = nI y) (hv1 : mI M 47 1 = nI ve) (hve : ve < 2147483648) (hb1 : 1 ≤ b) (hb : b < 2 ^ n) {p2 : Int32} (hp : 0 ≤ p2 ∧ p2 ≤ 2) (hdl : ∀ p e h, h < n → dst (mI M 49) y (rank (di h)) p = some e → e < 9331) : TT (f_X12_first M 47 (nI b) p2) (fun q => Fr Sff M q.1 ∧ NXC q.1 ∧ q.2 = fsA (lsF (smF (fun h p => dst (mI M 49) y (rank (di h)) p) b n) 9331) p2) := by
  have hM := h.1.2.1
  have hn := hv.1
  have hb4 : b < 4096 := by have := (pw12 hn).2; omega
  rw [first12, grd_y (lyF hM).1, r_areHouses hM hn hv.2.1, if_pos (tld_y hn hb1 hb), Option.bind_some, if_neg (by decide), lies_bind, if_pos hp, TT_bind]
  refine (r_laysNext h hx hy h54 hv1 hve).mono ?_
  rintro M1 ⟨f1, m1, k1, x1, n1⟩
  rw [TT_bind]
  refine (r_fr0 m1.1.2.1).mono ?_
  rintro M2 ⟨f2, v2⟩
  have hM2 := m1.1.2.1.fr f2
  have hv2 := (hv.frR f1 (fun a k w => by unfold Snx Srv at w; omega)).frR f2 (fun a k w => by unfold S69 at w; omega)
  have n2 : ∀ p, p < 9331 → NXP M2 (mI M 49) y p := fun p hp => (n1 p hp).fr f2 (by unfold S69; omega) (fun i _ => by unfold S69; omega) (EDG_len (dR_v hp).1)
  have hT : ∀ h, h < n → TST (mI M 49) y (rank (di h)) (fun p => dst (mI M 49) y (rank (di h)) p) := fun h hh => ⟨fun p e => by rw [dst_iff, isD_rk], fun p e he => hdl p e h hh he⟩
  rw [TT_bind]
  refine (r_fr1 h.kth hM2 n2 hv2 hb4 (T := fun h p => dst (mI M 49) y (rank (di h)) p) hT v2).mono ?_
  rintro M3 ⟨f3, v3⟩
  have bT : ∀ q s, smF (fun h p => dst (mI M 49) y (rank (di h)) p) b n q = some s → s < 1000000 := fun q s e => by
    have := smF_le (T := fun h p => dst (mI M 49) y (rank (di h)) p) (n := n) (fun h p e hh he => hdl p e h hh he) n q s (by omega) e
    omega
  have hM3 := hM2.fr f3
  obtain ⟨l1, l2, l3, -⟩ := ly69 hM3
  have fA : Fr Sff M M3 := ((f1.up (fun a k w => Or.inl (Or.inl w))).tr (f2.up (fun a k w => Or.inr w))).tr (f3.up (fun a k w => by
    rcases w with w | w
    · exact Or.inl (Or.inr (Or.inl w))
    · exact Or.inr w))
  have xA : NXC M3 := (x1.e f2 (fun a k w => by unfold S69 at w; omega)).e f3 (fun a k w => by unfold Sfz at w; omega)
  rw [TT_bind]
  refine (r_fr3 hM3 v3 bT).mono ?_
  rintro ⟨be, cn⟩ hz
  simp only at hz ⊢
  cases hl : lsF (smF (fun h p => dst (mI M 49) y (rank (di h)) p) b n) 9331 with
  | none =>
    rw [hl] at hz
    rw [if_pos hz.1, TT_some]
    exact ⟨fA, xA, rfl⟩
  | some t =>
    obtain ⟨s, c, r⟩ := t
    rw [hl] at hz
    obtain ⟨rfl, rfl⟩ := hz
    obtain ⟨b1', b2, b3, b4⟩ := lsF_b bT 9331 s c r hl
    rw [if_neg (neg1_nI (by omega))]
    unfold fsA
    simp only
    by_cases w0 : p2 = 0
    · rw [if_pos w0, l1, Option.bind_some, grd_y l2, l3, grd_y ((nvp (by omega)).mpr b3), nclampI (by omega), TT_some]
      refine ⟨fA, xA, ?_⟩
      rw [if_pos w0]
      show mI M3 69 r = nI s
      rw [v3 r b3, b4]
      rfl
    · rw [if_neg w0]
      by_cases w1 : p2 = 1
      · rw [if_pos w1, TT_some]
        exact ⟨fA, xA, by rw [if_neg w0, if_pos w1]⟩
      · rw [if_neg w1, dR_at b3, Option.bind_some, TT_some]
        refine ⟨fA, xA, ?_⟩
        have w2 : p2 = 2 := by
          obtain ⟨k, rfl, hk⟩ := nat_of hp.1
          have h2 := (nleI (b := 2) hk (by omega)).mp hp.2
          have : k ≠ 0 := fun q => w0 (by rw [q]; rfl)
          have : k ≠ 1 := fun q => w1 (by rw [q]; rfl)
          have : k = 2 := by omega
          rw [this]
          rfl
        rw [if_neg w0, if_neg w1, if_pos w2]
theorem first11 {M : Mem} {a0 : Nat} {p1 p2 : Int32} : f_X11_first M a0 p1 p2 = grd (okO M 11 a0) (Option.bind (mR M a0 0) (fun r2 => grd (okO M 10 r2) (Option.bind (f_X10_toldOf M r2 p1) (fun q4 => if q4 = 0 then (some (M, (-1))) else (Option.bind (mR M a0 6) (fun r7 => grd (okO M 4 r7) (Option.bind (f_X4_seekFirst M r7 q4) (fun q9 => Option.bind (mR q9 a0 6) (fun r14 => grd (okO q9 4 r14) (if (mI q9 r14 7) = (-1) then (some (q9, (-1))) else (swO p2 (swC 0 [(64, Option.bind (mR q9 a0 6) (fun r16 => grd (okO q9 4 r16) (some (q9, mI q9 r16 7)))), (72, Option.bind (mR q9 a0 6) (fun r18 => grd (okO q9 4 r18) (some (q9, mI q9 r18 8)))), (80, Option.bind (mR q9 a0 6) (fun r20 => grd (okO q9 4 r20) (Option.bind (f_X6_numberOf (mI q9 r20 9)) (fun q22 => some (q9, q22)))))]) (some (q9, (-1)))))))))))))) := rfl
theorem Sff.w {M M1 : Mem} (h : Fr Sff M M1) : Fw (Spw M) Rpx M M1 := (h.fw (R := Rpx)).up (fun a k w => by
  rcases w with ((w | w | w | w) | w) | w
  · exact Or.inr (Or.inr (Or.inl w))
  · exact Or.inr (Or.inr (Or.inr (Or.inl (by omega))))
  · exact Or.inr (Or.inr (Or.inr (Or.inl (by omega))))
  · exact Or.inr (Or.inr (Or.inr (Or.inr (Or.inr (Or.inl w)))))
  · exact Or.inr (Or.inr (Or.inr (Or.inl (by omega))))
  · exact Or.inr (Or.inr (Or.inr (Or.inr (Or.inl (by omega)))))) (fun _ _ w => w)
theorem FSC.fr {S : Nat → Nat → Prop} {M M1 : Mem} (h : FSC M) (hF : Fr S M M1) (hs : ∀ a k, S a k → 33 ≤ a ∧ a ≠ 49 ∧ a < 78) : FSC M1 := by
  obtain ⟨h0, t, st, sp, h1, h2, h3, h4, h5, h6, h7⟩ := h
  have e : ∀ a k, a < 33 → mI M1 a k = mI M a k := fun a k w => hF.i (fun q => by have := hs a k q; omega)
  have e49 : mI M1 49 = mI M 49 := funext (fun k => hF.i (fun q => by have := hs 49 k q; omega))
  refine ⟨?_, t, st, sp, by rw [e 32 _ (by omega)]; exact h1, by rw [e 32 _ (by omega)]; exact h2, by rw [e 1 _ (by omega)]; exact h3, h4, h5, h6, fun q1 q2 => ?_⟩
  · rcases h0 with q | ⟨rs, q1, q2, q3, q4⟩
    · exact Or.inl (by rw [hF.2.2.2.2.1]; exact q)
    · exact Or.inr ⟨rs, by rw [hF.2.2.2.2.1]; exact q1, q2, okO_fr hF q3, by rw [hF.2.2.2.1]; exact q4⟩
  · obtain ⟨n, mo, yr, di, y, g1, g2, g3, g4⟩ := h7 q1 q2
    exact ⟨n, mo, yr, di, y, g1.fr hF (fun a k w => by have := hs a k w; omega), by rw [e49]; exact g2, g3, by rw [e49]; exact g4.fr hF (fun k _ q => by have := hs 32 k q; omega)⟩
/-- a call that also keeps what first() keeps -/
def FCALL (c : Nat) (M : Mem) (f g : Mem → Option (Mem × Int32)) : Prop := ∃ M1 M2 x, f M = some (M1, x) ∧ g M1 = some (M2, x) ∧ PTQ c M M2 ∧ FSC M2 ∧ ∀ a k, 34 ≤ a → a ≤ 41 → mI M2 a k = mI M a k
theorem both_first {c : Nat} (hc : c < 600) {M : Mem} (h : INV0 c M) (hP : PTH M) (hN : NXC M) (hC : FSC M) (p1 p2 : Int32) : FCALL c M (fun M => f_X11_first M 0 p1 p2) (fun M => f_X12_first M 47 p1 p2) := by
  obtain ⟨m1, s1⟩ := h.mid
  have h78 := m1.2.1
  obtain ⟨n, mo, yr, di, hv⟩ := h.1.hsv
  obtain ⟨hn, v1, v2, v3⟩ := id hv
  obtain ⟨o1, o2, o3, o4, o5, o6, o7⟩ := lay0 m1
  have l0 := (lyF m1.1.2.1).1
  have k10 := (okLV m1).1
  obtain ⟨y, hy, h54, e11⟩ := REL.mid h
  obtain ⟨ve, hv1, hve⟩ := h.2.1.2.2.2.2
  obtain ⟨sp, hsp1, hsp2, hsp3⟩ := h.2.1.2.2.2.1
  rcases tld_or hn p1 with ⟨b, hb1, hb, rfl⟩ | w
  · have hb4 : b < 4096 := by have := (pw12 hn).2; omega
    have hdl : ∀ p e h, h < n → dst (mI M 49) y (rank (di h)) p = some e → e < 9331 := fun p e h hh he => dst_bd m1 hN hy h54 hv1 (by omega) (rank_lt (v3 h hh).2.2.1) he
    obtain ⟨M1, ex, n1, s1', hP1, hC1, k1, f1, pm1, l1, a47⟩ := c_seekFirst (B := 300 * c) (by omega) hy h54 hb1 hb4 hdl m1 s1 hP hC hv hsp1 (by omega)
    have hz : f_X11_first M 0 (nI b) p2 = some (M1, fsA (lsF (smF (fun h p => dst (mI M 49) y (rank (di h)) p) b n) 9331) p2) := by
      obtain ⟨q1, q2, q3, q4, q5, q6, q7⟩ := lay0 n1
      have q8 := (okLP n1).1
      rw [first11, grd_y o1, o2, Option.bind_some, grd_y k10, c_toldOf m1.1.1 hn v2, if_pos (tld_y hn hb1 hb), Option.bind_some, if_neg (show ¬ nI b = 0 from fun q : nI b = nI 0 => by have := (neqI (by omega) (by omega)).mp q; omega), o4, Option.bind_some, grd_y (okLP m1).1, ex, Option.bind_some, q4, Option.bind_some, grd_y q8, sw3]
      cases hl : lsF (smF (fun h p => dst (mI M 49) y (rank (di h)) p) b n) 9331 with
      | none =>
        rw [hl] at l1
        rw [if_pos (show mI M1 32 7 = -1 from l1)]
        rfl
      | some t =>
        obtain ⟨s, cc, r⟩ := t
        rw [hl] at l1
        obtain ⟨r7, r8, r9⟩ := l1
        have bT : ∀ q s, smF (fun h p => dst (mI M 49) y (rank (di h)) p) b n q = some s → s < 1000000 := fun q s e => by
          have := smF_le (T := fun h p => dst (mI M 49) y (rank (di h)) p) (n := n) (fun h p e hh he => hdl p e h hh he) n q s (by omega) e
          omega
        obtain ⟨b1', b2, b3, b4⟩ := lsF_b bT 9331 s cc r hl
        rw [r7, if_neg (neg1_nI (by omega)), Option.bind_some, Option.bind_some, Option.bind_some, grd_y q8, grd_y q8, grd_y q8, r7, r8, r9, numR b3, Option.bind_some]
        unfold fsA
        simp only
        split
        · rfl
        · split
          · rfl
          · split
            · rfl
            · rfl
    have n1x := n1.2.1
    have hN1 : NXC M1 := by
      rcases hN with q | ⟨nb, ve', y', q1, q2, q3, q4, q5, q6, q7⟩
      · left
        rw [a47 47 34 (by omega) (by omega)]
        exact q
      · right
        refine ⟨nb, ve', y', by rw [a47 47 34 (by omega) (by omega)]; exact q1, by rw [a47 47 1 (by omega) (by omega)]; exact q2, q3, q4, by rw [k1]; exact q5, q6, fun z p hp => ?_⟩
        obtain ⟨z1, z2⟩ := q7 z p hp
        rw [k1]
        exact ⟨by rw [a47 64 p (by omega) (by omega)]; exact z1, fun i c hc => by rw [a47 63 _ (by omega) (by omega)]; exact z2 i c hc⟩
    by_cases wp : 0 ≤ p2 ∧ p2 ≤ 2
    · have hv' := hv.spw h78 f1
      obtain ⟨⟨M2, z⟩, hg, f2, x2, ez⟩ := r_first n1 hN1 hv' hy (by rw [k1]; exact h54) (by rw [a47 47 1 (by omega) (by omega)]; exact hv1) (by omega) hb1 hb wp (by rw [k1]; exact hdl)
      simp only at f2 x2 ez
      rw [k1] at ez
      have k2 : mI M2 49 = mI M1 49 := funext (fun k => f2.i (by unfold Sff Sms Snx Srv; omega))
      rw [← ez] at hz
      refine ⟨M1, M2, z, hz, hg, PTQ.mk h (Spw.tr f1 (Sff.w f2)) ?_ ?_ x2 (pm1.tr (PMX.fr f2)) (by rw [k2, k1]), hC1.fr f2 (fun a k w => by unfold Sff Sms Snx Srv at w; omega), fun a k h1 h2 => by rw [f2.i (by unfold Sff Sms Snx Srv; omega)]; exact a47 a k h1 (by omega)⟩
      · refine (SCI.fr2 s1' n1x f2 (fun a k w => ?_)).mono (by omega)
        unfold Sff Sms Snx Srv at w
        omega
      · refine hP1.fr n1x f2 (fun a k w => ?_)
        unfold Sff Sms Snx Srv at w
        omega
    · have e : fsA (lsF (smF (fun h p => dst (mI M 49) y (rank (di h)) p) b n) 9331) p2 = -1 := by
        have n0 : p2 ≠ 0 := fun q => wp (by rw [q]; decide)
        have n1' : p2 ≠ 1 := fun q => wp (by rw [q]; decide)
        have n2 : p2 ≠ 2 := fun q => wp (by rw [q]; decide)
        unfold fsA
        split
        · rfl
        · rw [if_neg n0, if_neg n1', if_neg n2]
      rw [e] at hz
      refine ⟨M1, M1, -1, hz, ?_, PTQ.mk h f1 (s1'.mono (by omega)) hP1 hN1 pm1 k1, hC1, fun a k h1 h2 => a47 a k h1 (by omega)⟩
      show f_X12_first M1 47 _ _ = _
      have v1' : mI M1 49 56 = nI n := by rw [k1]; exact v1
      rw [first12, grd_y (lyF n1.1.2.1).1, r_areHouses n1.1.2.1 hn v1', if_pos (tld_y hn hb1 hb), Option.bind_some, if_neg (by decide), lies_bind, if_neg wp]
  · refine ⟨M, M, -1, ?_, ?_, PTQ.same h hP hN, hC, fun _ _ _ _ => rfl⟩
    · show f_X11_first M 0 _ _ = _
      rw [first11, grd_y o1, o2, Option.bind_some, grd_y k10, c_toldOf m1.1.1 hn v2, if_neg w, Option.bind_some, if_pos rfl]
    · show f_X12_first M 47 _ _ = _
      rw [first12, grd_y l0, r_areHouses m1.1.2.1 hn v1, if_neg w, Option.bind_some, if_pos rfl]
