/-! the first of told HOUSES: the class -/
noncomputable def dst (K : Nat → Int32) (y g p : Nat) : Option Nat := @dite _ (∃ e, isD (rdjK K y) g p e) (Classical.propDecidable _) (fun h => some (Classical.choose h)) (fun _ => none)
theorem dst_iff {K : Nat → Int32} {y g p e : Nat} : dst K y g p = some e ↔ isD (rdjK K y) g p e := by
  unfold dst
  by_cases w : ∃ e, isD (rdjK K y) g p e
  · rw [dif_pos w]
    have := Classical.choose_spec w
    constructor
    · intro q
      cases q
      exact this
    · intro q
      rw [isD_un this q]
  · rw [dif_neg w]
    exact ⟨(fun q => by cases q), fun q => absurd ⟨e, q⟩ w⟩
def add2 : Option Nat → Option Nat → Option Nat
  | some a, some e => some (a + e)
  | _, _ => none
/-- sums over told ones; T tells the STEPS from a DISH to a HOUSE's -/
def smF (T : Nat → Nat → Option Nat) (b : Nat) : Nat → Nat → Option Nat
  | 0, _ => some 0
  | h + 1, p => if b.testBit h then add2 (smF T b h p) (T h p) else smF T b h p
theorem smF_le {T : Nat → Nat → Option Nat} {b n : Nat} (hT : ∀ h p e, h < n → T h p = some e → e < 9331) : ∀ h p s, h ≤ n → smF T b h p = some s → s ≤ 9331 * h
  | 0, p, s, _, e => by
    cases e
    omega
  | h + 1, p, s, hn, e => by
    rw [smF] at e
    split at e
    · cases h1 : smF T b h p with
      | none => rw [h1] at e; cases e
      | some a =>
        cases h2 : T h p with
        | none => rw [h1, h2] at e; cases e
        | some e' =>
          rw [h1, h2] at e
          cases e
          have := smF_le hT h p a (by omega) h1
          have := hT h p e' (by omega) h2
          omega
    · have := smF_le hT h p s (by omega) e
      omega
/-- the least, how many have it, the lowest of them -/
def lsF (f : Nat → Option Nat) : Nat → Option (Nat × Nat × Nat)
  | 0 => none
  | k + 1 => match f k with
    | none => lsF f k
    | some s => match lsF f k with
      | none => some (s, 1, k)
      | some (s0, c, r) => if s0 < s then some (s0, c, r) else if s = s0 then some (s0, c + 1, r) else some (s, 1, k)
theorem lsF_b {f : Nat → Option Nat} {B : Nat} (hf : ∀ p s, f p = some s → s < B) : ∀ k s c r, lsF f k = some (s, c, r) → s < B ∧ c ≤ k ∧ r < k ∧ f r = some s
  | 0, s, c, r, e => by cases e
  | k + 1, s, c, r, e => by
    rw [lsF] at e
    cases h1 : f k with
    | none =>
      rw [h1] at e
      have := lsF_b hf k s c r e
      exact ⟨this.1, by omega, by omega, this.2.2.2⟩
    | some s1 =>
      rw [h1] at e
      have hs1 := hf k s1 h1
      cases h2 : lsF f k with
      | none =>
        rw [h2] at e
        cases e
        exact ⟨hs1, by omega, by omega, h1⟩
      | some t =>
        obtain ⟨s0, c0, r0⟩ := t
        have ih := lsF_b hf k s0 c0 r0 h2
        rw [h2] at e
        simp only at e
        split at e
        · cases e
          exact ⟨ih.1, by omega, by omega, ih.2.2.2⟩
        · split at e
          · cases e
            exact ⟨ih.1, by omega, by omega, ih.2.2.2⟩
          · cases e
            exact ⟨hs1, by omega, by omega, h1⟩
def SMR (M : Mem) (rs : Nat) : Prop := mR M 32 4 = some rs ∧ 78 ≤ rs ∧ okO M 14 rs ∧ mL M rs = 9331
def SUMR (M : Mem) (rs : Nat) (f : Nat → Option Nat) : Prop := ∀ p, p < 9331 → mI M rs p = oI (f p)
theorem c_fillI {M : Mem} {r : Nat} (h : okO M 14 r) (hL : mL M r = 9331) : TT (f_J7_fill_53178 M r 0) (fun M1 => Fr (fun a _ => a = r) M M1 ∧ SUMR M1 r (fun _ => some 0)) := by
  unfold f_J7_fill_53178
  rw [grd_y h, TT_bv, hL, TT_bind]
  refine (TT_for 9331 (fun k s => ∃ M', s = (M', nI k) ∧ Fr (fun a _ => a = r) M M' ∧ ∀ j, j < k → mI M' r j = nI 0) (Q := fun M1 => Fr (fun a _ => a = r) M M1 ∧ SUMR M1 r (fun _ => some 0)) ?_ (Nat.zero_le _) ⟨M, rfl, Fr.rf, fun j hj => by omega⟩).mono (fun x hx => TT_some.mpr hx)
  rintro k s hk ⟨M', rfl, hF, hv⟩
  simp only
  by_cases w : k = 9331
  · rw [if_pos ((nleI (by omega) (by omega)).mpr (by omega)), TT_some]
    subst w
    exact ⟨hF, hv⟩
  · rw [if_neg (fun q => w (by have := (nleI (by omega) (by omega)).mp q; omega)), hF.2.2.2.1, hL, grd_y ((nvp (by omega)).mpr (by omega)), TT_bv, TT_bv, TT_some, nclampI (by omega)]
    refine ⟨by omega, _, by rw [nsucc], hF.wI rfl, fun j hj => ?_⟩
    rw [mI_wI]
    by_cases q : j = k
    · rw [if_pos ⟨rfl, q⟩]
      rfl
    · rw [if_neg (fun z => q z.2)]
      exact hv j (by omega)
noncomputable def af0 (a0 a1 : Nat) : Mem × Int32 → Option ((Mem × Int32) ⊕ (Mem)) := (fun s1 => if 9331 ≤ s1.2 then (some (.inr s1.1)) else (grd (okO s1.1 4 a0) (Option.bind (mR s1.1 a0 4) (fun r10 => Option.bind (mR s1.1 a0 4) (fun r11 => grd (okO s1.1 14 r11) (grd (vp_in s1.2 (mL s1.1 r11)) (bv (fun (s15 : Int32) => grd (okO s1.1 14 r10) (grd (vp_in s1.2 (mL s1.1 r10)) (bv (wI s1.1 r10 s1.2.toNatClampNeg s15) (fun M20 => bv (s1.2 + 1 : Int32) (fun x24 => some (.inl (M20, x24))))))) (fun j14 => bv (fun (s26 : Unit) => j14 (-1)) (fun j25 => if (mI s1.1 r11 s1.2.toNatClampNeg) = (-1) then (j25 ()) else (grd (okO s1.1 16 a1) (grd (vp_in s1.2 (mL s1.1 a1)) (if (mI s1.1 a1 s1.2.toNatClampNeg) = (-1) then (j25 ()) else (Option.bind (mR s1.1 a0 4) (fun r31 => grd (okO s1.1 14 r31) (grd (vp_in s1.2 (mL s1.1 r31)) (j14 ((mI s1.1 r31 s1.2.toNatClampNeg) + (mI s1.1 a1 s1.2.toNatClampNeg))))))))))))))))))
theorem addFrom_eq {M : Mem} {a0 a1 : Nat} : f_X4_addFrom M a0 a1 = Option.bind (loopO (af0 a0 a1) (M, 0)) (fun (x7 : Mem) => some x7) := rfl
theorem c_addFrom {M : Mem} (h4 : okO M 4 32) {rs : Nat} (hs : SMR M rs) {f g : Nat → Option Nat} (hf : SUMR M rs f) {a1 : Nat} (o1 : okO M 16 a1) (l1 : mL M a1 = 9331) (hg : ∀ p, p < 9331 → mI M a1 p = oI (g p)) (bf : ∀ p s, f p = some s → s < 1000000) (bg : ∀ p s, g p = some s → s < 9331) : TT (f_X4_addFrom M 32 a1) (fun M1 => Fr (fun a _ => a = rs) M M1 ∧ SUMR M1 rs (fun p => add2 (f p) (g p))) := by
  obtain ⟨s1, s2, s3, s4⟩ := hs
  have hne : a1 ≠ rs := fun q => by
    have := o1.2
    rw [q, s3.2] at this
    cases this
  rw [addFrom_eq, TT_bind]
  refine (TT_for 9331 (fun k s => ∃ M', s = (M', nI k) ∧ Fr (fun a _ => a = rs) M M' ∧ (∀ p, p < k → mI M' rs p = oI (add2 (f p) (g p))) ∧ ∀ p, k ≤ p → p < 9331 → mI M' rs p = oI (f p)) (Q := fun M1 => Fr (fun a _ => a = rs) M M1 ∧ SUMR M1 rs (fun p => add2 (f p) (g p))) ?_ (Nat.zero_le _) ⟨M, rfl, Fr.rf, (fun j hj => by omega), fun p _ hp => hf p hp⟩).mono (fun x hx => TT_some.mpr hx)
  rintro k s hk ⟨M', rfl, hF, hv1, hv2⟩
  unfold af0
  simp only
  by_cases w : k = 9331
  · rw [if_pos ((le9331 hk).mpr w), TT_some]
    subst w
    exact ⟨hF, hv1⟩
  · have hk9 : k < 9331 := by omega
    rw [if_neg (fun q => w ((le9331 hk).mp q)), grd_y (okO_fr hF h4), hF.2.2.2.2.1, s1, Option.bind_some, Option.bind_some, grd_y (okO_fr hF s3), hF.2.2.2.1, s4, grd_y ((nvp (by omega)).mpr hk9), nclampI (by omega), hv2 k (Nat.le_refl _) hk9, TT_bv, TT_bv]
    have fin : ∀ x, x = oI (add2 (f k) (g k)) → TT (grd (okO M' 14 rs) (grd (vp_in (nI k) 9331) (bv (wI M' rs k x) (fun M20 => bv (nI k + 1 : Int32) (fun x24 => (some (.inl (M20, x24)) : Option ((Mem × Int32) ⊕ (Mem)))))))) (fun r => r.elim (fun s' => k < 9331 ∧ ∃ M', s' = (M', nI (k + 1)) ∧ Fr (fun a _ => a = rs) M M' ∧ (∀ p, p < k + 1 → mI M' rs p = oI (add2 (f p) (g p))) ∧ ∀ p, k + 1 ≤ p → p < 9331 → mI M' rs p = oI (f p)) (fun M1 => Fr (fun a _ => a = rs) M M1 ∧ SUMR M1 rs (fun p => add2 (f p) (g p)))) := fun x hx => by
      rw [grd_y (okO_fr hF s3), grd_y ((nvp (by omega)).mpr hk9), TT_bv, TT_bv, TT_some]
      refine ⟨hk9, _, by rw [nsucc], hF.wI rfl, fun p hp => ?_, fun p h1 h2 => ?_⟩
      · rw [mI_wI]
        by_cases q : p = k
        · rw [if_pos ⟨rfl, q⟩, hx, q]
        · rw [if_neg (fun z => q z.2)]
          exact hv1 p (by omega)
      · rw [mI_wI, if_neg (by omega)]
        exact hv2 p (by omega) h2
    have ga : mI M' a1 k = oI (g k) := by
      rw [hF.i hne]
      exact hg k hk9
    cases h1 : f k with
    | none =>
      rw [if_pos (show oI none = -1 from rfl)]
      exact fin (-1) (by rw [h1]; rfl)
    | some a =>
      have ha := bf k a h1
      rw [if_neg (show ¬ oI (some a) = -1 from neg1_nI (by omega)), grd_y (okO_fr hF o1), l1, grd_y ((nvp (by omega)).mpr hk9), ga]
      cases h2 : g k with
      | none =>
        rw [if_pos (show oI none = -1 from rfl)]
        exact fin (-1) (by rw [h1, h2]; rfl)
      | some e =>
        have he := bg k e h2
        rw [if_neg (show ¬ oI (some e) = -1 from neg1_nI (by omega)), Option.bind_some, grd_y (okO_fr hF s3), s4, grd_y ((nvp (by omega)).mpr hk9), hv2 k (Nat.le_refl _) hk9, h1]
        exact fin _ (by rw [h1, h2]; exact nadd a e)
def LSC (M : Mem) : Option (Nat × Nat × Nat) → Prop
  | none => mI M 32 7 = -1
  | some (s, c, r) => mI M 32 7 = nI s ∧ mI M 32 8 = nI c ∧ mI M 32 9 = nI r
def S79 (a k : Nat) : Prop := a = 32 ∧ 7 ≤ k ∧ k ≤ 9
noncomputable def fl0 (a0 : Nat) : Mem × Int32 → Option ((Mem × Int32) ⊕ (Mem)) := (fun s14 => if 9331 ≤ s14.2 then (some (.inr s14.1)) else (Option.bind (mR s14.1 a0 4) (fun r23 => grd (okO s14.1 14 r23) (grd (vp_in s14.2 (mL s14.1 r23)) (bv (mI s14.1 r23 s14.2.toNatClampNeg : Int32) (fun x26 => bv (fun (s28 : Mem) => bv (s14.2 + 1 : Int32) (fun x32 => some (.inl (s28, x32)))) (fun j27 => if x26 = (-1) then (j27 s14.1) else (bv (fun (s34 : Unit) => bv (fun (s38 : Mem) => bv (wI s38 a0 8 ((mI s38 a0 8) + 1)) (fun M42 => j27 M42)) (fun j37 => if x26 = (mI s14.1 a0 7) then (j37 s14.1) else (bv (wI s14.1 a0 7 x26) (fun M46 => bv (wI M46 a0 8 0) (fun M50 => bv (wI M50 a0 9 s14.2) (fun M54 => j37 M54)))))) (fun j33 => if (mI s14.1 a0 7) = (-1) then (j33 ()) else (if x26 ≤ (mI s14.1 a0 7) then (j33 ()) else (j27 s14.1)))))))))))
theorem findLeast_eq {M : Mem} {a0 : Nat} : f_X4_findLeast M a0 = grd (okO M 4 a0) (bv (wI M a0 7 (-1)) (fun M2 => bv (wI M2 a0 8 0) (fun M6 => bv (wI M6 a0 9 (-1)) (fun M10 => Option.bind (loopO (fl0 a0) (M10, 0)) (fun (x21 : Mem) => some x21))))) := rfl
theorem c_findLeast {M : Mem} (h4 : okO M 4 32) {rs : Nat} (hs : SMR M rs) {f : Nat → Option Nat} (hf : SUMR M rs f) (bf : ∀ p s, f p = some s → s < 1000000) : TT (f_X4_findLeast M 32) (fun M1 => Fr S79 M M1 ∧ LSC M1 (lsF f 9331)) := by
  obtain ⟨s1, s2, s3, s4⟩ := hs
  rw [findLeast_eq, grd_y h4, TT_bv, TT_bv, TT_bv]
  have f0 : Fr S79 M (wI (wI (wI M 32 7 (-1)) 32 8 0) 32 9 (-1)) := ((Fr.rf.wI ⟨rfl, by omega⟩).wI ⟨rfl, by omega⟩).wI ⟨rfl, by omega⟩
  have e7 : mI (wI (wI (wI M 32 7 (-1)) 32 8 0) 32 9 (-1)) 32 7 = -1 := by rw [mI_wI_ne (by omega), mI_wI_ne (by omega), mI_wIs]
  generalize wI (wI (wI M 32 7 (-1)) 32 8 0) 32 9 (-1) = M0 at f0 e7
  rw [TT_bind]
  refine (TT_for 9331 (fun k s => ∃ M', s = (M', nI k) ∧ Fr S79 M M' ∧ LSC M' (lsF f k)) (Q := fun M1 => Fr S79 M M1 ∧ LSC M1 (lsF f 9331)) ?_ (Nat.zero_le _) ⟨M0, rfl, f0, e7⟩).mono (fun x hx => TT_some.mpr hx)
  rintro k s hk ⟨M', rfl, hF, hL⟩
  unfold fl0
  simp only
  by_cases w : k = 9331
  · rw [if_pos ((le9331 hk).mpr w), TT_some]
    subst w
    exact ⟨hF, hL⟩
  · have hk9 : k < 9331 := by omega
    have ev : mI M' rs k = oI (f k) := by
      rw [hF.i (by unfold S79; omega)]
      exact hf k hk9
    rw [if_neg (fun q => w ((le9331 hk).mp q)), hF.2.2.2.2.1, s1, Option.bind_some, grd_y (okO_fr hF s3), hF.2.2.2.1, s4, grd_y ((nvp (by omega)).mpr hk9), nclampI (by omega), ev, TT_bv, TT_bv]
    have fin : ∀ M2, Fr S79 M M2 → LSC M2 (lsF f (k + 1)) → TT (some (Sum.inl (M2, nI k + 1)) : Option ((Mem × Int32) ⊕ Mem)) (fun r => r.elim (fun s' => k < 9331 ∧ ∃ M', s' = (M', nI (k + 1)) ∧ Fr S79 M M' ∧ LSC M' (lsF f (k + 1))) (fun M1 => Fr S79 M M1 ∧ LSC M1 (lsF f 9331))) := fun M2 q1 q2 => by
      rw [TT_some]
      exact ⟨hk9, M2, by rw [nsucc], q1, q2⟩
    -- a new least one
    have nw : ∀ s, f k = some s → lsF f (k + 1) = some (s, 1, k) → TT (some (Sum.inl (wI (wI (wI (wI M' 32 7 (nI s)) 32 8 0) 32 9 (nI k)) 32 8 ((mI (wI (wI (wI M' 32 7 (nI s)) 32 8 0) 32 9 (nI k)) 32 8) + 1), nI k + 1)) : Option ((Mem × Int32) ⊕ Mem)) (fun r => r.elim (fun s' => k < 9331 ∧ ∃ M', s' = (M', nI (k + 1)) ∧ Fr S79 M M' ∧ LSC M' (lsF f (k + 1))) (fun M1 => Fr S79 M M1 ∧ LSC M1 (lsF f 9331))) := fun s hs hl => by
      refine fin _ ((((hF.wI ⟨rfl, by omega⟩).wI ⟨rfl, by omega⟩).wI ⟨rfl, by omega⟩).wI ⟨rfl, by omega⟩) ?_
      rw [hl]
      refine ⟨?_, ?_, ?_⟩
      · rw [mI_wI_ne (by omega), mI_wI_ne (by omega), mI_wI_ne (by omega), mI_wIs]
      · rw [mI_wIs, mI_wI_ne (by omega), mI_wIs]
        rfl
      · rw [mI_wI_ne (by omega), mI_wIs]
    cases h1 : f k with
    | none =>
      rw [if_pos (show oI none = -1 from rfl)]
      refine fin M' hF ?_
      rw [lsF, h1]
      exact hL
    | some s =>
      have hs := bf k s h1
      rw [if_neg (show ¬ oI (some s) = -1 from neg1_nI (by omega)), show oI (some s) = nI s from rfl, TT_bv]
      cases h2 : lsF f k with
      | none =>
        rw [h2] at hL
        have hL : mI M' 32 7 = -1 := hL
        rw [hL, if_pos rfl, TT_bv, if_neg (neg1_nI (by omega)), TT_bv, TT_bv, TT_bv, TT_bv]
        exact nw s h1 (by rw [lsF, h1, h2])
      | some t =>
        obtain ⟨s0, c0, r0⟩ := t
        rw [h2] at hL
        obtain ⟨q7, q8, q9⟩ := hL
        have hb := lsF_b bf k s0 c0 r0 h2
        rw [q7, if_neg (neg1_nI (by omega))]
        by_cases w3 : s ≤ s0
        · rw [if_pos ((nleI (by omega) (by omega)).mpr w3), TT_bv]
          by_cases w4 : s = s0
          · subst w4
            rw [if_pos rfl, TT_bv, TT_bv, q8, nsucc]
            refine fin _ (hF.wI ⟨rfl, by omega⟩) ?_
            rw [lsF, h1, h2]
            simp only
            rw [if_neg (by omega), if_pos trivial]
            exact ⟨by rw [mI_wI_ne (by omega)]; exact q7, mI_wIs, by rw [mI_wI_ne (by omega)]; exact q9⟩
          · rw [if_neg (fun q => w4 ((neqI (by omega) (by omega)).mp q)), TT_bv, TT_bv, TT_bv, TT_bv]
            refine nw s h1 ?_
            rw [lsF, h1, h2]
            simp only
            rw [if_neg (by omega), if_neg w4]
        · rw [if_neg (fun q => w3 ((nleI (by omega) (by omega)).mp q))]
          refine fin M' hF ?_
          rw [lsF, h1, h2]
          simp only
          rw [if_pos (by omega)]
          exact ⟨q7, q8, q9⟩
