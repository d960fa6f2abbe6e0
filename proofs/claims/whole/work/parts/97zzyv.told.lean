/-! LINES: those told, and the STEPS between them: the reference -/
def tl (b : Nat) : Nat → List Nat
  | 0 => []
  | h + 1 => if b.testBit h then tl b h ++ [h] else tl b h
theorem tl_len (b : Nat) : ∀ h, (tl b h).length = pcN b h
  | 0 => rfl
  | h + 1 => by
    rw [tl, pcN]
    have e : b / 2 ^ h % 2 = (b.testBit h).toNat := by rw [Nat.toNat_testBit]
    rw [e]
    cases b.testBit h with
    | true =>
      rw [if_pos rfl, List.length_append, tl_len b h]
      rfl
    | false =>
      rw [if_neg (by decide), tl_len b h]
      rfl
theorem tl_mono (b : Nat) : ∀ h k, (tl b h).length ≤ (tl b (h + k)).length
  | h, 0 => Nat.le_refl _
  | h, k + 1 => by
    have := tl_mono b h k
    rw [show h + (k + 1) = (h + k) + 1 from by omega, tl]
    split
    · rw [List.length_append]; omega
    · exact this
theorem tl_v {b : Nat} : ∀ (h j v : Nat), (tl b h)[j]? = some v → v < h ∧ b.testBit v = true
  | 0, j, v, h => by simp [tl] at h
  | h + 1, j, v, e => by
    rw [tl] at e
    by_cases w : b.testBit h = true
    · rw [if_pos w] at e
      by_cases z : j < (tl b h).length
      · rw [List.getElem?_append_left z] at e
        have := tl_v h j v e
        exact ⟨by omega, this.2⟩
      · rw [List.getElem?_append_right (by omega)] at e
        have hl := (List.getElem?_eq_some_iff.mp e).1
        rw [List.length_singleton] at hl
        have : j - (tl b h).length = 0 := by omega
        rw [this] at e
        cases e
        exact ⟨by omega, w⟩
    · rw [if_neg w] at e
      have := tl_v h j v e
      exact ⟨by omega, this.2⟩
theorem tl_up {b n : Nat} (hb : b < 2 ^ n) : ∀ k, tl b (n + k) = tl b n
  | 0 => rfl
  | k + 1 => by
    rw [show n + (k + 1) = (n + k) + 1 from by omega, tl, tl_up hb k]
    have : b.testBit (n + k) = false := Nat.testBit_lt_two_pow (Nat.lt_of_lt_of_le hb (Nat.pow_le_pow_right (by omega) (by omega)))
    rw [this, if_neg (by decide)]
def TLD2 (M : Mem) (r : Nat) (L : List Nat) : Prop := ∀ j v, L[j]? = some v → mI M r j = nI v
theorem TLD2.add {M : Mem} {r : Nat} {L : List Nat} (h : TLD2 M r L) {v : Nat} : TLD2 (wI M r L.length (nI v)) r (L ++ [v]) := fun j u e => by
  rw [mI_wI]
  by_cases w : j < L.length
  · rw [List.getElem?_append_left w] at e
    rw [if_neg (by omega)]
    exact h j u e
  · rw [List.getElem?_append_right (by omega)] at e
    have hl := (List.getElem?_eq_some_iff.mp e).1
    rw [List.length_singleton] at hl
    have hj : j = L.length := by omega
    subst hj
    rw [Nat.sub_self] at e
    cases e
    rw [if_pos ⟨rfl, rfl⟩]
noncomputable def rl0 (a0 : Nat) (p1 : Int32) : Mem × Int32 × Int32 → Option ((Mem × Int32 × Int32) ⊕ (Mem × Int32)) := (fun s14 => Option.bind (mR s14.1 a0 3) (fun r23 => grd (okO s14.1 14 r23) (grd (vp_in 56 (mL s14.1 r23)) (if (mI s14.1 r23 (56 : Int32).toNatClampNeg) ≤ s14.2.2 then (some (.inr (s14.1, s14.2.1))) else (Option.bind (f_X12_isOne p1 s14.2.2) (fun q26 => bv (fun (s30 : Mem × Int32) => bv (s14.2.2 + 1 : Int32) (fun x34 => some (.inl (s30.1, s30.2, x34)))) (fun j29 => if q26 = 0 then (j29 (s14.1, s14.2.1)) else (Option.bind (mR s14.1 a0 40) (fun r35 => grd (okO s14.1 14 r35) (grd (vp_in s14.2.1 (mL s14.1 r35)) (bv (wI s14.1 r35 s14.2.1.toNatClampNeg s14.2.2) (fun M38 => bv (s14.2.1 + 1 : Int32) (fun x42 => j29 (M38, x42))))))))))))))
def S70 (a _k : Nat) : Prop := a = 70
theorem r_rl0 {M : Mem} (hM : LayM M) {n b : Nat} (hn : n ≤ 12) (h56 : mI M 49 56 = nI n) (hb : b < 4096) (hl : (tl b n).length ≤ 6) : TT (loopO (rl0 47 (nI b)) (M, 0, 0)) (fun z => ∃ M1, z = (M1, nI (tl b n).length) ∧ Fr S70 M M1 ∧ TLD2 M1 70 (tl b n)) := by
  refine TT_for n (fun h s => ∃ M', s = (M', nI (tl b h).length, nI h) ∧ Fr S70 M M' ∧ TLD2 M' 70 (tl b h)) ?_ (Nat.zero_le _) ⟨M, rfl, Fr.rf, fun j v e => by simp [tl] at e⟩
  rintro h s hh ⟨M', rfl, hF, hT⟩
  have hM' := hM.fr hF
  obtain ⟨-, -, -, l4, l5, l6⟩ := ly69 hM'
  obtain ⟨p1, p2, p3, -⟩ := ly70 hM'
  have c56 : (56 : Int32).toNatClampNeg = 56 := by decide
  unfold rl0
  simp only
  rw [l4, Option.bind_some, grd_y l5, l6, grd_y (show vp_in 56 5666 from (nvp (a := 56) (by omega)).mpr (by omega)), c56, hF.i (by unfold S70; omega), h56]
  by_cases w : h = n
  · rw [if_pos ((nleI (by omega) (by omega)).mpr (by omega)), TT_some]
    subst w
    exact ⟨M', rfl, hF, hT⟩
  · have hlt : h < n := by omega
    rw [if_neg (fun q => w (by have := (nleI (by omega) (by omega)).mp q; omega)), r_isOne hb (by omega), Option.bind_some, TT_bv]
    cases wb : b.testBit h with
    | true =>
      have e1 : tl b (h + 1) = tl b h ++ [h] := by rw [tl, if_pos wb]
      have hlen : (tl b (h + 1)).length = (tl b h).length + 1 := by rw [e1, List.length_append]; rfl
      have hmono := tl_mono b (h + 1) (n - (h + 1))
      rw [show h + 1 + (n - (h + 1)) = n from by omega] at hmono
      rw [if_neg (by decide), p1, Option.bind_some, grd_y p2, p3, grd_y ((nvp (by omega)).mpr (by omega)), nclampI (by omega), TT_bv, TT_bv, TT_bv, TT_some]
      refine ⟨hlt, _, by rw [hlen, nsucc, nsucc], hF.wI rfl, ?_⟩
      rw [e1]
      exact hT.add
    | false =>
      have e1 : tl b (h + 1) = tl b h := by rw [tl, if_neg (by rw [wb]; decide)]
      rw [if_pos (show b1 false = 0 from rfl), TT_bv, TT_some]
      exact ⟨hlt, M', by rw [e1, nsucc], hF, by rw [e1]; exact hT⟩
def fN : Option Nat → Nat
  | none => 1000000
  | some d => d
theorem fN_I (o : Option Nat) : fI o = nI (fN o) := by
  cases o <;> rfl
/-- the STEPS from one told to another -/
noncomputable def Wt (K : Nat → Int32) (y : Nat) (di : Nat → List Nat) (L : List Nat) (i j : Nat) : Nat := if i < L.length ∧ j < L.length then Nat.min (fN (dst K y (rank (di (L.getD j 0))) (rank (di (L.getD i 0))))) 1000000 else 0
theorem Wt_le {K : Nat → Int32} {y : Nat} {di : Nat → List Nat} {L : List Nat} (i j : Nat) : Wt K y di L i j ≤ 1000000 := by
  unfold Wt
  split
  · exact Nat.min_le_right _ _
  · omega
theorem Wt_v {K : Nat → Int32} {y : Nat} {di : Nat → List Nat} {L : List Nat} {i j u v : Nat} (hi : L[i]? = some u) (hj : L[j]? = some v) (hb : ∀ e, dst K y (rank (di v)) (rank (di u)) = some e → e < 9331) : Wt K y di L i j = fN (dst K y (rank (di v)) (rank (di u))) := by
  have h1 := (List.getElem?_eq_some_iff.mp hi).1
  have h2 := (List.getElem?_eq_some_iff.mp hj).1
  unfold Wt
  rw [if_pos ⟨h1, h2⟩, List.getD_eq_getElem?_getD, List.getD_eq_getElem?_getD, hi, hj]
  show Nat.min (fN (dst K y (rank (di v)) (rank (di u)))) 1000000 = _
  refine Nat.min_eq_left ?_
  cases h : dst K y (rank (di v)) (rank (di u)) with
  | none => exact Nat.le_refl _
  | some e =>
    have := hb e h
    show e ≤ 1000000
    omega
noncomputable def rl2 (a0 : Nat) (nn a : Int32) : Mem × Int32 → Option ((Mem × Int32) ⊕ (Mem)) := (fun s67 => if nn ≤ s67.2 then (some (.inr s67.1)) else (Option.bind (mR s67.1 a0 41) (fun r76 => Option.bind (mR s67.1 a0 35) (fun r77 => Option.bind (mR s67.1 a0 40) (fun r78 => grd (okO s67.1 14 r78) (grd (vp_in s67.2 (mL s67.1 r78)) (Option.bind (f_X12_fact s67.1 a0 (mI s67.1 r78 s67.2.toNatClampNeg) 2) (fun q81 => Option.bind (f_X12_placeOf q81) (fun q84 => grd (okO s67.1 14 r77) (grd (vp_in q84 (mL s67.1 r77)) (grd (okO s67.1 14 r76) (grd (vp_in ((6 * a) + s67.2) (mL s67.1 r76)) (bv (wI s67.1 r76 ((6 * a) + s67.2).toNatClampNeg (mI s67.1 r77 q84.toNatClampNeg)) (fun M91 => bv (s67.2 + 1 : Int32) (fun x95 => some (.inl (M91, x95)))))))))))))))))
noncomputable def rl1 (a0 : Nat) (nn : Int32) : Mem × Int32 → Option ((Mem × Int32) ⊕ (Mem)) := (fun s44 => if nn ≤ s44.2 then (some (.inr s44.1)) else (Option.bind (mR s44.1 a0 40) (fun r53 => grd (okO s44.1 14 r53) (grd (vp_in s44.2 (mL s44.1 r53)) (Option.bind (f_X12_fact s44.1 a0 (mI s44.1 r53 s44.2.toNatClampNeg) 2) (fun q56 => Option.bind (f_X12_placeOf q56) (fun q59 => Option.bind (f_X12_measures s44.1 a0 q59) (fun q62 => Option.bind (loopO (rl2 a0 nn s44.2) (q62, 0)) (fun (x74 : Mem) => bv (s44.2 + 1 : Int32) (fun x97 => some (.inl (x74, x97))))))))))))
noncomputable def rl3 (nn : Int32) : Int32 × Int32 → Option ((Int32 × Int32) ⊕ Int32) := (fun s99 => if nn ≤ s99.2 then (some (.inr s99.1)) else (bv (s99.1 * (nn + 1) : Int32) (fun x107 => bv (s99.2 + 1 : Int32) (fun x108 => some (.inl (x107, x108))))))
theorem r_rl3 {n : Nat} (hn : n ≤ 6) : TT (loopO (rl3 (nI n)) (1, 0)) (fun z => z = nI ((n + 1) ^ n)) := by
  refine TT_for n (fun k s => s = (nI ((n + 1) ^ k), nI k)) ?_ (Nat.zero_le _) rfl
  rintro k s hk rfl
  unfold rl3
  simp only
  by_cases w : k = n
  · rw [if_pos ((nleI (by omega) (by omega)).mpr (by omega)), TT_some, w]
    rfl
  · rw [if_neg (fun q => w (by have := (nleI (by omega) (by omega)).mp q; omega)), nsucc, nmul, TT_bv, TT_bv, TT_some]
    exact ⟨by omega, by rw [nsucc, Nat.pow_succ]⟩
theorem lines12 {M : Mem} {a0 : Nat} {p1 p2 : Int32} : f_X12_lines M a0 p1 p2 = grd (okO M 12 a0) (Option.bind (f_X12_areHouses M a0 p1) (fun q2 => if q2 = 0 then (some (M, (-1))) else (Option.bind (f_X12_ones p1) (fun q5 => if 6 < q5 then (some (M, (-1))) else (Option.bind (f_X12_ones p1) (fun q8 => Option.bind (f_X12_lies p2 0 (1 + q8)) (fun q11 => if q11 = 0 then (some (M, (-1))) else (Option.bind (loopO (rl0 a0 p1) (M, 0, 0)) (fun (x21 : Mem × Int32) => Option.bind (loopO (rl1 a0 x21.2) (x21.1, 0)) (fun (x51 : Mem) => Option.bind (loopO (rl3 x21.2) (1, 0)) (fun (x105 : Int32) => Option.bind (loopO (rl4 a0 x21.2 x105) (x51, 1000000, 0, 0)) (fun (x116 : Mem × Int32 × Int32) => if x116.2.2 = 0 then (some (x116.1, (-1))) else (if p2 = 0 then (some (x116.1, x116.2.1)) else (if p2 = 1 then (some (x116.1, x116.2.2)) else (Option.bind (mR x116.1 a0 43) (fun r194 => grd (okO x116.1 14 r194) (grd (vp_in (p2 - 2) (mL x116.1 r194)) (if (mI x116.1 r194 (p2 - 2).toNatClampNeg) = (-1) then (some (x116.1, 100)) else (Option.bind (mR x116.1 a0 40) (fun r197 => Option.bind (mR x116.1 a0 43) (fun r198 => grd (okO x116.1 14 r198) (grd (vp_in (p2 - 2) (mL x116.1 r198)) (grd (okO x116.1 14 r197) (grd (vp_in (mI x116.1 r198 (p2 - 2).toNatClampNeg) (mL x116.1 r197)) (some (x116.1, mI x116.1 r197 (mI x116.1 r198 (p2 - 2).toNatClampNeg).toNatClampNeg))))))))))))))))))))))))))  := rfl
theorem bc_all {b : Nat} (hb : b < 4096) : f_J6_bitCount_0f7a4 (nI b) = some (nI (pc b)) := by
  have h : ∀ q, q < 64 → ∀ r, r < 64 → f_J6_bitCount_0f7a4 (nI (64 * q + r)) = some (nI (pc (64 * q + r))) := by decide +kernel
  have := h (b / 64) (by omega) (b % 64) (by omega)
  rw [show 64 * (b / 64) + b % 64 = b from by omega] at this
  exact this
