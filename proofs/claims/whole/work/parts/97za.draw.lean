/-! a draw falls on a change -/
noncomputable def mbB (M : Mem) (a0 : Nat) : Int32 × Int32 → Option ((Int32 × Int32) ⊕ (Unit ⊕ Int32)) := (fun s1 => grd (okO M 1 a0) (if (mI M a0 5) ≤ s1.2 then (some (.inr (.inl ()))) else (Option.bind (mR M a0 4) (fun r14 => grd (okO M 14 r14) (grd (vp_in s1.2 (mL M r14)) (bv (s1.1 - (mI M r14 s1.2.toNatClampNeg) : Int32) (fun x17 => if 0 ≤ x17 then (bv (s1.2 + 1 : Int32) (fun x18 => some (.inl (x17, x18)))) else (some (.inr (.inr s1.2))))))))))
noncomputable def lrS (q58 : Mem) (a0 : Nat) : Int32 × Int32 → Option ((Int32 × Int32) ⊕ (Int32)) := (fun s63 => if (mI q58 a0 11) ≤ s63.2 then (some (.inr s63.1)) else (Option.bind (mR q58 a0 10) (fun r71 => grd (okO q58 14 r71) (grd (vp_in s63.2 (mL q58 r71)) (bv (s63.1 + (mI q58 r71 s63.2.toNatClampNeg) : Int32) (fun x74 => bv (s63.2 + 1 : Int32) (fun x75 => some (.inl (x74, x75)))))))))
noncomputable def lrP (q92 : Mem × Int32) (a0 : Nat) : Int32 × Int32 → Option ((Int32 × Int32) ⊕ (Int32)) := (fun s97 => Option.bind (mR q92.1 a0 10) (fun r105 => grd (okO q92.1 14 r105) (grd (vp_in s97.2 (mL q92.1 r105)) (if s97.1 < (mI q92.1 r105 s97.2.toNatClampNeg) then (some (.inr s97.2)) else (Option.bind (mR q92.1 a0 10) (fun r108 => grd (okO q92.1 14 r108) (grd (vp_in s97.2 (mL q92.1 r108)) (bv (s97.1 - (mI q92.1 r108 s97.2.toNatClampNeg) : Int32) (fun x111 => bv (s97.2 + 1 : Int32) (fun x112 => some (.inl (x111, x112))))))))))))
theorem madeBy_eq {M : Mem} {a0 : Nat} {p1 : Int32} : f_X1_madeBy M a0 p1 = Option.bind (loopO (mbB M a0) (p1, 0)) (Sum.elim (fun (x9 : Unit) => some (-1)) (fun (x11 : Int32) => grd (okO M 1 a0) (Option.bind (mR M a0 3) (fun r20 => grd (okO M 14 r20) (grd (vp_in x11 (mL M r20)) (some (mI M r20 x11.toNatClampNeg))))))) := rfl
def sumW (L : List (List Nat × Nat)) : Nat := (L.map (·.2)).sum
def pkI : List (List Nat × Nat) → Nat → Nat
  | [], _ => 0
  | c :: L, a => if a < c.2 then 0 else pkI L (a - c.2) + 1
theorem pkI_lt : ∀ (L : List (List Nat × Nat)) (a : Nat), a < sumW L → pkI L a < L.length
  | [], a, h => by
    unfold sumW at h
    simp at h
  | c :: L, a, h => by
    unfold sumW at h
    rw [List.map_cons, List.sum_cons] at h
    unfold pkI
    by_cases w : a < c.2
    · rw [if_pos w]
      simp
    · rw [if_neg w, List.length_cons]
      have := pkI_lt L (a - c.2) (by unfold sumW; omega)
      omega
theorem sumW_le {L : List (List Nat × Nat)} (h : ∀ c ∈ L, c.2 ≤ 99) : sumW L ≤ 99 * L.length := by
  induction L with
  | nil => exact Nat.le_refl _
  | cons c L ih =>
    have h1 := h c List.mem_cons_self
    have h2 := ih (fun c hc => h c (List.mem_cons_of_mem _ hc))
    unfold sumW at *
    rw [List.map_cons, List.sum_cons, List.length_cons]
    omega
theorem drop_at {α : Type} {L : List α} {k : Nat} {c : α} (h : L[k]? = some c) : L.drop k = c :: L.drop (k + 1) := by
  obtain ⟨hk, e⟩ := List.getElem?_eq_some_iff.mp h
  rw [List.drop_eq_getElem_cons hk, e]
/-- where a draw falls -/
def pkS (L : List (List Nat × Nat)) (a k b : Nat) : Prop := b < sumW (L.drop k) ∧ pkI L a = k + pkI (L.drop k) b
theorem pkS_0 {L : List (List Nat × Nat)} {a : Nat} (h : a < sumW L) : pkS L a 0 a := ⟨by rw [List.drop_zero]; exact h, by rw [List.drop_zero]; omega⟩
theorem pkS_k {L : List (List Nat × Nat)} {a k b : Nat} (h : pkS L a k b) : k < L.length := by
  refine Nat.lt_of_not_le (fun q => ?_)
  have := h.1
  rw [List.drop_eq_nil_of_le q] at this
  unfold sumW at this
  simp at this
theorem pkS_hit {L : List (List Nat × Nat)} {a k b : Nat} {c : List Nat × Nat} (h : pkS L a k b) (e : L[k]? = some c) (w : b < c.2) : pkI L a = k := by
  rw [h.2, drop_at e]
  unfold pkI
  rw [if_pos w]
  rfl
theorem pkS_on {L : List (List Nat × Nat)} {a k b : Nat} {c : List Nat × Nat} (h : pkS L a k b) (e : L[k]? = some c) (w : ¬ b < c.2) : pkS L a (k + 1) (b - c.2) := by
  obtain ⟨h1, h2⟩ := h
  rw [drop_at e] at h1 h2
  refine ⟨?_, ?_⟩
  · unfold sumW at h1 ⊢
    rw [List.map_cons, List.sum_cons] at h1
    omega
  · rw [h2, pkI, if_neg w]
    omega
def pkD (L : List (List Nat × Nat)) (a : Nat) : List Nat := (L.getD (pkI L a) ([], 0)).1
theorem pkD_at {L : List (List Nat × Nat)} {a : Nat} (h : a < sumW L) : ∃ c, L[pkI L a]? = some c ∧ c ∈ L ∧ pkD L a = c.1 := by
  have hk := pkI_lt L a h
  refine ⟨L[pkI L a], List.getElem?_eq_getElem hk, List.getElem_mem hk, ?_⟩
  unfold pkD
  rw [List.getD_eq_getElem?_getD, List.getElem?_eq_getElem hk]
  rfl
theorem c_madeBy {M : Mem} (hC : LayC M) {L : List (List Nat × Nat)} (hL : MADE M L) (hlen : L.length ≤ 45) (hw : ∀ c ∈ L, c.2 ≤ 99) {a : Nat} (ha : a < sumW L) : f_X1_madeBy M 26 (nI a) = some (nI (rank (pkD L a))) := by
  obtain ⟨l1, l2, l3⟩ := hL
  have hC2 := hC
  have hs := sumW_le hw
  unfold LayC at hC2
  have key : TT (loopO (mbB M 26) (nI a, nI 0)) (fun z => z = Sum.inr (nI (pkI L a))) := by
    refine TT_for L.length (fun k s => s.2 = nI k ∧ ∃ b, s.1 = nI b ∧ b ≤ a ∧ pkS L a k b) ?_ (Nat.zero_le _) ⟨rfl, a, rfl, Nat.le_refl _, pkS_0 ha⟩
    rintro k ⟨x, i⟩ hk ⟨q1, b, q2, q3, q4⟩
    simp only at q1 q2
    subst q1 q2
    have hkl := pkS_k q4
    have ek := List.getElem?_eq_getElem hkl
    have h99 := hw _ (List.getElem_mem hkl)
    unfold mbB
    simp only [hC2, grd_T, Option.bind_some, l1, bv]
    rw [if_neg (fun q => by have := (nleI (by omega) (by omega)).mp q; omega), grd_y ((nvp (by omega)).mpr (by omega)), nclampI (by omega), (l3 k _ ek).2]
    by_cases w : b < L[k].2
    · have hneg : ¬ 0 ≤ nI b - nI L[k].2 := fun q => by
        rw [nI_ii, nI_ii, ii_sub, show (0 : Int32) = ii 0 from ii_lit 0, ii_le ⟨by omega, by omega⟩ ⟨by omega, by omega⟩] at q
        omega
      rw [if_neg hneg, TT_some]
      show Sum.inr (nI k) = _
      rw [pkS_hit q4 ek w]
    · rw [nsub (by omega), if_pos (by rw [show (0 : Int32) = nI 0 from rfl, nleI (by omega) (by omega)]; omega), TT_some, nsucc]
      exact ⟨hkl, rfl, _, rfl, by omega, pkS_on q4 ek w⟩
  obtain ⟨z, e, hz⟩ := key
  obtain ⟨cc, c1, c2, c3⟩ := pkD_at ha
  have hk := pkI_lt L a ha
  rw [madeBy_eq, show (0 : Int32) = nI 0 from rfl, e, Option.bind_some, hz]
  show grd (okO M 1 26) _ = _
  simp only [hC2, grd_T, Option.bind_some]
  rw [grd_y ((nvp (by omega)).mpr (by omega)), nclampI (by omega), (l3 _ _ c1).1, c3]
theorem r_sumW {M : Mem} (hM : LayM M) {L : List (List Nat × Nat)} (hL : LSTS 1 M L) (hlen : L.length ≤ 45) (hw : ∀ c ∈ L, c.2 ≤ 99) : loopO (lrS M 47) (0, 0) = some (nI (sumW L)) := by
  obtain ⟨l1, l3⟩ := hL
  have hM2 := hM
  unfold LayM at hM2
  have key : TT (loopO (lrS M 47) (nI 0, nI 0)) (fun z => z = nI (sumW L)) := by
    refine TT_for L.length (fun k s => s.2 = nI k ∧ s.1 = nI (sumW (L.take k))) ?_ (Nat.zero_le _) ⟨rfl, rfl⟩
    rintro k ⟨x, i⟩ hk ⟨q1, q2⟩
    simp only at q1 q2
    subst q1 q2
    unfold lrS
    simp only [hM2, grd_T, Option.bind_some, l1, bv]
    by_cases w : k < L.length
    · have ek := List.getElem?_eq_getElem w
      rw [if_neg (fun q => by have := (nleI (by omega) (by omega)).mp q; omega), grd_y ((nvp (by omega)).mpr (by omega)), nclampI (by omega), (l3 k _ ek).2, TT_some, nsucc]
      refine ⟨w, rfl, ?_⟩
      show nI _ + wv 1 _ = _
      unfold wv
      rw [if_neg (by decide), nadd]
      unfold sumW
      rw [List.take_succ, ek, List.map_append, List.sum_append]
      simp
    · rw [if_pos ((nleI (by omega) (by omega)).mpr (by omega)), TT_some]
      show nI _ = nI _
      rw [List.take_of_length_le (by omega)]
  obtain ⟨z, e, hz⟩ := key
  rw [hz] at e
  exact e
theorem r_pick {M : Mem} {r : Int32} (hM : LayM M) {L : List (List Nat × Nat)} (hL : LSTS 1 M L) (hlen : L.length ≤ 45) (hw : ∀ c ∈ L, c.2 ≤ 99) {a : Nat} (ha : a < sumW L) : loopO (lrP (M, r) 47) (nI a, 0) = some (nI (pkI L a)) := by
  obtain ⟨l1, l3⟩ := hL
  have hM2 := hM
  have hs := sumW_le hw
  unfold LayM at hM2
  have key : TT (loopO (lrP (M, r) 47) (nI a, nI 0)) (fun z => z = nI (pkI L a)) := by
    refine TT_for L.length (fun k s => s.2 = nI k ∧ ∃ b, s.1 = nI b ∧ b ≤ a ∧ pkS L a k b) ?_ (Nat.zero_le _) ⟨rfl, a, rfl, Nat.le_refl _, pkS_0 ha⟩
    rintro k ⟨x, i⟩ hk ⟨q1, b, q2, q3, q4⟩
    simp only at q1 q2
    subst q1 q2
    have hkl := pkS_k q4
    have ek := List.getElem?_eq_getElem hkl
    have h99 := hw _ (List.getElem_mem hkl)
    have ewv : wv 1 L[k].2 = nI L[k].2 := by unfold wv; rw [if_neg (by decide)]
    unfold lrP
    simp only [hM2, grd_T, Option.bind_some, bv]
    rw [grd_y ((nvp (by omega)).mpr (by omega)), nclampI (by omega), (l3 k _ ek).2, ewv]
    by_cases w : b < L[k].2
    · rw [if_pos ((nltI (by omega) (by omega)).mpr w), TT_some]
      show nI k = _
      rw [pkS_hit q4 ek w]
    · rw [if_neg (fun q => w ((nltI (by omega) (by omega)).mp q)), grd_y ((nvp (by omega)).mpr (by omega)), nsub (by omega), TT_some, nsucc]
      exact ⟨hkl, rfl, _, rfl, by omega, pkS_on q4 ek w⟩
  obtain ⟨z, e, hz⟩ := key
  rw [hz] at e
  exact e
