/-! judge() on both sides -/
noncomputable def hmB (M : Mem) (a0 : Nat) (p1 : Int32) : Int32 → Option ((Int32) ⊕ (Unit ⊕ Unit)) := (fun s1 => grd (okO M 1 a0) (if (mI M a0 5) ≤ s1 then (some (.inr (.inl ()))) else (Option.bind (mR M a0 3) (fun r14 => grd (okO M 14 r14) (grd (vp_in s1 (mL M r14)) (if (mI M r14 s1.toNatClampNeg) = p1 then (some (.inr (.inr ()))) else (bv (s1 + 1 : Int32) (fun x17 => some (.inl x17)))))))))
noncomputable def ltB (q2 : Mem) (a0 : Nat) (p2 : Int32) : Int32 → Option ((Int32) ⊕ (Unit ⊕ Unit)) := (fun s7 => if (mI q2 a0 11) ≤ s7 then (some (.inr (.inl ()))) else (Option.bind (mR q2 a0 9) (fun r19 => grd (okO q2 14 r19) (grd (vp_in s7 (mL q2 r19)) (if (mI q2 r19 s7.toNatClampNeg) = p2 then (some (.inr (.inr ()))) else (bv (s7 + 1 : Int32) (fun x22 => some (.inl x22))))))))
noncomputable def jdB (a0 : Nat) : Mem × Int32 × Int32 × Int32 → Option ((Mem × Int32 × Int32 × Int32) ⊕ (Mem × Int32 × Int32)) := (fun s5 => if s5.2.2.2 < 0 then (some (.inr (s5.1, s5.2.1, s5.2.2.1))) else (Option.bind (mR s5.1 a0 0) (fun r14 => grd (okO s5.1 10 r14) (Option.bind (mR s5.1 r14 3) (fun r16 => grd (okO s5.1 14 r16) (grd (vp_in s5.2.2.2 (mL s5.1 r16)) (bv (fun (s20 : Mem × Int32 × Int32) => bv (s5.2.2.2 + (-1) : Int32) (fun x24 => some (.inl (s20.1, s20.2.1, s20.2.2, x24)))) (fun j19 => if (mI s5.1 r16 s5.2.2.2.toNatClampNeg) = (-1) then (j19 (s5.1, s5.2.1, s5.2.2.1)) else (Option.bind (f_X11_keepsCustom s5.1 a0 s5.2.2.2) (fun q25 => if q25.2 = 0 then (bv (s5.2.2.1 + 1 : Int32) (fun x30 => j19 (q25.1, s5.2.2.2, x30))) else (j19 (q25.1, s5.2.1, s5.2.2.1))))))))))))
noncomputable def jrB (a0 : Nat) : Mem × Int32 × Int32 × Int32 → Option ((Mem × Int32 × Int32 × Int32) ⊕ (Mem × Int32 × Int32)) := (fun s4 => grd (okO s4.1 12 a0) (Option.bind (mR s4.1 a0 3) (fun r13 => grd (okO s4.1 14 r13) (grd (vp_in 56 (mL s4.1 r13)) (if (mI s4.1 r13 (56 : Int32).toNatClampNeg) ≤ s4.2.2.2 then (some (.inr (s4.1, s4.2.1, s4.2.2.1))) else (Option.bind (f_X12_fact s4.1 a0 s4.2.2.2 0) (fun q16 => bv (fun (s20 : Mem × Int32 × Int32) => bv (s4.2.2.2 + 1 : Int32) (fun x24 => some (.inl (s20.1, s20.2.1, s20.2.2, x24)))) (fun j19 => if q16 = (-1) then (j19 (s4.1, s4.2.1, s4.2.2.1)) else (Option.bind (f_X12_fact s4.1 a0 q16 2) (fun q25 => Option.bind (f_X12_fact s4.1 a0 s4.2.2.2 2) (fun q28 => Option.bind (f_X12_fact s4.1 a0 s4.2.2.2 1) (fun q31 => Option.bind (f_X12_leadsTo s4.1 a0 q25 q28 q31) (fun q34 => if q34.2 = 0 then (bv (fun (s40 : Int32) => bv (s4.2.2.1 + 1 : Int32) (fun x43 => j19 (q34.1, s40, x43))) (fun j39 => if s4.2.1 = (-1) then (j39 s4.2.2.2) else (j39 s4.2.1))) else (j19 (q34.1, s4.2.1, s4.2.2.1)))))))))))))))
theorem hasMade_eq {M : Mem} {a0 : Nat} {p1 : Int32} : f_X1_hasMade M a0 p1 = Option.bind (loopO (hmB M a0 p1) 0) (Sum.elim (fun (x9 : Unit) => some 0) (fun (x11 : Unit) => some 1)) := rfl
theorem leadsTo_eq {M : Mem} {a0 : Nat} {p1 p2 p3 : Int32} : f_X12_leadsTo M a0 p1 p2 p3 = grd (okO M 12 a0) (Option.bind (f_X12_lists M a0 p1 p3 0) (fun q2 => Option.bind (loopO (ltB q2 a0 p2) 0) (Sum.elim (fun (x15 : Unit) => some (q2, 0)) (fun (x17 : Unit) => some (q2, 1))))) := rfl
/-- whether a DISH is among changes -/
def hasD (L : List (List Nat × Nat)) (d : List Nat) : Bool := L.any (fun c => decide (c.1 = d))
theorem c_hasMade {M : Mem} (hC : LayC M) {L : List (List Nat × Nat)} (hL : MADE M L) (hlen : L.length ≤ 45) (hd : ∀ c ∈ L, DL c.1) {d : List Nat} (hdd : DL d) : f_X1_hasMade M 26 (nI (rank d)) = some (b1 (hasD L d)) := by
  obtain ⟨l1, l2, l3⟩ := hL
  have hC2 := hC
  unfold LayC at hC2
  have key : TT (loopO (hmB M 26 (nI (rank d))) (nI 0)) (fun z => Sum.elim (fun _ => hasD L d = false) (fun _ => hasD L d = true) z) := by
    refine TT_for L.length (fun k s => s = nI k ∧ ∀ j c, j < k → L[j]? = some c → c.1 ≠ d) ?_ (Nat.zero_le _) ⟨rfl, fun j c hj => by omega⟩
    rintro k s hk ⟨rfl, hI⟩
    unfold hmB
    simp only [hC2, grd_T, Option.bind_some, l1, bv]
    by_cases w : k < L.length
    · have ek := List.getElem?_eq_getElem w
      have hm := List.getElem_mem w
      rw [if_neg (fun q => by have := (nleI (by omega) (by omega)).mp q; omega), grd_y ((nvp (by omega)).mpr (by omega)), nclampI (by omega), (l3 k _ ek).1]
      by_cases w2 : L[k].1 = d
      · rw [if_pos (by rw [w2]), TT_some]
        show hasD L d = true
        unfold hasD
        rw [List.any_eq_true]
        exact ⟨_, hm, by rw [w2]; exact decide_eq_true rfl⟩
      · rw [if_neg (fun q => w2 ((rank_inj (hd _ hm) hdd).mp q)), TT_some, nsucc]
        refine ⟨w, rfl, fun j c hj e => ?_⟩
        by_cases w3 : j = k
        · subst w3
          rw [ek] at e
          cases e
          exact w2
        · exact hI j c (by omega) e
    · rw [if_pos ((nleI (by omega) (by omega)).mpr (by omega)), TT_some]
      show hasD L d = false
      unfold hasD
      rw [List.any_eq_false]
      intro c hc q
      obtain ⟨j, hj, e⟩ := List.getElem_of_mem hc
      exact hI j c (by omega) (by rw [List.getElem?_eq_getElem hj, e]) (of_decide_eq_true q)
  rw [hasMade_eq]
  obtain ⟨z, e, hz⟩ := key
  rw [show (0 : Int32) = nI 0 from rfl, e, Option.bind_some]
  cases z with
  | inl u =>
    have hz : hasD L d = false := hz
    rw [hz]
    rfl
  | inr u =>
    have hz : hasD L d = true := hz
    rw [hz]
    rfl
theorem r_leads {M : Mem} (m1 : MID M) {l d : List Nat} (hl : DL l) (hdd : DL d) {y : Nat} (hy : y ≤ 999) : TT (f_X12_leadsTo M 47 (nI (num l)) (nI (num d)) (nI y)) (fun q => MID q.1 ∧ mI q.1 49 = mI M 49 ∧ Fr Srv M q.1 ∧ q.2 = b1 (hasD (EDG (mI M 49) y l) d)) := by
  have hM2 := m1.1.2.1
  have kt := m1.1.2.2.1.1
  have hlen := EDG_len (K := mI M 49) (y := y) hl
  have hd : ∀ c ∈ EDG (mI M 49) y l, DL c.1 := fun c q => (EDG_DL kt hl q).1
  unfold LayM at hM2
  rw [leadsTo_eq, grd_y hM2.1, TT_bind]
  refine (r_listsK m1 hl hy).mono ?_
  rintro M2 ⟨m2, k2, f2, l1, l3⟩
  generalize EDG (mI M 49) y l = L at *
  have hM3 := m2.1.2.1
  unfold LayM at hM3
  have key : TT (loopO (ltB M2 47 (nI (num d))) (nI 0)) (fun z => Sum.elim (fun _ => hasD L d = false) (fun _ => hasD L d = true) z) := by
    refine TT_for L.length (fun k s => s = nI k ∧ ∀ j c, j < k → L[j]? = some c → c.1 ≠ d) ?_ (Nat.zero_le _) ⟨rfl, fun j c hj => by omega⟩
    rintro k s hk ⟨rfl, hI⟩
    unfold ltB
    simp only [hM3, grd_T, Option.bind_some, l1, bv]
    by_cases w : k < L.length
    · have ek := List.getElem?_eq_getElem w
      have hm := List.getElem_mem w
      rw [if_neg (fun q => by have := (nleI (by omega) (by omega)).mp q; omega), grd_y ((nvp (by omega)).mpr (by omega)), nclampI (by omega), (l3 k _ ek).1]
      by_cases w2 : L[k].1 = d
      · rw [if_pos (by rw [w2]), TT_some]
        show hasD L d = true
        unfold hasD
        rw [List.any_eq_true]
        exact ⟨_, hm, by rw [w2]; exact decide_eq_true rfl⟩
      · rw [if_neg (fun q => w2 ((num_inj (hd _ hm) hdd).mp q)), TT_some, nsucc]
        refine ⟨w, rfl, fun j c hj e => ?_⟩
        by_cases w3 : j = k
        · subst w3
          rw [ek] at e
          cases e
          exact w2
        · exact hI j c (by omega) e
    · rw [if_pos ((nleI (by omega) (by omega)).mpr (by omega)), TT_some]
      show hasD L d = false
      unfold hasD
      rw [List.any_eq_false]
      intro c hc q
      obtain ⟨j, hj, e⟩ := List.getElem_of_mem hc
      exact hI j c (by omega) (by rw [List.getElem?_eq_getElem hj, e]) (of_decide_eq_true q)
  obtain ⟨z, e, hz⟩ := key
  rw [show (0 : Int32) = nI 0 from rfl, e, Option.bind_some]
  cases z with
  | inl u =>
    have hz : hasD L d = false := hz
    rw [hz]
    exact ⟨_, rfl, m2, k2, f2.up Sls_rv, rfl⟩
  | inr u =>
    have hz : hasD L d = true := hz
    rw [hz]
    exact ⟨_, rfl, m2, k2, f2.up Sls_rv, rfl⟩
/-- the first of a stretch, and how many -/
def fs (b : Nat → Bool) : Nat → Nat → Int32
  | _, 0 => -1
  | lo, n + 1 => if b lo then nI lo else fs b (lo + 1) n
def cn (b : Nat → Bool) : Nat → Nat → Nat
  | _, 0 => 0
  | lo, n + 1 => (if b lo then 1 else 0) + cn b (lo + 1) n
theorem fs_snoc (b : Nat → Bool) : ∀ n lo, lo + n < 2147483648 → fs b lo (n + 1) = if fs b lo n = -1 then (if b (lo + n) then nI (lo + n) else -1) else fs b lo n := by
  intro n
  induction n with
  | zero => intro lo _; rfl
  | succ n ih =>
    intro lo h
    have e1 : fs b lo (n + 1 + 1) = if b lo then nI lo else fs b (lo + 1) (n + 1) := rfl
    have e2 : fs b lo (n + 1) = if b lo then nI lo else fs b (lo + 1) n := rfl
    rw [e1, e2]
    by_cases w : b lo = true
    · rw [if_pos w, if_pos w, if_neg (neg1_nI (by omega))]
    · rw [if_neg w, if_neg w, ih (lo + 1) (by omega), show lo + 1 + n = lo + (n + 1) by omega]
theorem cn_snoc (b : Nat → Bool) : ∀ n lo, cn b lo (n + 1) = cn b lo n + (if b (lo + n) then 1 else 0) := by
  intro n
  induction n with
  | zero => intro lo; simp [cn]
  | succ n ih =>
    intro lo
    rw [cn, ih (lo + 1), cn, show lo + 1 + n = lo + (n + 1) by omega]
    omega
theorem cn_le (b : Nat → Bool) : ∀ n lo, cn b lo n ≤ n := by
  intro n
  induction n with
  | zero => intro lo; exact Nat.le_refl _
  | succ n ih =>
    intro lo
    rw [cn]
    have := ih (lo + 1)
    split <;> omega
/-- what a look keeps -/
def LKI (M : Mem) (B : Nat) (M' : Mem) : Prop := Fw Slk Rop M M' ∧ mn M' = mn M ∧ mz M' = mz M ∧ MID M' ∧ mI M' 49 = mI M 49 ∧ SCI B M'
theorem LKI.hsv {M M' : Mem} {B : Nat} (h : LKI M B M') {n : Nat} {mo : Nat → Option Nat} {yr : Nat → Nat} {di : Nat → List Nat} (h78 : 78 ≤ mn M) (hv : HSV M n mo yr di) : HSV M' n mo yr di := by
  obtain ⟨hF, _, _, _, e49, _⟩ := h
  have e : ∀ a k, 1 ≤ a → a ≤ 8 → mI M' a k = mI M a k := fun a k w1 w2 => hF.i (by omega) (by unfold Slk; omega)
  obtain ⟨v1, v2, v3, v4⟩ := hv
  refine ⟨v1, by rw [e49]; exact v2, by rw [e 1 8 (by omega) (by omega)]; exact v3, fun g hg => ?_⟩
  rw [e49, e 5 g (by omega) (by omega), e 6 g (by omega) (by omega), e 7 g (by omega) (by omega), e 8 g (by omega) (by omega)]
  exact v4 g hg
noncomputable def bkn (K : Nat → Int32) (mo : Nat → Option Nat) (yr : Nat → Nat) (di : Nat → List Nat) (h : Nat) : Bool := match mo h with
  | none => false
  | some m => !hasD (EDG K (yr h) (di m)) (di h)
theorem c_keeps {M M' : Mem} {B : Nat} (h78 : 78 ≤ mn M) (h : LKI M B M') (hB : B < 16777000) {n : Nat} {mo : Nat → Option Nat} {yr : Nat → Nat} {di : Nat → List Nat} (hv : HSV M n mo yr di) {g m : Nat} (hg : g < n) (hm : mo g = some m) : TT (f_X11_keepsCustom M' 0 (nI g)) (fun q => LKI M (B + 1) q.1 ∧ q.2 = b1 (hasD (EDG (mI M 49) (yr g) (di m)) (di g))) := by
  have hv' := h.hsv h78 hv
  obtain ⟨hF, hn, hz, hm1, e49, hS⟩ := h
  obtain ⟨v1, v2, v3, v4⟩ := hv'
  obtain ⟨g1, g2, g3, g4, g5, g6, g7, g8, g9, g10⟩ := v4 g hg
  have hmg := g1 m hm
  obtain ⟨i1, i2, i3, i4, i5, i6, i7, i8, i9, i10⟩ := v4 m (by omega)
  have hC2 := hm1.1.1
  have hh := c_hasHouse hm1.1.1 v1 v3 (nI m)
  rw [if_pos ⟨by rw [show (0 : Int32) = nI 0 from rfl, nleI (by omega) (by omega)]; omega, by rw [nltI (by omega) (by omega)]; omega⟩] at hh
  rw [hm] at g7
  unfold LayC at hC2
  unfold f_X11_keepsCustom
  simp only [hC2, grd_T, Option.bind_some, bv]
  rw [grd_y ((nvp (by omega)).mpr (by omega)), nclampI (by omega), g7, show oI (some m) = nI m from rfl, hh, Option.bind_some, if_neg (by decide), grd_y ((nvp (by omega)).mpr (by omega)), g8, TT_bind]
  refine (m_open hm1 hS hB g2).mono ?_
  rintro M1 ⟨m1, o1, k1, f1, n1, z1⟩
  have e7 : ∀ k, mI M1 7 k = mI M' 7 k := fun k => f1.i (by have := hm1.2.1; omega) (by unfold Sop; omega)
  have hC1 := m1.1.1
  unfold LayC at hC1
  simp only [hC1, grd_T, Option.bind_some]
  rw [grd_y ((nvp (by omega)).mpr (by omega)), nclampI (by omega), e7, i9, TT_bind]
  refine (m_listAll m1 o1 (by omega) i3).mono ?_
  rintro M2 ⟨m2, o2, k2, f2, l2⟩
  rw [k1, e49] at l2
  have hC3 := m2.1.1
  unfold LayC at hC3
  simp only [hC3, grd_T, Option.bind_some]
  have e72 : mI M2 7 g = nI (rank (di g)) := by
    rw [f2.i (by unfold Sla Ssc; omega), e7]
    exact g9
  have kt := hm1.1.2.2.1.1
  rw [e49] at kt
  rw [grd_y ((nvp (by omega)).mpr (by omega)), e72, c_hasMade m2.1.1 l2 (EDG_len i3) (fun cc q => (EDG_DL kt i3 q).1) g3, Option.bind_some, grd_y (b1_bl _), TT_some]
  exact ⟨⟨(hF.tr (f1.up Sop_lk (fun _ _ w => w))).tr ((f2.fw).up Sla_lk (fun _ _ w => w)), by rw [f2.1, n1, hn], by rw [f2.2.1, z1, hz], m2, by rw [k2, k1, e49], o2.sci⟩, rfl⟩
theorem c_judge {M : Mem} {B : Nat} (h : LKI M B M) (hB : B < 16776000) {n : Nat} {mo : Nat → Option Nat} {yr : Nat → Nat} {di : Nat → List Nat} (hv : HSV M n mo yr di) (p1 : Int32) : TT (f_X11_judge M 0 p1) (fun q => LKI M (B + 12) q.1 ∧ q.2 = (if p1 = 0 then fs (bkn (mI M 49) mo yr di) 0 n else if p1 = 1 then nI (cn (bkn (mI M 49) mo yr di) 0 n) else -1)) := by
  have h78 := h.2.2.2.1.2.1
  have hC2 := h.2.2.2.1.1.1
  have hn := hv.1
  have e0 : f_X11_judge M 0 p1 = grd (okO M 11 0) (Option.bind (mR M 0 0) (fun r2 => grd (okO M 10 r2) (Option.bind (loopO (jdB 0) (M, (-1), 0, (mI M r2 8) - 1)) (fun (x12 : Mem × Int32 × Int32) => if p1 = 0 then (some (x12.1, x12.2.1)) else (if p1 = 1 then (some (x12.1, x12.2.2)) else (some (x12.1, (-1)))))))) := rfl
  unfold LayC at hC2
  rw [e0]
  simp only [hC2, grd_T, Option.bind_some]
  rw [hv.2.2.1, TT_bind]
  refine TT.mono (Q := fun (x : Mem × Int32 × Int32) => LKI M (B + 12) x.1 ∧ x.2.1 = fs (bkn (mI M 49) mo yr di) 0 n ∧ x.2.2 = nI (cn (bkn (mI M 49) mo yr di) 0 n)) ?_ ?_
  · refine TT_for n (fun j s => s.2.2.2 = nI (n - j) - 1 ∧ s.2.1 = fs (bkn (mI M 49) mo yr di) (n - j) j ∧ s.2.2.1 = nI (cn (bkn (mI M 49) mo yr di) (n - j) j) ∧ LKI M (B + j) s.1) ?_ (Nat.zero_le _) ⟨rfl, rfl, rfl, h⟩
    rintro j ⟨M1, ea, br, i⟩ hj ⟨q1, q2, q3, q4⟩
    simp only at q1 q2 q3 q4
    subst q1 q2 q3
    unfold jdB
    simp only
    by_cases w : j < n
    · have ek : nI (n - j) - 1 = nI (n - j - 1) := by rw [show (1 : Int32) = nI 1 from rfl, nsub (by omega)]
      have ej : n - j = n - (j + 1) + 1 := by omega
      have ef : ∀ b, fs b (n - (j + 1)) (j + 1) = if b (n - (j + 1)) then nI (n - (j + 1)) else fs b (n - j) j := fun b => by rw [ej]; rfl
      have ec : ∀ b, cn b (n - (j + 1)) (j + 1) = (if b (n - (j + 1)) then 1 else 0) + cn b (n - j) j := fun b => by rw [ej]; rfl
      rw [ek, show n - j - 1 = n - (j + 1) by omega, if_neg (show ¬ nI (n - (j + 1)) < 0 by rw [show (0 : Int32) = nI 0 from rfl, nltI (by omega) (by omega)]; omega)]
      have hgl : n - (j + 1) < n := by omega
      have hdec : nI (n - (j + 1)) + -1 = nI (n - (j + 1)) - 1 := (Int32.sub_eq_add_neg _ _).symm
      generalize hgd : n - (j + 1) = g at *
      have hv1 := q4.hsv h78 hv
      obtain ⟨v1, v2, v3, v4⟩ := hv1
      obtain ⟨g1, g2, g3, g4, g5, g6, g7, g8, g9, g10⟩ := v4 g hgl
      have hC1 := q4.2.2.2.1.1.1
      unfold LayC at hC1
      simp only [hC1, grd_T, Option.bind_some, bv]
      rw [grd_y ((nvp (by omega)).mpr (by omega)), nclampI (by omega), g7, hdec]
      cases hmo : mo g with
      | none =>
        have eb : bkn (mI M 49) mo yr di g = false := by unfold bkn; rw [hmo]
        rw [if_pos (show oI none = -1 from rfl), TT_some]
        refine ⟨w, rfl, ?_, ?_, ?_⟩
        · rw [ef, eb]; rfl
        · rw [ec, eb]; show _ = nI (0 + _); rw [Nat.zero_add]
        · obtain ⟨t1, t2, t3, t4, t5, t6⟩ := q4
          exact ⟨t1, t2, t3, t4, t5, t6.mono (by omega)⟩
      | some m =>
        have := g1 m hmo
        rw [if_neg (show ¬ oI (some m) = -1 from neg1_nI (by omega)), TT_bind]
        refine (c_keeps h78 q4 (by omega) hv hgl hmo).mono ?_
        rintro ⟨M2, r⟩ ⟨a1, a2⟩
        simp only at a1 a2 ⊢
        rw [a2]
        cases hh : hasD (EDG (mI M 49) (yr g) (di m)) (di g) with
        | true =>
          have eb : bkn (mI M 49) mo yr di g = false := by unfold bkn; rw [hmo]; simp only [hh]; rfl
          rw [if_neg (by decide), TT_some]
          refine ⟨w, rfl, ?_, ?_, a1⟩
          · rw [ef, eb]; rfl
          · rw [ec, eb]; show _ = nI (0 + _); rw [Nat.zero_add]
        | false =>
          have eb : bkn (mI M 49) mo yr di g = true := by unfold bkn; rw [hmo]; simp only [hh]; rfl
          rw [if_pos (show b1 false = 0 from rfl), TT_some]
          refine ⟨w, rfl, ?_, ?_, a1⟩
          · rw [ef, eb]; rfl
          · rw [ec, eb]; show _ + 1 = nI (1 + _); rw [nsucc, Nat.add_comm]
    · have ej : n - j = 0 := by omega
      have en : j = n := by omega
      subst en
      rw [ej, if_pos (show nI 0 - 1 < 0 by decide), TT_some]
      obtain ⟨t1, t2, t3, t4, t5, t6⟩ := q4
      exact ⟨⟨t1, t2, t3, t4, t5, t6.mono (by omega)⟩, rfl, rfl⟩
  · rintro ⟨M1, ea, br⟩ ⟨q1, q2, q3⟩
    simp only at q1 q2 q3 ⊢
    by_cases w : p1 = 0
    · rw [if_pos w, TT_some, if_pos w]
      exact ⟨q1, q2⟩
    · rw [if_neg w, if_neg w]
      by_cases w2 : p1 = 1
      · rw [if_pos w2, TT_some, if_pos w2]
        exact ⟨q1, q3⟩
      · rw [if_neg w2, TT_some, if_neg w2]
        exact ⟨q1, rfl⟩
