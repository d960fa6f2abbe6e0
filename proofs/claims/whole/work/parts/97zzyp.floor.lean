/-! LINES: what those behind a place need at least -/
def sfr (f : Nat → Nat) (n : Nat) : Nat → Nat
  | 0 => 0
  | t + 1 => sfr f n t + f (n - 1 - t)
def dfr (f : Nat → Nat) (n : Nat) : Nat → Nat
  | 0 => 0
  | t + 1 => if f (n - 1 - t) ≤ dfr f n t then dfr f n t else f (n - 1 - t)
theorem cs_split {W : Nat → Nat → Nat} {m : Nat → Option Nat} {n : Nat} : ∀ t, t ≤ n → cs W m n = cs W m (n - t) + sfr (cst W m) n t
  | 0, _ => rfl
  | t + 1, h => by
    rw [cs_split t (by omega), sfr, show n - t = (n - (t + 1)) + 1 from by omega, cs_succ, show n - 1 - t = n - (t + 1) from by omega]
    omega
theorem sfr_le {f : Nat → Nat} {n B : Nat} (h : ∀ i, i < n → f i ≤ B) : ∀ t, t ≤ n → sfr f n t ≤ B * t ∧ dfr f n t ≤ B
  | 0, _ => ⟨Nat.zero_le _, Nat.zero_le _⟩
  | t + 1, ht => by
    obtain ⟨a, b⟩ := sfr_le h t (by omega)
    have := h (n - 1 - t) (by omega)
    rw [sfr, dfr, Nat.mul_succ]
    refine ⟨by omega, ?_⟩
    split
    · exact b
    · exact this
/-- a tree needs no less -/
theorem floor_le {W : Nat → Nat → Nat} {m : Nat → Option Nat} {n : Nat} {x : Nat → Nat} (hx : ∀ k i, k < n → m k = some i → x k ≤ W i k) {r : Nat} (hr : ∀ k, k < n → m k = none → k = r) : ∀ t, t ≤ n → ((∀ k, n - t ≤ k → k < n → m k ≠ none) → sfr x n t ≤ sfr (cst W m) n t) ∧ sfr x n t ≤ sfr (cst W m) n t + dfr x n t
  | 0, _ => ⟨fun _ => Nat.le_refl _, Nat.le_refl _⟩
  | t + 1, ht => by
    obtain ⟨a, b⟩ := floor_le hx hr t (by omega)
    have e : ∀ i, m (n - 1 - t) = some i → x (n - 1 - t) ≤ cst W m (n - 1 - t) := fun i hi => by
      have := hx (n - 1 - t) i (by omega) hi
      unfold cst
      rw [hi]
      exact this
    rw [sfr, sfr, dfr]
    cases hm : m (n - 1 - t) with
    | none =>
      have hk := hr _ (by omega) hm
      have hno : ∀ k, n - t ≤ k → k < n → m k ≠ none := fun k h1 h2 q => by
        have := hr k h2 q
        omega
      have := a hno
      refine ⟨fun q => absurd hm (q (n - 1 - t) (by omega) (by omega)), ?_⟩
      split <;> omega
    | some i =>
      have := e i hm
      refine ⟨fun q => ?_, ?_⟩
      · have := a (fun k h1 h2 => q k (by omega) h2)
        omega
      · split <;> omega
def FLR (M : Mem) (n : Nat) (x : Nat → Nat) : Prop := ∀ t, t ≤ n → mI M 40 (n - t) = nI (sfr x n t) ∧ mI M 41 (n - t) = nI (dfr x n t)
def XNR (W : Nat → Nat → Nat) (n : Nat) (x : Nat → Nat) : Prop := ∀ i, i < n → NRS W n (clr (2 ^ n - 1) i).testBit i (x i)
noncomputable def wr0 (a0 : Nat) (x2 : Int32) : Mem × Int32 → Option ((Mem × Int32) ⊕ (Mem)) := (fun s18 => if s18.2 < 0 then (some (.inr s18.1)) else (Option.bind (f_X5_nearest s18.1 a0 (x2 &&& ((sl 1 s18.2) ^^^ (-1))) s18.2) (fun q27 => Option.bind (mR s18.1 a0 5) (fun r30 => Option.bind (mR s18.1 a0 5) (fun r31 => grd (okO s18.1 14 r31) (grd (vp_in (s18.2 + 1) (mL s18.1 r31)) (grd (okO s18.1 14 r30) (grd (vp_in s18.2 (mL s18.1 r30)) (bv (wI s18.1 r30 s18.2.toNatClampNeg ((mI s18.1 r31 (s18.2 + 1).toNatClampNeg) + q27)) (fun M36 => Option.bind (mR M36 a0 6) (fun r40 => Option.bind (mR M36 a0 6) (fun r41 => grd (okO M36 14 r41) (grd (vp_in (s18.2 + 1) (mL M36 r41)) (grd (okO M36 14 r40) (grd (vp_in s18.2 (mL M36 r40)) (bv (wI M36 r40 s18.2.toNatClampNeg (mmax (mI M36 r41 (s18.2 + 1).toNatClampNeg) q27)) (fun M46 => bv (s18.2 + (-1) : Int32) (fun x50 => some (.inl (M46, x50))))))))))))))))))))
theorem workFloor_eq {M : Mem} {a0 : Nat} : f_X5_workFloor M a0 = grd (okO M 5 a0) (bv ((sl 1 (mI M a0 7)) - 1 : Int32) (fun x2 => Option.bind (mR M a0 5) (fun r3 => grd (okO M 14 r3) (grd (vp_in (mI M a0 7) (mL M r3)) (bv (wI M r3 (mI M a0 7).toNatClampNeg 0) (fun M6 => Option.bind (mR M6 a0 6) (fun r10 => grd (okO M6 14 r10) (grd (vp_in (mI M6 a0 7) (mL M6 r10)) (bv (wI M6 r10 (mI M6 a0 7).toNatClampNeg 0) (fun M13 => bv ((mI M13 a0 7) - 1 : Int32) (fun x17 => Option.bind (loopO (wr0 a0 x2) (M13, x17)) (fun (x25 : Mem) => some x25)))))))))))) := rfl
def S401 (a _k : Nat) : Prop := a = 40 ∨ a = 41
theorem c_workFloor {M : Mem} (hC : LayC M) {n : Nat} (hn0 : 0 < n) (hn : n ≤ 6) {W : Nat → Nat → Nat} (hW : PDW M n W) (bW : ∀ i j, W i j ≤ 1000000) : TT (f_X5_workFloor M 34) (fun M1 => Fr S401 M M1 ∧ ∃ x, XNR W n x ∧ FLR M1 n x) := by
  have h64 : 2 ^ n ≤ 64 := Nat.le_trans (Nat.pow_le_pow_right (by omega) hn) (by decide)
  have h2 : 2 ≤ 2 ^ n := by
    have : 2 ^ 1 ≤ 2 ^ n := Nat.pow_le_pow_right (by omega) hn0
    omega
  obtain ⟨l1, -⟩ := lyP hC
  obtain ⟨q1, q2, q3, q4, q5, q6⟩ := lyP3 hC
  have hx : ∃ x, XNR W n x := by
    refine ⟨fun i => Classical.choose (nrs_ex W (clr (2 ^ n - 1) i).testBit i n), fun i _ => Classical.choose_spec (nrs_ex W (clr (2 ^ n - 1) i).testBit i n)⟩
  obtain ⟨x, hx⟩ := hx
  have hsf := sfr_le (f := x) (n := n) (B := 1000000) (fun i hi => (hx i hi).1)
  rw [workFloor_eq, grd_y l1, hW.1, one_n n (by omega), show (1 : Int32) = nI 1 from rfl, nsub (by omega), TT_bv, q1, Option.bind_some, grd_y q2, q3, grd_y ((nvp (by omega)).mpr (by omega)), nclampI (by omega), TT_bv, mR_wI, q4, Option.bind_some, ok_wI, grd_y q5, mI_wI_row (by omega), hW.1, mL_wI, q6, grd_y ((nvp (by omega)).mpr (by omega)), nclampI (by omega), TT_bv, mI_wI_row (by omega), mI_wI_row (by omega), hW.1, TT_bv]
  have f0 : Fr S401 M (wI (wI M 40 n 0) 41 n 0) := (Fr.rf.wI (Or.inl rfl)).wI (Or.inr rfl)
  have e40 : mI (wI (wI M 40 n 0) 41 n 0) 40 n = nI 0 := by rw [mI_wI_row (by omega), mI_wIs]; rfl
  have e41 : mI (wI (wI M 40 n 0) 41 n 0) 41 n = nI 0 := mI_wIs
  generalize wI (wI M 40 n 0) 41 n 0 = M0 at f0 e40 e41
  rw [TT_bind]
  refine (TT_for n (fun t s => ∃ M', s = (M', nI (n - t) - 1) ∧ Fr S401 M M' ∧ ∀ t', t' ≤ t → mI M' 40 (n - t') = nI (sfr x n t') ∧ mI M' 41 (n - t') = nI (dfr x n t')) (Q := fun M1 => Fr S401 M M1 ∧ ∃ x, XNR W n x ∧ FLR M1 n x) ?_ (Nat.zero_le _) ⟨M0, rfl, f0, fun t' ht' => ?_⟩).mono (fun x hx => TT_some.mpr hx)
  · rintro t s ht ⟨M', rfl, hf, hv⟩
    have hC' := hC.fr hf
    obtain ⟨p1, p2, p3, p4, p5', p6⟩ := lyP3 hC'
    have hW' := hW.fr hf (by unfold S401; omega) (fun k => by unfold S401; omega)
    unfold wr0
    simp only
    by_cases w : t = n
    · subst w
      rw [Nat.sub_self, if_pos nm1, TT_some]
      exact ⟨hf, x, hx, fun t' ht' => hv t' ht'⟩
    · have e1 : nI (n - t) - 1 = nI (n - 1 - t) := by
        rw [show n - t = (n - 1 - t) + 1 from by omega, nprd]
      obtain ⟨y, hy, ey⟩ := c_nearest hC' hn hW' bW (b := clr (2 ^ n - 1) (n - 1 - t)) (d := n - 1 - t) (Nat.lt_of_le_of_lt Nat.and_le_left (by omega)) (by omega)
      have hyx : y = x (n - 1 - t) := hy.un (hx _ (by omega))
      obtain ⟨v1, v2⟩ := hv t (Nat.le_refl _)
      obtain ⟨b1', b2⟩ := hsf t ht
      have hyl := hy.1
      have b3 : 1000000 * t ≤ 6000000 := by omega
      rw [e1, if_neg (ltz (by omega)), others_n _ (by omega) _ (by omega), ey, Option.bind_some, p1, Option.bind_some, Option.bind_some, grd_y p2, p3, nsucc, show n - 1 - t + 1 = n - t from by omega, grd_y ((nvp (by omega)).mpr (by omega)), grd_y p2, grd_y ((nvp (by omega)).mpr (by omega)), nclampI (a := n - 1 - t) (by omega), nclampI (a := n - t) (by omega), v1, nadd, TT_bv, mR_wI, p4, Option.bind_some, Option.bind_some, ok_wI, grd_y p5', mL_wI, p6, grd_y ((nvp (by omega)).mpr (by omega)), grd_y p5', grd_y ((nvp (by omega)).mpr (by omega)), mI_wI_row (by omega), v2, mmax_i (by omega) (by omega), TT_bv, TT_bv, TT_some]
      refine ⟨by omega, _, by rw [ladd, show n - (t + 1) = n - 1 - t from by omega], (hf.wI (Or.inl rfl)).wI (Or.inr rfl), fun t' ht' => ?_⟩
      by_cases z : t' = t + 1
      · subst z
        rw [show n - (t + 1) = n - 1 - t from by omega]
        constructor
        · rw [mI_wI_row (by omega), mI_wIs, hyx, sfr]
        · rw [mI_wIs, hyx, dfr]
      · have hne : n - t' ≠ n - 1 - t := by omega
        constructor
        · rw [mI_wI_row (by omega), mI_wI_ne hne]
          exact (hv t' (by omega)).1
        · rw [mI_wI_ne hne, mI_wI_row (by omega)]
          exact (hv t' (by omega)).2
  · have : t' = 0 := by omega
    subst this
    exact ⟨e40, e41⟩
/-- who comes of whom -/
def MTR (M : Mem) (m : Nat → Option Nat) (d : Nat) : Prop := ∀ k, k < d → mI M 37 k = oI (m k)
noncomputable def co0 (M : Mem) (a0 : Nat) (p2 : Int32) : Int32 × Int32 → Option ((Int32 × Int32) ⊕ Int32) := (fun s1 => if 6 ≤ s1.2 then (some (.inr s1.1)) else (if s1.1 = (-1) then (some (.inr s1.1)) else (if p2 ≤ s1.1 then (some (.inr s1.1)) else (grd (okO M 5 a0) (Option.bind (mR M a0 2) (fun r10 => grd (okO M 14 r10) (grd (vp_in s1.1 (mL M r10)) (bv (mI M r10 s1.1.toNatClampNeg : Int32) (fun x13 => bv (s1.2 + 1 : Int32) (fun x14 => some (.inl (x13, x14))))))))))))
theorem comesOf_eq {M : Mem} {a0 : Nat} {p1 p2 : Int32} : f_X5_comesOf M a0 p1 p2 = Option.bind (loopO (co0 M a0 p2) (p1, 0)) (fun (x7 : Int32) => if x7 = p2 then (some 1) else (some 0)) := rfl
theorem c_comesOf {M : Mem} (hC : LayC M) {m : Nat → Option Nat} {d i n : Nat} (hdn : d < n) (hn : n ≤ 6) (hm : MTR M m d) (hv : ∀ k j, k < d → m k = some j → j < n) (hi : i < n) : f_X5_comesOf M 34 (nI i) (nI d) = some (b1 (decide (pth m d 6 i = some d))) := by
  obtain ⟨l1, -, -, -, l5, l6, l7⟩ := lyP hC
  have key : TT (loopO (co0 M 34 (nI d)) (nI i, 0)) (fun z => z = oI (pth m d 6 i)) := by
    have hb : ∀ s k q, k < n → pth m d s k = some q → q < n := by
      intro s
      induction s with
      | zero =>
        intro k q hk h
        cases h
        exact hk
      | succ s ih =>
        intro k q hk h
        rw [pth] at h
        by_cases w : k < d
        · rw [if_pos w] at h
          cases hmk : m k with
          | none => rw [hmk] at h; cases h
          | some j =>
            rw [hmk] at h
            exact ih j q (hv k j w hmk) h
        · rw [if_neg w] at h
          cases h
          exact hk
    refine TT_for 6 (fun s st => st = (oI (pth m d s i), nI s)) ?_ (Nat.zero_le _) rfl
    rintro s st hs rfl
    unfold co0
    simp only
    have stable : (∀ q, pth m d s i = some q → d ≤ q) → pth m d 6 i = pth m d s i := fun h => by
      have := pth_st (m := m) (d := d) (s := s) (k := i) h (6 - s)
      rw [show s + (6 - s) = 6 from by omega] at this
      exact this
    by_cases w : s = 6
    · rw [if_pos ((c6k hs).mpr w), TT_some]
      subst w
      rfl
    · rw [if_neg (fun q => w ((c6k hs).mp q))]
      cases hp : pth m d s i with
      | none =>
        rw [if_pos (show oI none = -1 from rfl), TT_some]
        show oI none = oI (pth m d 6 i)
        rw [stable (fun q hq => by rw [hp] at hq; cases hq), hp]
      | some q =>
        have hq := hb s i q hi hp
        rw [if_neg (show ¬ oI (some q) = -1 from neg1_nI (by omega)), show oI (some q) = nI q from rfl]
        by_cases w2 : d ≤ q
        · rw [if_pos ((nleI (by omega) (by omega)).mpr w2), TT_some]
          show nI q = oI (pth m d 6 i)
          rw [stable (fun q' hq' => by rw [hp] at hq'; cases hq'; exact w2), hp]
          rfl
        · have hqd : q < d := by omega
          rw [if_neg (fun z => w2 ((nleI (by omega) (by omega)).mp z)), grd_y l1, l5, Option.bind_some, grd_y l6, l7, grd_y ((nvp (by omega)).mpr (by omega)), nclampI (by omega), hm q hqd, TT_bv, TT_bv, TT_some]
          refine ⟨by omega, ?_⟩
          have : pth m d (s + 1) i = m q := by
            rw [pth_add, hp]
            show pth m d 1 q = m q
            rw [pth, if_pos hqd]
            cases m q with
            | none => rfl
            | some j => rfl
          rw [this, nsucc]
  obtain ⟨z, e, hz⟩ := key
  rw [comesOf_eq, e, Option.bind_some, hz]
  have hbd : ∀ v, pth m d 6 i = some v → v < 2147483648 := fun v hv' => by
    have hb : ∀ s k q, k < n → pth m d s k = some q → q < n := by
      intro s
      induction s with
      | zero =>
        intro k q hk h
        cases h
        exact hk
      | succ s ih =>
        intro k q hk h
        rw [pth] at h
        by_cases w : k < d
        · rw [if_pos w] at h
          cases hmk : m k with
          | none => rw [hmk] at h; cases h
          | some j =>
            rw [hmk] at h
            exact ih j q (hv k j w hmk) h
        · rw [if_neg w] at h
          cases h
          exact hk
    have := hb 6 i v hi hv'
    omega
  by_cases w : pth m d 6 i = some d
  · rw [if_pos ((oI_n hbd (by omega)).mpr w)]
    simp [w, b1]
  · rw [if_neg (fun q => w ((oI_n hbd (by omega)).mp q))]
    simp [w, b1]
