/-! LINES: the reference counts -/
theorem ly70 {M : Mem} (h : LayM M) : mR M 47 40 = some 70 ∧ okO M 14 70 ∧ mL M 70 = 6 ∧ mR M 47 41 = some 71 ∧ okO M 14 71 ∧ mL M 71 = 36 := by
  unfold LayM at h
  simp only [h, and_self]
theorem ly72 {M : Mem} (h : LayM M) : mR M 47 42 = some 72 ∧ okO M 14 72 ∧ mL M 72 = 6 ∧ mR M 47 43 = some 73 ∧ okO M 14 73 ∧ mL M 73 = 6 := by
  unfold LayM at h
  simp only [h, and_self]
def MT2 (M : Mem) (m : Nat → Option Nat) (n : Nat) : Prop := ∀ k, k < n → mI M 72 k = oI (m k)
noncomputable def it0 (M : Mem) (a0 : Nat) (p1 : Int32) : Int32 × Int32 → Option ((Int32 × Int32) ⊕ Int32) := (fun s1 => if p1 ≤ s1.2 then (some (.inr s1.1)) else (grd (okO M 12 a0) (Option.bind (mR M a0 42) (fun r10 => grd (okO M 14 r10) (grd (vp_in s1.2 (mL M r10)) (bv (fun (s14 : Int32) => bv (s1.1 + s14 : Int32) (fun x17 => bv (s1.2 + 1 : Int32) (fun x18 => some (.inl (x17, x18))))) (fun j13 => if (mI M r10 s1.2.toNatClampNeg) = (-1) then (j13 1) else (j13 0))))))))
noncomputable def it2 (M : Mem) (a0 : Nat) (p1 : Int32) : Int32 × Int32 → Option ((Int32 × Int32) ⊕ Int32) := (fun s31 => if p1 ≤ s31.2 then (some (.inr s31.1)) else (grd (okO M 12 a0) (Option.bind (mR M a0 42) (fun r40 => grd (okO M 14 r40) (grd (vp_in s31.1 (mL M r40)) (if (mI M r40 s31.1.toNatClampNeg) = (-1) then (some (.inr s31.1)) else (Option.bind (mR M a0 42) (fun r43 => grd (okO M 14 r43) (grd (vp_in s31.1 (mL M r43)) (bv (mI M r43 s31.1.toNatClampNeg : Int32) (fun x46 => bv (s31.2 + 1 : Int32) (fun x47 => some (.inl (x46, x47))))))))))))))
noncomputable def it1 (M : Mem) (a0 : Nat) (p1 : Int32) : Int32 → Option (Int32 ⊕ (Unit ⊕ Unit)) := (fun s19 => if p1 ≤ s19 then (some (.inr (.inl ()))) else (Option.bind (loopO (it2 M a0 p1) (s19, 0)) (fun (x37 : Int32) => grd (okO M 12 a0) (Option.bind (mR M a0 42) (fun r49 => grd (okO M 14 r49) (grd (vp_in x37 (mL M r49)) (if (mI M r49 x37.toNatClampNeg) = (-1) then (bv (s19 + 1 : Int32) (fun x52 => some (.inl x52))) else (some (.inr (.inr ()))))))))))
theorem isTree_eq {M : Mem} {a0 : Nat} {p1 : Int32} : f_X12_isTree M a0 p1 = Option.bind (loopO (it0 M a0 p1) (0, 0)) (fun (x7 : Int32) => if x7 = 1 then (Option.bind (loopO (it1 M a0 p1) 0) (Sum.elim (fun (x27 : Unit) => some 1) (fun (x29 : Unit) => some 0))) else (some 0)) := rfl
def rtc (m : Nat → Option Nat) : Nat → Nat
  | 0 => 0
  | k + 1 => rtc m k + (if m k = none then 1 else 0)
theorem rtc_le {m : Nat → Option Nat} : ∀ k, rtc m k ≤ k
  | 0 => Nat.le_refl _
  | k + 1 => by
    have := rtc_le (m := m) k
    rw [rtc]
    split <;> omega
theorem rtc_0 {m : Nat → Option Nat} : ∀ n, rtc m n = 0 ↔ ∀ k, k < n → m k ≠ none
  | 0 => ⟨fun _ k hk => by omega, fun _ => rfl⟩
  | n + 1 => by
    rw [rtc]
    constructor
    · intro h k hk
      by_cases z : k = n
      · subst z
        intro q
        rw [if_pos q] at h
        omega
      · exact (rtc_0 n).mp (by omega) k (by omega)
    · intro h
      rw [(rtc_0 n).mpr (fun k hk => h k (by omega)), if_neg (h n (by omega))]
theorem rtc_1 {m : Nat → Option Nat} : ∀ n, rtc m n = 1 ↔ ∃ r, r < n ∧ m r = none ∧ ∀ k, k < n → m k = none → k = r
  | 0 => ⟨(fun h => by cases h), fun ⟨r, h, _⟩ => by omega⟩
  | n + 1 => by
    rw [rtc]
    by_cases w : m n = none
    · rw [if_pos w]
      constructor
      · intro h
        have h0 := (rtc_0 n).mp (show rtc m n = 0 by omega)
        refine ⟨n, by omega, w, fun k hk hm => ?_⟩
        refine Classical.byContradiction (fun z => h0 k (by omega) hm)
      · rintro ⟨r, h1, h2, h3⟩
        have hr := h3 n (by omega) w
        have : rtc m n = 0 := (rtc_0 n).mpr (fun k hk q => by
          have := h3 k (by omega) q
          omega)
        omega
    · rw [if_neg w, Nat.add_zero, rtc_1 n]
      constructor
      · rintro ⟨r, h1, h2, h3⟩
        refine ⟨r, by omega, h2, fun k hk hm => ?_⟩
        by_cases z : k = n
        · rw [z] at hm
          exact absurd hm w
        · exact h3 k (by omega) hm
      · rintro ⟨r, h1, h2, h3⟩
        have hrn : r ≠ n := fun q => by rw [q] at h2; exact w h2
        exact ⟨r, by omega, h2, fun k hk hm => h3 k (by omega) hm⟩
theorem r_isTree {M : Mem} (hM : LayM M) {n : Nat} (hn0 : 0 < n) (hn : n ≤ 6) {m : Nat → Option Nat} (hm : MT2 M m n) (hv : ∀ k i, k < n → m k = some i → i < n) : ∃ b : Bool, f_X12_isTree M 47 (nI n) = some (b1 b) ∧ (b = true ↔ TREE m n) := by
  have l0 := (lyF hM).1
  obtain ⟨l1, l2, l3, -⟩ := ly72 hM
  have hob : ∀ k, k < n → ∀ v, m k = some v → v < 2147483648 := fun k hk v h => by have := hv k v hk h; omega
  have k0 : TT (loopO (it0 M 47 (nI n)) (0, 0)) (fun z => z = nI (rtc m n)) := by
    refine TT_for n (fun k s => s = (nI (rtc m k), nI k)) ?_ (Nat.zero_le _) rfl
    rintro k s hk rfl
    unfold it0
    simp only
    by_cases w : k = n
    · rw [if_pos ((nleI (by omega) (by omega)).mpr (by omega)), TT_some, w]
      rfl
    · have hlt : k < n := by omega
      rw [if_neg (fun q => w (by have := (nleI (by omega) (by omega)).mp q; omega)), grd_y l0, l1, Option.bind_some, grd_y l2, l3, grd_y ((nvp (by omega)).mpr (by omega)), nclampI (by omega), hm k hlt, TT_bv]
      by_cases w2 : m k = none
      · rw [if_pos (by rw [w2]; rfl), TT_bv, TT_bv, TT_some]
        refine ⟨hlt, ?_⟩
        rw [rtc, if_pos w2, nsucc, nsucc]
      · rw [if_neg (fun q => w2 ((oI_m1 (hob k hlt)).mp q)), TT_bv, TT_bv, TT_some]
        refine ⟨hlt, ?_⟩
        rw [rtc, if_neg w2, nsucc, show nI (rtc m k) + 0 = nI (rtc m k + 0) from nadd _ 0]
  have k2 : ∀ k, k < n → TT (loopO (it2 M 47 (nI n)) (nI k, 0)) (fun z => ∃ v, z = nI v ∧ v < n ∧ ((m v = none ∧ trm m n n k) ∨ (m v ≠ none ∧ ¬ trm m n n k))) := by
    intro k hk
    refine TT_for n (fun s st => ∃ v, st = (nI v, nI s) ∧ v < n ∧ pth m n s k = some v) ?_ (Nat.zero_le _) ⟨k, rfl, hk, rfl⟩
    rintro s st hs ⟨v, rfl, hvn, hp⟩
    unfold it2
    simp only
    by_cases w : s = n
    · rw [if_pos ((nleI (by omega) (by omega)).mpr (by omega)), TT_some]
      subst w
      refine ⟨v, rfl, hvn, ?_⟩
      have hnt : ¬ trm m s s k := fun q => by
        have := q v hp
        omega
      by_cases w2 : m v = none
      · exfalso
        refine hnt ?_
        have h1 : trm m s (s + 1) k := fun q hq => by
          rw [pth_add, hp] at hq
          have hq : pth m s 1 v = some q := hq
          rw [pth, if_pos hvn, w2] at hq
          cases hq
        exact trm_le h1
      · exact Or.inr ⟨w2, hnt⟩
    · rw [if_neg (fun q => w (by have := (nleI (by omega) (by omega)).mp q; omega)), grd_y l0, l1, Option.bind_some, grd_y l2, l3, grd_y ((nvp (by omega)).mpr (by omega)), nclampI (by omega), hm v hvn]
      cases hmv : m v with
      | none =>
        rw [if_pos (show oI none = -1 from rfl), TT_some]
        refine ⟨v, rfl, hvn, Or.inl ⟨hmv, ?_⟩⟩
        have h1 : trm m n (s + 1) k := fun q hq => by
          rw [pth_add, hp] at hq
          have hq : pth m n 1 v = some q := hq
          rw [pth, if_pos hvn, hmv] at hq
          cases hq
        exact trm_le h1
      | some i =>
        have hi := hv v i hvn hmv
        rw [if_neg (show ¬ oI (some i) = -1 from neg1_nI (by omega)), Option.bind_some, grd_y l2, l3, grd_y ((nvp (by omega)).mpr (by omega)), hm v hvn, hmv, TT_bv, TT_bv, TT_some]
        refine ⟨by omega, i, by rw [nsucc]; rfl, hi, ?_⟩
        rw [pth_add, hp]
        show pth m n 1 v = some i
        rw [pth, if_pos hvn, hmv]
        rfl
  have k1 : TT (loopO (it1 M 47 (nI n)) 0) (fun z => (z = Sum.inl () ∧ AC m n) ∨ (z = Sum.inr () ∧ ¬ AC m n)) := by
    refine TT_for n (fun k s => s = nI k ∧ ∀ j, j < k → trm m n n j) ?_ (Nat.zero_le _) ⟨rfl, fun j hj => by omega⟩
    rintro k s hk ⟨rfl, hj⟩
    unfold it1
    by_cases w : k = n
    · rw [if_pos ((nleI (by omega) (by omega)).mpr (by omega)), TT_some]
      exact Or.inl ⟨rfl, fun j hjn => ⟨n, hj j (by omega)⟩⟩
    · have hlt : k < n := by omega
      rw [if_neg (fun q => w (by have := (nleI (by omega) (by omega)).mp q; omega)), TT_bind]
      refine (k2 k hlt).mono ?_
      rintro z ⟨v, rfl, hvn, hz⟩
      rw [grd_y l0, l1, Option.bind_some, grd_y l2, l3, grd_y ((nvp (by omega)).mpr (by omega)), nclampI (by omega), hm v hvn]
      rcases hz with ⟨q1, q2⟩ | ⟨q1, q2⟩
      · rw [if_pos (by rw [q1]; rfl), TT_bv, TT_some]
        refine ⟨hlt, nsucc k, fun j hjk => ?_⟩
        by_cases u : j = k
        · rw [u]; exact q2
        · exact hj j (by omega)
      · rw [if_neg (fun q => q1 ((oI_m1 (hob v hvn)).mp q)), TT_some]
        exact Or.inr ⟨rfl, fun ha => q2 (ha.at k)⟩
  obtain ⟨z0, e0, h0⟩ := k0
  rw [isTree_eq, e0, Option.bind_some, h0]
  have hrc := rtc_le (m := m) n
  by_cases w : rtc m n = 1
  · rw [if_pos (by rw [w]; rfl)]
    obtain ⟨z1, e1, h1⟩ := k1
    rw [e1, Option.bind_some]
    rcases h1 with ⟨rfl, ha⟩ | ⟨rfl, ha⟩
    · exact ⟨true, rfl, fun _ => ⟨(rtc_1 n).mp w, ha⟩, fun _ => rfl⟩
    · exact ⟨false, rfl, (fun q => by cases q), fun q => absurd q.2 ha⟩
  · rw [if_neg (show ¬ nI (rtc m n) = 1 from fun q : nI (rtc m n) = nI 1 => w ((neqI (by omega) (by omega)).mp q))]
    exact ⟨false, rfl, (fun q => by cases q), fun q => absurd ((rtc_1 n).mpr q.1) w⟩
/-- the reference's digits and sum of row number c -/
def APW (M : Mem) (n : Nat) (W : Nat → Nat → Nat) : Prop := ∀ i j, i < n → j < n → mI M 71 (6 * i + j) = nI (W i j)
def cR (W : Nat → Nat → Nat) (m : Nat → Option Nat) (k : Nat) : Nat := match m k with
  | none => 0
  | some i => if i = k then 1000000 else W i k
theorem cR_tree {W : Nat → Nat → Nat} {m : Nat → Option Nat} {n : Nat} (h : TREE m n) : ∀ t, t ≤ n → sfr (cR W m) n t = sfr (cst W m) n t
  | 0, _ => rfl
  | t + 1, ht => by
    rw [sfr, sfr, cR_tree h t (by omega)]
    congr 1
    unfold cR cst
    cases hm : m (n - 1 - t) with
    | none => rfl
    | some i =>
      simp only
      rw [if_neg (fun q => ?_)]
      subst q
      exact AC.no (s := 0) (show n - 1 - t < n by omega) hm rfl h.2
noncomputable def rl5 (a0 : Nat) (nn : Int32) : Mem × Int32 × Int32 × Int32 → Option ((Mem × Int32 × Int32 × Int32) ⊕ (Mem × Int32)) := (fun s119 => if s119.2.2.2 < 0 then (some (.inr (s119.1, s119.2.2.1))) else (Option.bind (mR s119.1 a0 42) (fun r128 => grd (¬ (nn + 1) = 0) (grd (okO s119.1 14 r128) (grd (vp_in s119.2.2.2 (mL s119.1 r128)) (bv (wI s119.1 r128 s119.2.2.2.toNatClampNeg ((ir s119.2.1 (nn + 1)) - 1)) (fun M132 => grd (¬ (nn + 1) = 0) (bv (s119.2.1 / (nn + 1) : Int32) (fun x137 => Option.bind (mR M132 a0 42) (fun r138 => grd (okO M132 14 r138) (grd (vp_in s119.2.2.2 (mL M132 r138)) (bv (fun (s142 : Int32) => bv (s119.2.2.1 + s142 : Int32) (fun x145 => bv (s119.2.2.2 + (-1) : Int32) (fun x146 => some (.inl (M132, x137, x145, x146))))) (fun j141 => if (mI M132 r138 s119.2.2.2.toNatClampNeg) = (-1) then (j141 0) else (Option.bind (mR M132 a0 42) (fun r147 => grd (okO M132 14 r147) (grd (vp_in s119.2.2.2 (mL M132 r147)) (if (mI M132 r147 s119.2.2.2.toNatClampNeg) = s119.2.2.2 then (j141 1000000) else (Option.bind (mR M132 a0 41) (fun r150 => Option.bind (mR M132 a0 42) (fun r151 => grd (okO M132 14 r151) (grd (vp_in s119.2.2.2 (mL M132 r151)) (grd (okO M132 14 r150) (grd (vp_in ((6 * (mI M132 r151 s119.2.2.2.toNatClampNeg)) + s119.2.2.2) (mL M132 r150)) (j141 (mI M132 r150 ((6 * (mI M132 r151 s119.2.2.2.toNatClampNeg)) + s119.2.2.2).toNatClampNeg)))))))))))))))))))))))))
def S72 (a _k : Nat) : Prop := a = 72
theorem dgo_i {g : Nat} (hg : g < 2147483648) : nI g - 1 = oI (dgo g) := by
  unfold dgo
  by_cases w : g = 0
  · subst w
    rfl
  · rw [if_neg w, show nI g = nI ((g - 1) + 1) from by rw [show g - 1 + 1 = g from by omega], nprd]
    rfl
theorem r_rl5 {M : Mem} (hM : LayM M) {n : Nat} (hn0 : 0 < n) (hn : n ≤ 6) {W : Nat → Nat → Nat} (hW : APW M n W) (bW : ∀ i j, W i j ≤ 1000000) {c : Nat} (hc : c < 117650) : TT (loopO (rl5 47 (nI n)) (M, nI c, 0, nI n - 1)) (fun z => ∃ M1, z = (M1, nI (sfr (cR W (mkC n c)) n n)) ∧ Fr S72 M M1 ∧ MT2 M1 (mkC n c) n) := by
  have bR : ∀ k, cR W (mkC n c) k ≤ 1000000 := fun k => by
    unfold cR
    split
    · omega
    · split
      · omega
      · exact bW _ _
  refine TT_for n (fun t s => ∃ M', s = (M', nI (c / (n + 1) ^ t), nI (sfr (cR W (mkC n c)) n t), nI (n - t) - 1) ∧ Fr S72 M M' ∧ ∀ k, n - t ≤ k → k < n → mI M' 72 k = oI (mkC n c k)) ?_ (Nat.zero_le _) ⟨M, by rw [Nat.pow_zero, Nat.div_one, Nat.sub_zero]; rfl, Fr.rf, fun k h1 h2 => by omega⟩
  rintro t s ht ⟨M', rfl, hF, hv⟩
  have hM' := hM.fr hF
  obtain ⟨l1, l2, l3, -⟩ := ly72 hM'
  obtain ⟨-, -, -, p4, p5', p6⟩ := ly70 hM'
  unfold rl5
  simp only
  by_cases w : t = n
  · subst w
    rw [Nat.sub_self, if_pos nm1, TT_some]
    exact ⟨M', rfl, hF, fun k hk => hv k (by omega) hk⟩
  · have e1 : nI (n - t) - 1 = nI (n - 1 - t) := by
      rw [show n - t = (n - 1 - t) + 1 from by omega, nprd]
    have hcd : c / (n + 1) ^ t ≤ c := Nat.div_le_self _ _
    have hg : c / (n + 1) ^ t % (n + 1) < n + 1 := Nat.mod_lt _ (by omega)
    have hmk : mkC n c (n - 1 - t) = dgo (c / (n + 1) ^ t % (n + 1)) := by
      unfold mkC
      rw [show n - 1 - (n - 1 - t) = t from by omega]
    have hsb := (sfr_le (f := cR W (mkC n c)) (n := n) (B := 1000000) (fun i _ => bR i) t (by omega)).1
    have hsb2 : 1000000 * t ≤ 6000000 := by omega
    rw [e1, if_neg (ltz (by omega)), l1, Option.bind_some, nsucc n, grd_y (show ¬ nI (n + 1) = 0 from fun q : nI (n + 1) = nI 0 => by have := (neqI (by omega) (by omega)).mp q; omega), grd_y l2, l3, grd_y ((nvp (by omega)).mpr (by omega)), nclampI (a := n - 1 - t) (by omega), nrem (by omega) (by omega) (by omega), dgo_i (by omega), ← hmk, TT_bv, grd_y (show ¬ nI (n + 1) = 0 from fun q : nI (n + 1) = nI 0 => by have := (neqI (by omega) (by omega)).mp q; omega), ndiv (by omega) (by omega) (by omega), Nat.div_div_eq_div_mul, ← Nat.pow_succ, TT_bv, mR_wI, l1, Option.bind_some, ok_wI, grd_y l2, mL_wI, l3, grd_y ((nvp (by omega)).mpr (by omega)), TT_bv, mI_wIs]
    have f1 : Fr S72 M (wI M' 72 (n - 1 - t) (oI (mkC n c (n - 1 - t)))) := hF.wI rfl
    have fin : ∀ v : Nat, v = cR W (mkC n c) (n - 1 - t) → TT (some (Sum.inl (wI M' 72 (n - 1 - t) (oI (mkC n c (n - 1 - t))), nI (c / (n + 1) ^ (t + 1)), nI (sfr (cR W (mkC n c)) n t) + nI v, nI (n - 1 - t) + (-1))) : Option ((Mem × Int32 × Int32 × Int32) ⊕ (Mem × Int32))) (fun r => r.elim (fun s' => t < n ∧ ∃ M', s' = (M', nI (c / (n + 1) ^ (t + 1)), nI (sfr (cR W (mkC n c)) n (t + 1)), nI (n - (t + 1)) - 1) ∧ Fr S72 M M' ∧ ∀ k, n - (t + 1) ≤ k → k < n → mI M' 72 k = oI (mkC n c k)) (fun z => ∃ M1, z = (M1, nI (sfr (cR W (mkC n c)) n n)) ∧ Fr S72 M M1 ∧ MT2 M1 (mkC n c) n)) := fun v hv' => by
      rw [TT_some]
      refine ⟨by omega, _, ?_, f1, fun k h1 h2 => ?_⟩
      · rw [nadd, hv', sfr, ladd, show n - (t + 1) = n - 1 - t from by omega]
      · rw [mI_wI]
        by_cases z : k = n - 1 - t
        · rw [if_pos ⟨rfl, z⟩, z]
        · rw [if_neg (fun q => z q.2)]
          exact hv k (by omega) h2
    cases hm : mkC n c (n - 1 - t) with
    | none =>
      rw [if_pos (show oI none = -1 from rfl)]
      rw [hm] at fin
      exact fin 0 (by unfold cR; rw [hm])
    | some i =>
      have hi := mkC_lt hn0 hm
      rw [hm] at fin
      rw [if_neg (show ¬ oI (some i) = -1 from neg1_nI (by omega)), Option.bind_some, ok_wI, grd_y l2, l3, grd_y ((nvp (by omega)).mpr (by omega)), mI_wIs, show oI (some i) = nI i from rfl]
      by_cases w2 : i = n - 1 - t
      · rw [if_pos (by rw [w2])]
        exact fin 1000000 (by unfold cR; rw [hm]; simp only [if_pos w2])
      · have hWi := hW i (n - 1 - t) hi (by omega)
        rw [if_neg (fun q => w2 ((neqI (by omega) (by omega)).mp q)), p4, Option.bind_some, Option.bind_some, ok_wI, grd_y l2, l3, grd_y ((nvp (by omega)).mpr (by omega)), ok_wI, grd_y p5', p6, mI_wIs, show (6 : Int32) * nI i = nI (6 * i) from nmul 6 i, nadd, grd_y ((nvp (by omega)).mpr (by omega)), nclampI (by omega), mI_wI_row (by omega), hF.i (by unfold S72; omega), hWi]
        exact fin (W i (n - 1 - t)) (by unfold cR; rw [hm]; simp only [if_neg w2])
