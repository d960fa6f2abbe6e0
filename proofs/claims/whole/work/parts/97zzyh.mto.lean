/-! STEPS to a DISH, level by level: the reference -/
def trc (T : Nat → Option Nat) (d q : Nat) : Option Nat := match T q with
  | none => none
  | some e => if e ≤ d then some e else none
theorem trc_iff {T : Nat → Option Nat} {d q e : Nat} : trc T d q = some e ↔ (T q = some e ∧ e ≤ d) := by
  unfold trc
  cases h : T q with
  | none => exact ⟨(fun z => by cases z), fun z => by cases z.1⟩
  | some e' =>
    simp only
    by_cases w : e' ≤ d
    · rw [if_pos w]
      constructor
      · intro z
        cases z
        exact ⟨rfl, w⟩
      · intro z
        exact z.1
    · rw [if_neg w]
      refine ⟨(fun z => by cases z), fun z => ?_⟩
      have := Option.some.inj z.1
      omega
theorem trc_none {T : Nat → Option Nat} {d q : Nat} : trc T d q = none ↔ ∀ e, T q = some e → d < e := by
  constructor
  · intro h e he
    refine Classical.byContradiction (fun w => ?_)
    rw [trc_iff.mpr ⟨he, by omega⟩] at h
    cases h
  · intro h
    cases hq : trc T d q with
    | none => rfl
    | some e =>
      obtain ⟨h1, h2⟩ := trc_iff.mp hq
      have := h e h1
      omega
def FARR (M : Mem) (D : Nat → Option Nat) : Prop := ∀ p, p < 9331 → mI M 65 p = fI (D p)
def S65 (a _k : Nat) : Prop := a = 65
noncomputable def mt0 (a0 : Nat) (p1 : Int32) : Mem × Int32 → Option ((Mem × Int32) ⊕ (Mem)) := (fun s1 => if 9331 ≤ s1.2 then (some (.inr s1.1)) else (grd (okO s1.1 12 a0) (Option.bind (mR s1.1 a0 35) (fun r10 => bv (fun (s12 : Int32) => grd (okO s1.1 14 r10) (grd (vp_in s1.2 (mL s1.1 r10)) (bv (wI s1.1 r10 s1.2.toNatClampNeg s12) (fun M17 => bv (s1.2 + 1 : Int32) (fun x21 => some (.inl (M17, x21))))))) (fun j11 => if s1.2 = p1 then (j11 0) else (j11 1000000))))))
noncomputable def mt3 (M : Mem) (a0 : Nat) (p dd : Int32) : Int32 × Int32 → Option ((Int32 × Int32) ⊕ Int32) := (fun s48 => Option.bind (mR M a0 33) (fun r56 => grd (okO M 14 r56) (grd (vp_in p (mL M r56)) (if (mI M r56 p.toNatClampNeg) ≤ s48.2 then (some (.inr s48.1)) else (if s48.1 = 0 then (Option.bind (mR M a0 35) (fun r59 => Option.bind (mR M a0 32) (fun r60 => grd (okO M 14 r60) (grd (vp_in ((46 * p) + s48.2) (mL M r60)) (grd (okO M 14 r59) (grd (vp_in (mI M r60 ((46 * p) + s48.2).toNatClampNeg) (mL M r59)) (bv (fun (s66 : Int32) => bv (s48.2 + 1 : Int32) (fun x69 => some (.inl (s66, x69)))) (fun j65 => if (mI M r59 (mI M r60 ((46 * p) + s48.2).toNatClampNeg).toNatClampNeg) = dd then (j65 1) else (j65 0))))))))) else (some (.inr s48.1)))))))
noncomputable def mt2 (a0 : Nat) (dd : Int32) : Mem × Int32 × Int32 → Option ((Mem × Int32 × Int32) ⊕ (Mem × Int32)) := (fun s30 => if 9331 ≤ s30.2.2 then (some (.inr (s30.1, s30.2.1))) else (grd (okO s30.1 12 a0) (Option.bind (mR s30.1 a0 35) (fun r39 => grd (okO s30.1 14 r39) (grd (vp_in s30.2.2 (mL s30.1 r39)) (bv (fun (s43 : Mem × Int32) => bv (s30.2.2 + 1 : Int32) (fun x47 => some (.inl (s43.1, s43.2, x47)))) (fun j42 => if 1000000 ≤ (mI s30.1 r39 s30.2.2.toNatClampNeg) then (Option.bind (loopO (mt3 s30.1 a0 s30.2.2 dd) (0, 0)) (fun (x54 : Int32) => if x54 = 0 then (j42 (s30.1, s30.2.1)) else (Option.bind (mR s30.1 a0 35) (fun r70 => grd (okO s30.1 14 r70) (grd (vp_in s30.2.2 (mL s30.1 r70)) (bv (wI s30.1 r70 s30.2.2.toNatClampNeg (dd + 1)) (fun M73 => j42 (M73, 1)))))))) else (j42 (s30.1, s30.2.1)))))))))
noncomputable def mt1 (a0 : Nat) : Mem × Int32 × Int32 → Option ((Mem × Int32 × Int32) ⊕ (Mem)) := (fun s22 => if s22.2.1 = 0 then (some (.inr s22.1)) else (Option.bind (loopO (mt2 a0 s22.2.2) (s22.1, 0, 0)) (fun (x36 : Mem × Int32) => bv (s22.2.2 + 1 : Int32) (fun x77 => some (.inl (x36.1, x36.2, x77))))))
theorem measuresTo_eq {M : Mem} {a0 : Nat} {p1 : Int32} : f_X12_measuresTo M a0 p1 = Option.bind (loopO (mt0 a0 p1) (M, 0)) (fun (x7 : Mem) => Option.bind (loopO (mt1 a0) (x7, 1, 0)) (fun (x28 : Mem) => some x28)) := rfl
theorem r_mt0 {M : Mem} (h : LayM M) {g : Nat} (hg : g < 9331) : TT (loopO (mt0 47 (nI g)) (M, 0)) (fun M1 => Fr S65 M M1 ∧ FARR M1 (fun p => if p = g then some 0 else none)) := by
  obtain ⟨l0, l1, l2, l3, -⟩ := lyF h
  refine TT_for 9331 (fun k s => ∃ M', s = (M', nI k) ∧ Fr S65 M M' ∧ ∀ p, p < k → mI M' 65 p = fI (if p = g then some 0 else none)) ?_ (Nat.zero_le _) ⟨M, rfl, Fr.rf, fun j hj => by omega⟩
  rintro k s hk ⟨M', rfl, hF, hv⟩
  unfold mt0
  simp only
  by_cases w : k = 9331
  · rw [if_pos ((le9331 hk).mpr w), TT_some]
    subst w
    exact ⟨hF, hv⟩
  · rw [if_neg (fun q => w ((le9331 hk).mp q)), grd_y (okO_fr hF l0), hF.2.2.2.2.1, l1, Option.bind_some, TT_bv]
    have fin : ∀ x : Int32, x = fI (if k = g then some 0 else none) → TT (grd (okO M' 14 65) (grd (vp_in (nI k) (mL M' 65)) (bv (wI M' 65 (nI k).toNatClampNeg x) (fun M17 => bv (nI k + 1 : Int32) (fun x21 => (some (.inl (M17, x21)) : Option ((Mem × Int32) ⊕ (Mem)))))))) (fun r => r.elim (fun s' => k < 9331 ∧ ∃ M', s' = (M', nI (k + 1)) ∧ Fr S65 M M' ∧ ∀ p, p < k + 1 → mI M' 65 p = fI (if p = g then some 0 else none)) (fun M1 => Fr S65 M M1 ∧ FARR M1 (fun p => if p = g then some 0 else none))) := fun x hx => by
      rw [grd_y (okO_fr hF l2), hF.2.2.2.1, l3, grd_y ((nvp (by omega)).mpr (by omega)), TT_bv, TT_bv, TT_some, nclampI (by omega)]
      refine ⟨by omega, _, by rw [nsucc], hF.wI rfl, fun j hj => ?_⟩
      rw [mI_wI]
      by_cases q : j = k
      · rw [if_pos ⟨rfl, q⟩, hx, q]
      · rw [if_neg (fun z => q z.2)]
        exact hv j (by omega)
    by_cases w2 : k = g
    · rw [if_pos ((neqI (by omega) (by omega)).mpr w2)]
      exact fin 0 (by rw [if_pos w2]; rfl)
    · rw [if_neg (fun q => w2 ((neqI (by omega) (by omega)).mp q))]
      exact fin 1000000 (by rw [if_neg w2]; rfl)
theorem r_mt3 {M : Mem} {K : Nat → Int32} {y : Nat} (hk : KTH K) (hM : LayM M) {D : Nat → Option Nat} (hD : FARR M D) (hb : ∀ q d, D q = some d → d < 9331) {p dd : Nat} (hp : p < 9331) (hN : NXP M K y p) (hdd : dd < 9331) : TT (loopO (mt3 M 47 (nI p) (nI dd)) (0, 0)) (fun x => (x = 1 ∧ ∃ q, adjK K y p q ∧ D q = some dd) ∨ (x = 0 ∧ ∀ q, adjK K y p q → D q ≠ some dd)) := by
  obtain ⟨dl, dr⟩ := dR_v hp
  have hlen := EDG_len (K := K) (y := y) dl
  obtain ⟨l0, l1, l2, l3, -⟩ := lyF hM
  obtain ⟨n1, n2, n3, n4, n5, n6⟩ := lyN hM
  refine TT_for (EDG K y (dR p)).length (fun k s => ∃ x, s = (x, nI k) ∧ ((x = 1 ∧ ∃ q, adjK K y p q ∧ D q = some dd) ∨ (x = 0 ∧ ∀ j c, j < k → (EDG K y (dR p))[j]? = some c → D (rank c.1) ≠ some dd))) ?_ (Nat.zero_le _) ⟨0, rfl, Or.inr ⟨rfl, fun j c hj => by omega⟩⟩
  rintro i s hi ⟨x, rfl, hx⟩
  unfold mt3
  simp only
  rw [n1, Option.bind_some, grd_y n2, n3, grd_y ((nvp (by omega)).mpr hp), nclampI (a := p) (by omega), hN.1]
  by_cases w : i = (EDG K y (dR p)).length
  · rw [if_pos ((nleI (by omega) (by omega)).mpr (by omega)), TT_some]
    rcases hx with q | ⟨q1, q2⟩
    · exact Or.inl q
    · refine Or.inr ⟨q1, fun q hq => ?_⟩
      obtain ⟨_, c, hc, e1⟩ := hq
      obtain ⟨j, hj, ej⟩ := List.getElem_of_mem hc
      rw [← e1]
      exact q2 j c (by omega) (by rw [List.getElem?_eq_getElem hj, ej])
  · have hlt : i < (EDG K y (dR p)).length := by omega
    rw [if_neg (fun q => w (by have := (nleI (by omega) (by omega)).mp q; omega))]
    rcases hx with ⟨rfl, q⟩ | ⟨rfl, q2⟩
    · rw [if_neg (by decide), TT_some]
      exact Or.inl ⟨rfl, q⟩
    · have hc := List.getElem?_eq_getElem hlt
      have hcm := List.getElem_mem hlt
      generalize (EDG K y (dR p))[i] = c at hc hcm
      have hrl := rank_lt (EDG_DL hk dl hcm).1
      have e63 := hN.2 i c hc
      rw [if_pos rfl, l1, Option.bind_some, n4, Option.bind_some, grd_y n5, show (46 : Int32) * nI p = nI (46 * p) from nmul 46 p, nadd, n6, grd_y ((nvp (by omega)).mpr (by omega)), grd_y l2, nclampI (a := 46 * p + i) (by omega), e63, l3, grd_y ((nvp (by omega)).mpr hrl), TT_bv, nclampI (a := rank c.1) (by omega), hD _ hrl]
      by_cases w3 : D (rank c.1) = some dd
      · rw [if_pos ((fI_n (hb _) (by omega)).mpr w3), TT_bv, TT_some]
        exact ⟨hlt, 1, by rw [nsucc], Or.inl ⟨rfl, _, ⟨hp, c, hcm, rfl⟩, w3⟩⟩
      · rw [if_neg (fun q => w3 ((fI_n (hb _) (by omega)).mp q)), TT_bv, TT_some]
        refine ⟨hlt, 0, by rw [nsucc], Or.inr ⟨rfl, fun j c' hj hc' => ?_⟩⟩
        by_cases z : j = i
        · subst z
          rw [hc] at hc'
          cases hc'
          exact w3
        · exact q2 j c' (by omega) hc'
/-- STEPS to g, as a function -/
def TST (K : Nat → Int32) (y g : Nat) (T : Nat → Option Nat) : Prop := (∀ p e, T p = some e ↔ isD (adjK K y) p g e) ∧ ∀ p e, T p = some e → e < 9331
theorem TST.nx {K : Nat → Int32} {y g : Nat} {T : Nat → Option Nat} (h : TST K y g T) {p d : Nat} (hp : trc T d p = none) : (∃ q, adjK K y p q ∧ T q = some d) ↔ T p = some (d + 1) := by
  rw [trc_none] at hp
  constructor
  · rintro ⟨q, q1, q2⟩
    have hq := (h.1 q d).mp q2
    refine (h.1 p _).mpr ⟨(wk_head d p).mpr ⟨q, q1, hq.1⟩, fun e he z => ?_⟩
    obtain ⟨e', z1, z2⟩ := isD_ex e z
    have := hp e' ((h.1 p e').mpr z2)
    omega
  · intro z
    have hz := (h.1 p _).mp z
    obtain ⟨q, q1, q2⟩ := (wk_head d p).mp hz.1
    refine ⟨q, q1, (h.1 q d).mpr ⟨q2, fun e he z2 => ?_⟩⟩
    exact hz.2 (e + 1) (by omega) ((wk_head e p).mpr ⟨q, q1, z2⟩)
theorem TST.below {K : Nat → Int32} (hk : KTH K) {y g : Nat} {T : Nat → Option Nat} (h : TST K y g T) : ∀ e p d, T p = some e → p < 9331 → d ≤ e → ∃ q, q < 9331 ∧ T q = some d
  | 0, p, d, hp, hp9, hd => ⟨p, hp9, by rw [hp]; congr 1; omega⟩
  | e + 1, p, d, hp, hp9, hd => by
    rcases Nat.eq_or_lt_of_le hd with w | w
    · exact ⟨p, hp9, by rw [hp, w]⟩
    · have hz := (h.1 p _).mp hp
      obtain ⟨q, q1, q2⟩ := (wk_head e p).mp hz.1
      have hq : T q = some e := (h.1 q e).mpr ⟨q2, fun e' he z2 => hz.2 (e' + 1) (by omega) ((wk_head e' p).mpr ⟨q, q1, z2⟩)⟩
      have hq9 : q < 9331 := by
        obtain ⟨_, c, hc, e1⟩ := q1
        rw [← e1]
        exact rank_lt (EDG_DL hk (dR_v hp9).1 hc).1
      exact TST.below hk h e q d hq hq9 (by omega)
theorem r_mt2 {M : Mem} {K : Nat → Int32} {y g : Nat} (hk : KTH K) (hM : LayM M) (hN : ∀ p, p < 9331 → NXP M K y p) {T : Nat → Option Nat} (hT : TST K y g T) {dd : Nat} (hdd : dd < 9331) (hD : FARR M (trc T dd)) : TT (loopO (mt2 47 (nI dd)) (M, 0, 0)) (fun z => ∃ M1 mv, z = (M1, mv) ∧ Fr S65 M M1 ∧ FARR M1 (trc T (dd + 1)) ∧ ((mv = 1 ∧ ∃ q, q < 9331 ∧ T q = some (dd + 1)) ∨ (mv = 0 ∧ ∀ q, q < 9331 → T q ≠ some (dd + 1)))) := by
  refine TT_for 9331 (fun k s => ∃ M' mv, s = (M', mv, nI k) ∧ Fr S65 M M' ∧ FARR M' (fun q => if q < k then trc T (dd + 1) q else trc T dd q) ∧ ((mv = 1 ∧ ∃ q, q < k ∧ T q = some (dd + 1)) ∨ (mv = 0 ∧ ∀ q, q < k → T q ≠ some (dd + 1)))) ?_ (Nat.zero_le _) ⟨M, 0, rfl, Fr.rf, (fun q hq => by simp only [if_neg (Nat.not_lt_zero q)]; exact hD q hq), Or.inr ⟨rfl, fun q hq => by omega⟩⟩
  rintro k s hk9 ⟨M', mv, rfl, hF, hL, hv⟩
  have hM' := hM.fr hF
  obtain ⟨l0, l1, l2, l3, -⟩ := lyF hM'
  unfold mt2
  simp only
  by_cases w : k = 9331
  · rw [if_pos ((le9331 hk9).mpr w), TT_some]
    subst w
    refine ⟨M', mv, rfl, hF, fun q hq => ?_, hv⟩
    have := hL q hq
    simp only [if_pos hq] at this
    exact this
  · have hp : k < 9331 := by omega
    have ek : mI M' 65 k = fI (trc T dd k) := by
      have := hL k hp
      simp only [if_neg (Nat.lt_irrefl k)] at this
      exact this
    have hbd : ∀ d, trc T dd k = some d → d < 9331 := fun d q => hT.2 _ _ (trc_iff.mp q).1
    rw [if_neg (fun q => w ((le9331 hk9).mp q)), grd_y l0, l1, Option.bind_some, grd_y l2, l3, grd_y ((nvp (by omega)).mpr hp), nclampI (by omega), ek, TT_bv]
    have same : ∀ M2 mv2, Fr S65 M M2 → (∀ q, q < 9331 → q ≠ k → mI M2 65 q = mI M' 65 q) → mI M2 65 k = fI (trc T (dd + 1) k) → ((mv2 = 1 ∧ ∃ q, q < k + 1 ∧ T q = some (dd + 1)) ∨ (mv2 = 0 ∧ ∀ q, q < k + 1 → T q ≠ some (dd + 1))) → TT (some (Sum.inl (M2, mv2, nI k + 1)) : Option ((Mem × Int32 × Int32) ⊕ (Mem × Int32))) (fun r => r.elim (fun s' => k < 9331 ∧ ∃ M' mv, s' = (M', mv, nI (k + 1)) ∧ Fr S65 M M' ∧ FARR M' (fun q => if q < k + 1 then trc T (dd + 1) q else trc T dd q) ∧ ((mv = 1 ∧ ∃ q, q < k + 1 ∧ T q = some (dd + 1)) ∨ (mv = 0 ∧ ∀ q, q < k + 1 → T q ≠ some (dd + 1)))) (fun z => ∃ M1 mv, z = (M1, mv) ∧ Fr S65 M M1 ∧ FARR M1 (trc T (dd + 1)) ∧ ((mv = 1 ∧ ∃ q, q < 9331 ∧ T q = some (dd + 1)) ∨ (mv = 0 ∧ ∀ q, q < 9331 → T q ≠ some (dd + 1))))) := fun M2 mv2 q1 q2 q3 q4 => by
      rw [TT_some]
      refine ⟨hp, M2, mv2, by rw [nsucc], q1, fun q hq => ?_, q4⟩
      by_cases z : q = k
      · subst z
        simp only [if_pos (Nat.lt_succ_self q)]
        exact q3
      · rw [q2 q hq z, hL q hq]
        by_cases z2 : q < k
        · simp only [if_pos z2, if_pos (show q < k + 1 by omega)]
        · simp only [if_neg z2, if_neg (show ¬ q < k + 1 by omega)]
    by_cases w2 : trc T dd k = none
    · rw [if_pos ((fI_far hbd).mpr w2), TT_bind]
      have hbD : ∀ q d, (if q < k then trc T (dd + 1) q else trc T dd q) = some d → d < 9331 := fun q d z => by
        split at z
        · exact hT.2 _ _ (trc_iff.mp z).1
        · exact hT.2 _ _ (trc_iff.mp z).1
      have hdq : ∀ q, (if q < k then trc T (dd + 1) q else trc T dd q) = some dd ↔ T q = some dd := fun q => by
        split
        · rw [trc_iff]
          exact ⟨fun z => z.1, fun z => ⟨z, by omega⟩⟩
        · rw [trc_iff]
          exact ⟨fun z => z.1, fun z => ⟨z, by omega⟩⟩
      have hNk := (hN k hp).fr hF (by unfold S65; omega) (fun i _ => by unfold S65; omega) (EDG_len (dR_v hp).1)
      refine (r_mt3 hk hM' hL hbD hp hNk hdd).mono ?_
      rintro x (⟨rfl, q, q1, q2⟩ | ⟨rfl, q2⟩)
      · have hTk : T k = some (dd + 1) := (hT.nx w2).mp ⟨q, q1, (hdq q).mp q2⟩
        rw [if_neg (by decide), Option.bind_some, grd_y l2, l3, grd_y ((nvp (by omega)).mpr hp), TT_bv, nsucc dd]
        refine same _ 1 (hF.wI rfl) (fun q hq hne => by rw [mI_wI, if_neg (fun z => hne z.2)]) ?_ (Or.inl ⟨rfl, k, by omega, hTk⟩)
        rw [mI_wIs, trc_iff.mpr ⟨hTk, Nat.le_refl _⟩]
        rfl
      · have hTk : T k ≠ some (dd + 1) := fun z => by
          obtain ⟨q, u1, u2⟩ := (hT.nx w2).mpr z
          exact q2 q u1 ((hdq q).mpr u2)
        rw [if_pos rfl]
        refine same M' mv hF (fun _ _ _ => rfl) ?_ ?_
        · rw [ek, w2]
          have : trc T (dd + 1) k = none := by
            rw [trc_none] at w2 ⊢
            intro e he
            have := w2 e he
            rcases Nat.eq_or_lt_of_le (show dd + 1 ≤ e by omega) with z | z
            · exact absurd (by rw [he, z]) hTk
            · exact z
          rw [this]
        · rcases hv with ⟨a1, q, a2, a3⟩ | ⟨a1, a2⟩
          · exact Or.inl ⟨a1, q, by omega, a3⟩
          · refine Or.inr ⟨a1, fun q hq => ?_⟩
            by_cases z : q = k
            · rw [z]; exact hTk
            · exact a2 q (by omega)
    · rw [if_neg (fun q => w2 ((fI_far hbd).mp q))]
      obtain ⟨e, he⟩ : ∃ e, trc T dd k = some e := by
        cases h : trc T dd k with
        | none => exact absurd h w2
        | some e => exact ⟨e, rfl⟩
      obtain ⟨he1, he2⟩ := trc_iff.mp he
      refine same M' mv hF (fun _ _ _ => rfl) ?_ ?_
      · rw [ek, he, trc_iff.mpr ⟨he1, by omega⟩]
      · rcases hv with ⟨a1, q, a2, a3⟩ | ⟨a1, a2⟩
        · exact Or.inl ⟨a1, q, by omega, a3⟩
        · refine Or.inr ⟨a1, fun q hq => ?_⟩
          by_cases z : q = k
          · rw [z, he1]
            intro u
            have := Option.some.inj u
            omega
          · exact a2 q (by omega)
theorem r_measuresTo {M : Mem} {K : Nat → Int32} {y g : Nat} (hk : KTH K) (hM : LayM M) (hN : ∀ p, p < 9331 → NXP M K y p) (hg : g < 9331) {T : Nat → Option Nat} (hT : TST K y g T) : TT (f_X12_measuresTo M 47 (nI g)) (fun M1 => Fr S65 M M1 ∧ FARR M1 T) := by
  rw [measuresTo_eq, TT_bind]
  refine (r_mt0 hM hg).mono ?_
  rintro M1 ⟨f1, v1⟩
  have h0 : ∀ p, trc T 0 p = if p = g then some 0 else none := fun p => by
    by_cases w : p = g
    · rw [if_pos w, trc_iff]
      exact ⟨(hT.1 p 0).mpr ⟨w.symm, fun e he => by omega⟩, Nat.le_refl _⟩
    · rw [if_neg w, trc_none]
      intro e he
      refine Nat.pos_of_ne_zero (fun z => ?_)
      subst z
      exact w (((hT.1 p 0).mp he).1).symm
  have v1' : FARR M1 (trc T 0) := fun p hp => by rw [h0 p]; exact v1 p hp
  rw [TT_bind]
  refine (TT_for 9332 (fun k s => ∃ M' mv, s = (M', mv, nI k) ∧ Fr S65 M M' ∧ ((mv = 1 ∧ k < 9331 ∧ FARR M' (trc T k)) ∨ (mv = 0 ∧ FARR M' T))) (Q := fun M1 => Fr S65 M M1 ∧ FARR M1 T) ?_ (Nat.zero_le _) ⟨M1, 1, rfl, f1, Or.inl ⟨rfl, by omega, v1'⟩⟩).mono (fun x hx => TT_some.mpr hx)
  rintro k s hk2 ⟨M', mv, rfl, hF, hv⟩
  unfold mt1
  simp only
  rcases hv with ⟨rfl, q1, q2⟩ | ⟨rfl, q2⟩
  · rw [if_neg (by decide), TT_bind]
    refine (r_mt2 hk (hM.fr hF) (fun p hp => (hN p hp).fr hF (by unfold S65; omega) (fun i _ => by unfold S65; omega) (EDG_len (dR_v hp).1)) hT q1 q2).mono ?_
    rintro z ⟨M2, mv, rfl, f2, v2, hm⟩
    rw [TT_bv, TT_some]
    refine ⟨by omega, M2, mv, by rw [nsucc], hF.tr f2, ?_⟩
    rcases hm with ⟨rfl, q, u1, u2⟩ | ⟨rfl, u⟩
    · exact Or.inl ⟨rfl, hT.2 q _ u2, v2⟩
    · refine Or.inr ⟨rfl, fun p hp => ?_⟩
      rw [v2 p hp]
      have : trc T (k + 1) p = T p := by
        cases hTp : T p with
        | none =>
          rw [trc_none]
          intro e he
          rw [hTp] at he
          cases he
        | some e =>
          rw [trc_iff]
          refine ⟨hTp, Classical.byContradiction (fun z => ?_)⟩
          obtain ⟨q, w1, w2⟩ := hT.below hk e p (k + 1) hTp hp (by omega)
          exact u q w1 w2
      rw [this]
  · rw [if_pos rfl, TT_some]
    exact ⟨hF, q2⟩
