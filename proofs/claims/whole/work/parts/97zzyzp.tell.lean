/-! ORDERS: the class tells its steward of HOUSES -/
def S19 (a _k : Nat) : Prop := a = 19
theorem c_holdsC {M : Mem} (hC : LayC M) {A : HSE} {y : Nat} (hc : CST M A y) {h t : Nat} {e : Option Nat × Nat × List Nat} (he : A[h]? = some e) (ht : t < 6) : f_X10_holds M 1 (nI h) (nI t) = some (nI (e.2.2.count t)) := by
  have hh : h < A.length := (List.getElem?_eq_some_iff.mp he).1
  obtain ⟨c1, c2, c3, c4, c5⟩ := hc
  obtain ⟨-, -, hd, -, -, -, e8⟩ := c5 h e he
  unfold f_X10_holds
  unfold LayC at hC
  simp only [hC, grd_T, Option.bind_some]
  rw [grd_y ((nvp (by omega)).mpr (by omega)), nclampI (by omega), e8, holds_n hd ht]
theorem c_fill14 {M : Mem} {r n : Nat} {v : Int32} (h : okO M 14 r) (hL : mL M r = n) (hn : n < 1000000) : TT (f_J7_fill_53178 M r v) (fun M1 => Fr (fun a _ => a = r) M M1 ∧ ∀ k, k < n → mI M1 r k = v) := by
  unfold f_J7_fill_53178
  rw [grd_y h, TT_bv, hL, TT_bind]
  refine (TT_for n (fun k s => ∃ M', s = (M', nI k) ∧ Fr (fun a _ => a = r) M M' ∧ ∀ j, j < k → mI M' r j = v) (Q := fun M1 => Fr (fun a _ => a = r) M M1 ∧ ∀ k, k < n → mI M1 r k = v) ?_ (Nat.zero_le _) ⟨M, rfl, Fr.rf, fun j hj => by omega⟩).mono (fun x hx => TT_some.mpr hx)
  rintro k s hk ⟨M', rfl, hF, hv⟩
  simp only
  by_cases w : k = n
  · rw [if_pos ((nleI (by omega) (by omega)).mpr (by omega)), TT_some]
    subst w
    exact ⟨hF, hv⟩
  · rw [if_neg (fun q => w (by have := (nleI (by omega) (by omega)).mp q; omega)), hF.2.2.2.1, hL, grd_y ((nvp (by omega)).mpr (by omega)), TT_bv, TT_bv, TT_some, nclampI (by omega)]
    refine ⟨by omega, _, by rw [nsucc], hF.wI rfl, fun j hj => ?_⟩
    rw [mI_wI]
    by_cases q : j = k
    · rw [if_pos ⟨rfl, q⟩]
    · rw [if_neg (fun z => q z.2)]
      exact hv j (by omega)
def THQ (M : Mem) (h : Nat) (l : List Nat) (M1 : Mem) : Prop := Fr S19 M M1 ∧ mI M1 19 (4 + h) = nI l.length ∧ (∀ t, t < 6 → mI M1 19 (16 + h * 6 + t) = nI (l.count t)) ∧ ∀ k, k ≠ 4 + h → ¬ (16 + h * 6 ≤ k ∧ k < 16 + h * 6 + 6) → mI M1 19 k = mI M 19 k
noncomputable def thB (a0 : Nat) (p1 : Int32) (s24 : Mem × Int32) : Option ((Mem × Int32) ⊕ Mem) := if 6 ≤ s24.2 then (some (.inr s24.1)) else (Option.bind (mR s24.1 a0 3) (fun r33 => grd (okO s24.1 3 r33) (Option.bind (mR s24.1 r33 0) (fun r35 => Option.bind (mR s24.1 a0 0) (fun r36 => grd (okO s24.1 10 r36) (Option.bind (f_X10_holds s24.1 r36 p1 s24.2) (fun q38 => grd (okO s24.1 14 r35) (grd (vp_in ((16 + (p1 * 6)) + s24.2) (mL s24.1 r35)) (bv (wI s24.1 r35 ((16 + (p1 * 6)) + s24.2).toNatClampNeg q38) (fun M43 => bv (s24.2 + 1 : Int32) (fun x47 => some (.inl (M43, x47)))))))))))))
theorem tellHouse_eq {M : Mem} {a0 : Nat} {p1 : Int32} : f_X11_tellHouse M a0 p1 = grd (okO M 11 a0) (Option.bind (mR M a0 0) (fun r2 => grd (okO M 10 r2) (Option.bind (f_X10_hasHouse M r2 p1) (fun q4 => if q4 = 0 then (some M) else (Option.bind (mR M a0 3) (fun r7 => grd (okO M 3 r7) (Option.bind (mR M r7 0) (fun r9 => Option.bind (mR M a0 0) (fun r10 => grd (okO M 10 r10) (Option.bind (mR M r10 5) (fun r12 => grd (okO M 14 r12) (grd (vp_in p1 (mL M r12)) (Option.bind (f_X6_lengthOf (mI M r12 p1.toNatClampNeg)) (fun q15 => grd (okO M 14 r9) (grd (vp_in (4 + p1) (mL M r9)) (bv (wI M r9 (4 + p1).toNatClampNeg q15) (fun M20 => Option.bind (loopO (σ := Mem × Int32) (ρ := Mem) (thB a0 p1) (M20, 0)) (fun (x31 : Mem) => some x31)))))))))))))))))) := rfl
theorem c_tellHouse {M : Mem} (hC : LayC M) (h78 : 78 ≤ mn M) {A : HSE} {y : Nat} (hc : CST M A y) {h : Nat} {e : Option Nat × Nat × List Nat} (he : A[h]? = some e) : TT (f_X11_tellHouse M 0 (nI h)) (THQ M h e.2.2) := by
  have hh : h < A.length := (List.getElem?_eq_some_iff.mp he).1
  have c1 := hc.1
  obtain ⟨-, -, hd, -, -, d6, -⟩ := hc.2.2.2.2 h e he
  have hL := hC
  unfold LayC at hL
  have hlen := p_lengthOf hd.rev
  rw [List.length_reverse] at hlen
  have hlen : f_X6_lengthOf (nI (rank e.2.2)) = some (nI e.2.2.length) := hlen
  have hhs : f_X10_hasHouse M 1 (nI h) = some 1 := by
    rw [c_hasHouse hC c1 hc.2.1, if_pos ⟨by rw [show (0 : Int32) = nI 0 from rfl, nleI (by omega) (by omega)]; omega, (nltI (by omega) (by omega)).mpr hh⟩]
  rw [tellHouse_eq]
  simp only [hL, grd_T, Option.bind_some]
  rw [hhs, Option.bind_some, if_neg (show ¬ (1 : Int32) = 0 by decide)]
  rw [grd_y ((nvp (by omega)).mpr (by omega)), nclampI (by omega), d6, hlen, Option.bind_some, show (4 : Int32) = nI 4 from rfl, nadd, grd_y ((nvp (by omega)).mpr (by omega)), nclampI (by omega), TT_bv, TT_bind]
  refine (TT_for 6 (fun t s => ∃ M', s = (M', nI t) ∧ Fr S19 M M' ∧ mI M' 19 (4 + h) = nI e.2.2.length ∧ (∀ j, j < t → mI M' 19 (16 + h * 6 + j) = nI (e.2.2.count j)) ∧ ∀ k, k ≠ 4 + h → ¬ (16 + h * 6 ≤ k ∧ k < 16 + h * 6 + 6) → mI M' 19 k = mI M 19 k) (Q := THQ M h e.2.2) ?_ (Nat.zero_le _) ⟨_, rfl, Fr.rf.wI (show S19 19 _ from rfl), mI_wIs, (fun j hj => by omega), fun k w _ => mI_wI_ne w⟩).mono (fun x hx => TT_some.mpr hx)
  rintro t s ht ⟨M', rfl, hF, g1, g2, g3⟩
  unfold thB
  simp only
  by_cases w : t = 6
  · subst w
    rw [if_pos (by decide), TT_some]
    exact ⟨hF, g1, g2, g3⟩
  · rw [if_neg (fun q => w (by have := (nleI (show 6 < 2147483648 by omega) (show t < 2147483648 by omega)).mp (show nI 6 ≤ nI t from q); omega))]
    have hL' := hC.fr hF
    have hC' := hL'
    unfold LayC at hL'
    simp only [hL', grd_T, Option.bind_some]
    rw [c_holdsC hC' (hc.fw h78 (hF.fw (R := fun _ _ => False)) (fun a k q => by unfold S19 at q; omega)) he (show t < 6 by omega), Option.bind_some, show (16 : Int32) = nI 16 from rfl, show (6 : Int32) = nI 6 from rfl, nmul, nadd, nadd, grd_y ((nvp (by omega)).mpr (by omega)), nclampI (by omega), TT_bv, TT_bv, TT_some, nsucc]
    refine ⟨by omega, _, rfl, hF.wI (show S19 19 _ from rfl), ?_, fun j hj => ?_, fun k q1 q2 => ?_⟩
    · rw [mI_wI_ne (by omega)]
      exact g1
    · by_cases q : j = t
      · subst q
        exact mI_wIs
      · rw [mI_wI_ne (by omega)]
        exact g2 j (by omega)
    · rw [mI_wI_ne (by omega)]
      exact g3 k q1 q2
/-- the steward's words, but for the first two -/
def WDS (M : Mem) (A : HSE) (dn : Nat) (la : Int32) : Prop := ∀ k, 2 ≤ k → k < 88 → ∀ y, mI M 19 k = wdR A y dn la k
theorem hse_ne {A : HSE} {e : Option Nat × Nat × List Nat} {h : Nat} (w : h ≠ A.length) : (A ++ [e])[h]? = A[h]? := by
  by_cases q : h < A.length
  · rw [List.getElem?_append_left q]
  · rw [List.getElem?_eq_none (by rw [List.length_append]; simp only [List.length_cons, List.length_nil]; omega), List.getElem?_eq_none (by omega)]
theorem hse_at {A : HSE} {e : Option Nat × Nat × List Nat} : (A ++ [e])[A.length]? = some e := by
  rw [List.getElem?_append_right (Nat.le_refl _), Nat.sub_self]
  rfl
theorem WDS.add {M M1 : Mem} {A : HSE} {dn : Nat} {la : Int32} {e : Option Nat × Nat × List Nat} (h : WDS M A dn la) (h12 : A.length < 12) (hq : THQ M A.length e.2.2 M1) : WDS M1 (A ++ [e]) dn la := by
  obtain ⟨-, q2, q3, q4⟩ := hq
  intro k k1 k2 y
  by_cases c2 : k = 2
  · rw [q4 k (by omega) (by omega), h k k1 k2 y]
    unfold wdR
    rw [if_neg (by omega), if_neg (by omega), if_pos c2, if_neg (by omega), if_neg (by omega), if_pos c2]
  by_cases c3 : k = 3
  · rw [q4 k (by omega) (by omega), h k k1 k2 y]
    unfold wdR
    rw [if_neg (by omega), if_neg (by omega), if_neg c2, if_pos c3, if_neg (by omega), if_neg (by omega), if_neg c2, if_pos c3]
  by_cases c16 : k < 16
  · by_cases w : k - 4 = A.length
    · obtain rfl : k = 4 + A.length := by omega
      rw [q2]
      unfold wdR
      rw [if_neg (by omega), if_neg (by omega), if_neg (by omega), if_neg (by omega), if_pos c16, show 4 + A.length - 4 = A.length from by omega, hse_at]
    · rw [q4 k (by omega) (by omega), h k k1 k2 y]
      unfold wdR
      rw [if_neg (by omega), if_neg (by omega), if_neg c2, if_neg c3, if_pos c16, if_neg (by omega), if_neg (by omega), if_neg c2, if_neg c3, if_pos c16, hse_ne w]
  · by_cases w : (k - 16) / 6 = A.length
    · have e1 : k = 16 + A.length * 6 + (k - 16) % 6 := by omega
      have e2 := q3 ((k - 16) % 6) (by omega)
      rw [← e1] at e2
      rw [e2]
      unfold wdR
      rw [if_neg (by omega), if_neg (by omega), if_neg (by omega), if_neg (by omega), if_neg c16, w, hse_at]
    · rw [q4 k (by omega) (by omega), h k k1 k2 y]
      unfold wdR
      rw [if_neg (by omega), if_neg (by omega), if_neg c2, if_neg c3, if_neg c16, if_neg (by omega), if_neg (by omega), if_neg c2, if_neg c3, if_neg c16, hse_ne w]
noncomputable def tsB (a0 : Nat) (s17 : Mem × Int32) : Option ((Mem × Int32) ⊕ Mem) := Option.bind (mR s17.1 a0 0) (fun r26 => grd (okO s17.1 10 r26) (if (mI s17.1 r26 8) ≤ s17.2 then (some (.inr s17.1)) else (Option.bind (f_X11_tellHouse s17.1 a0 s17.2) (fun q28 => bv (s17.2 + 1 : Int32) (fun x33 => some (.inl (q28, x33)))))))
theorem tellSteward_eq {M : Mem} {a0 : Nat} : f_X11_tellSteward M a0 = grd (okO M 11 a0) (Option.bind (mR M a0 3) (fun r2 => grd (okO M 3 r2) (Option.bind (mR M r2 0) (fun r4 => Option.bind (f_J7_fill_53178 M r4 (-1)) (fun q5 => grd (okO q5 14 r4) (grd (vp_in 2 (mL q5 r4)) (bv (wI q5 r4 (2 : Int32).toNatClampNeg 0) (fun M12 => Option.bind (loopO (σ := Mem × Int32) (ρ := Mem) (tsB a0) (M12, 0)) (fun (x24 : Mem) => some x24))))))))) := rfl
theorem c_tellSteward {M : Mem} (hC : LayC M) (h78 : 78 ≤ mn M) {A : HSE} {y : Nat} (hc : CST M A y) : TT (f_X11_tellSteward M 0) (fun M1 => Fr S19 M M1 ∧ WDS M1 A 0 (-1)) := by
  have hL := hC
  unfold LayC at hL
  have l19 : okO M 14 19 ∧ mL M 19 = 88 := by simp only [hL, and_self]
  have c1 := hc.1
  rw [tellSteward_eq]
  simp only [hL, grd_T, Option.bind_some]
  rw [TT_bind]
  refine (c_fill14 (v := -1) l19.1 l19.2 (by omega)).mono ?_
  rintro M1 ⟨f1, g1⟩
  rw [grd_y (okO_fr f1 l19.1), f1.2.2.2.1, l19.2, grd_y (show vp_in 2 88 from (show vp_in (nI 2) 88 from (nvp (by omega)).mpr (by omega))), TT_bv, show (2 : Int32).toNatClampNeg = 2 from by decide, TT_bind]
  have f2 : Fr S19 M (wI M1 19 2 0) := (f1.up (fun a k w => w)).wI (show S19 19 2 from rfl)
  have w2 : WDS (wI M1 19 2 0) (A.take 0) 0 (-1) := by
    intro k k1 k2 y
    by_cases c2 : k = 2
    · subst c2
      rw [mI_wIs]
      rfl
    · rw [mI_wI_ne c2, g1 k k2]
      unfold wdR
      rw [if_neg (by omega), if_neg (by omega), if_neg c2]
      by_cases c3 : k = 3
      · rw [if_pos c3]
      · rw [if_neg c3]
        by_cases c16 : k < 16
        · rw [if_pos c16, List.take_zero, List.getElem?_nil]
        · rw [if_neg c16, List.take_zero, List.getElem?_nil]
  generalize wI M1 19 2 0 = M2 at f2 w2
  refine (TT_for A.length (fun i s => ∃ M', s = (M', nI i) ∧ Fr S19 M M' ∧ WDS M' (A.take i) 0 (-1)) (Q := fun M1 => Fr S19 M M1 ∧ WDS M1 A 0 (-1)) ?_ (Nat.zero_le _) ⟨M2, rfl, f2, w2⟩).mono (fun x hx => TT_some.mpr hx)
  rintro i s hi ⟨M', rfl, hF, g⟩
  have hL' := hC.fr hF
  have hC' := hL'
  unfold LayC at hL'
  have hc' : CST M' A y := hc.fw h78 (hF.fw (R := fun _ _ => False)) (fun a k q => by unfold S19 at q; omega)
  unfold tsB
  simp only [hL', grd_T, Option.bind_some]
  rw [hc'.2.1]
  by_cases w : i = A.length
  · rw [if_pos ((nleI (by omega) (by omega)).mpr (by omega)), TT_some]
    rw [w, List.take_length] at g
    exact ⟨hF, g⟩
  · have hil : i < A.length := by omega
    rw [if_neg (fun q => w (by have := (nleI (by omega) (by omega)).mp q; omega)), TT_bind]
    refine (c_tellHouse hC' (by rw [hF.1]; exact h78) hc' (List.getElem?_eq_getElem hil)).mono ?_
    intro M3 h3
    rw [TT_bv, TT_some, nsucc]
    refine ⟨hil, M3, rfl, hF.tr h3.1, ?_⟩
    have el : (A.take i).length = i := by rw [List.length_take]; omega
    rw [List.take_succ_eq_append_getElem hil]
    refine g.add (by omega) ?_
    rw [el]
    exact h3
