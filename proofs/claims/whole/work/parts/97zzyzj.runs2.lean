theorem fr_sob {n0 : Nat} {M M' : Mem} (h : Fr Srv M M') {A : HSE} {y g d : Nat} {w : Int32} (h12 : A.length < 12) (hn : n0 ≤ A.length) : Fr (Sob n0) M (wI (wI (ADDM M' A.length (nI g) (nI y) w) 47 48 w) 47 47 (nI d)) := by
  have h0 : Fr (Sob n0) M M' := h.up (fun a k q => Or.inl q)
  unfold ADDM
  exact (((((h0.wI (show (Sob n0) 49 (18 + 3 * A.length) by unfold Sob; omega)).wI (show (Sob n0) 49 (18 + 3 * A.length + 1) by unfold Sob; omega)).wI (show (Sob n0) 49 (18 + 3 * A.length + 2) by unfold Sob; omega)).wI (show (Sob n0) 49 56 by unfold Sob; omega)).wI (show (Sob n0) 47 48 by unfold Sob; omega)).wI (show (Sob n0) 47 47 by unfold Sob; omega)
theorem r_ordB {n0 : Nat} {K0 : Nat → Int32} {T : Nat → Nat} {len k k2 i times : Nat} {o : OSM} {M : Mem} {s : OST} (hk0 : KTH K0) (hl0 : KLW K0) (hT : ∀ j, len ≤ j → T j = 256) (h : ROS n0 K0 T len M s) (h49 : mI M 47 49 = nI (2400 + k)) (hr : ROC T len k k2 o) (hi : i < times) (hti : times ≤ 20) : TT (ordB 47 (nI (2400 + len)) (nI times) (M, nI i)) (ordQ n0 K0 T len M i (or1s K0 o s)) := by
  obtain ⟨A, y, dn, la⟩ := s
  obtain ⟨h1, h2, h3, h4, h5, h6, h7⟩ := id h
  simp only at h4 h5 h6 h7
  have hA : ∀ (h : Nat) (e : Option Nat × Nat × List Nat), A[h]? = some e → DL e.2.2 := fun h e q => (h4.2.2.2.2 h e q).2.2.1
  unfold ordB
  simp only
  rw [if_neg (by rw [nleI (by omega) (by omega)]; omega), TT_bind]
  refine (show TT (f_X12_goesAlong M 47 (nI (2400 + len)) (b1 true)) _ from (r_goes h1.2.1 hT h2 h4 h5 h6 h49 hr true).mono ?_)
  rintro M1 ⟨f1, -, -, g51, g52, ⟨t, g54, gt⟩, ⟨s', g53, gs⟩, gj⟩
  have gt := gt rfl
  have gs := gs rfl
  obtain ⟨gj0, gj1, gj1', gj2⟩ := gj rfl
  have S1 : ROS n0 K0 T len M1 (A, y, dn, la) := h.fr f1 (fun a k w => Or.inr (Or.inl w))
  have fo1 : Fr (Sob n0) M M1 := f1.up (fun a k w => Or.inr (Or.inl w))
  have e49 : mI M1 47 49 = mI M 47 49 := f1.i (by unfold Sgg; omega)
  have eK : mI M1 49 = mI M 49 := funext (fun j => f1.i (by unfold Sgg; omega))
  rw [TT_bv, g54, g53]
  unfold or1s or1
  simp only
  generalize wdR A y dn la = W at *
  have yes : ∀ M2 : Mem, Fr (Sob n0) M M2 → mI M2 47 49 = mI M 47 49 → ∀ s2, ROS n0 K0 T len M2 s2 → TT (bv (nI i + 1) (fun x36 => (some (.inl (M2, x36)) : Option ((Mem × Int32) ⊕ (Mem ⊕ (Mem ⊕ (Mem × Int32))))))) (ordQ n0 K0 T len M i (.inr s2)) := fun M2 f2 e2 s2 hs2 => by
    rw [TT_bv, TT_some, nsucc]
    exact ⟨M2, rfl, f2, e2, hs2⟩
  have no : ∀ (M2 : Mem) (r e : Nat), Fr (Sob n0) M M2 → (r = 1 ∨ r = 2 ∨ r = 3 ∨ r = 5) → e = (if r = 5 then 5 else 3) → TT (some (.inr (.inr (.inr (M2, -(nI r)))) : (Mem × Int32) ⊕ (Mem ⊕ (Mem ⊕ (Mem × Int32))))) (ordQ n0 K0 T len M i (.inl e)) := fun M2 r e f2 hr' he => by
    rw [TT_some]
    refine ⟨M2, f2, f2.i (by unfold Sob Srv Sgg; omega), ?_, Or.inr ⟨r, hr', rfl, he⟩⟩
    rw [he]
    split
    · exact Or.inl rfl
    · exact Or.inr rfl
  by_cases q : o.2.2.1 W = some true
  · rw [if_pos q, show t = true from gt.mpr q, if_neg (by decide)]
    cases hv : o.2.2.2.1 W with
    | none =>
      rw [hv] at gs
      have gs : s' = false := by rw [gs]; rfl
      rw [gs, if_pos (by decide), TT_some]
      exact ⟨M1, fo1, f1.i (by unfold Sgg; omega), Or.inr rfl, Or.inl ⟨rfl, rfl⟩⟩
    | some v =>
      have vs : S32 v := hr.2.2.2.2.1 W v hv
      simp only
      have j0 := gj0 v hv
      by_cases o5 : o.1 = 5
      · rw [hv, if_neg (show ¬ o.1 = 1 by omega), if_pos o5] at gs
        have gs : s' = true := by rw [gs]; rfl
        rw [if_pos o5, gs, if_neg (by decide), TT_bind, r_obeysT S1.1.2.1 (fun w => g51.mp w o5) vs j0, TT_some]
        by_cases z : 0 ≤ v ∧ v ≤ 999
        · rw [if_pos z, if_pos z]
          simp only
          rw [if_pos (by decide), TT_bv, mI_wI_row (by decide), show mI M1 47 47 = nI dn from S1.2.2.2.2.1, nsucc dn]
          have f2 : Fr (Sob n0) M (wI (wI M1 49 54 (nI v.toNat)) 47 47 (nI (dn + 1))) := (fo1.wI (by unfold Sob; have := h4.1; omega)).wI (by unfold Sob; omega)
          refine yes _ f2 ?_ (A, v.toNat, dn + 1, la) (h.mv f2 ?_ mI_wIs ?_ h7)
          · rw [mI_wI_ne (by decide), mI_wI_row (by decide)]
            exact e49
          · obtain ⟨k1, k2', k3, k4, k5⟩ := h4
            have e : ∀ j, j ≠ 54 → mI (wI (wI M1 49 54 (nI v.toNat)) 47 47 (nI (dn + 1))) 49 j = mI M 49 j := fun j hj => by rw [mI_wI_row (by decide), mI_wI_ne hj, eK]
            refine ⟨k1, by rw [e 56 (by decide)]; exact k2', by rw [mI_wI_row (by decide), mI_wIs], by show v.toNat ≤ 999; omega, fun g x hx => ?_⟩
            have hg : g < A.length := (List.getElem?_eq_some_iff.mp hx).1
            rw [e _ (by omega), e _ (by omega), e _ (by omega)]
            exact k5 g x hx
          · rw [mI_wI_ne (by decide), mI_wI_row (by decide)]
            exact S1.2.2.2.2.2.1
        · rw [if_neg z, if_neg z]
          simp only
          rw [if_neg (by decide)]
          exact no M1 1 3 fo1 (by omega) rfl
      · rw [if_neg o5]
        have o4 : o.1 ≤ 4 ∧ VB o.2.2.2.2.2 ∧ (o.1 = 1 → VB o.2.2.2.2.1) := by
          rcases hr.2.2.2.2.2 with ⟨z, -⟩ | ⟨z, -, k1, k3, -, -, -, z2, -⟩
          · exact absurd z o5
          · obtain ⟨-, -, -, z3 | z3⟩ := z2
            · obtain ⟨z4, z5, j, -, -, -, z6, -⟩ := z3
              exact ⟨z, z6, fun _ => z5⟩
            · exact ⟨z, z3.2.2.1, fun w => absurd w z3.1⟩
        obtain ⟨o4, vp, vt⟩ := o4
        have oth : ∃ ot : Option Int, (if o.1 = 1 then o.2.2.2.2.1 W else some 0) = ot ∧ (if o.1 = 1 then (o.2.2.2.2.1 W).isSome else true) = ot.isSome ∧ ∀ th, ot = some th → S32 th ∧ mJ M1 76 1 = jj th := by
          by_cases w : o.1 = 1
          · rw [if_pos w, if_pos w]
            exact ⟨_, rfl, rfl, fun th e => ⟨vt w W th e, gj1 w th e⟩⟩
          · rw [if_neg w, if_neg w]
            exact ⟨_, rfl, rfl, fun th e => by cases e; exact ⟨by unfold S32; omega, gj1' w⟩⟩
        obtain ⟨ot, t1, t2, t3⟩ := oth
        rw [hv, t2, if_neg o5] at gs
        rw [t1]
        cases ot with
        | none =>
          have gs : s' = false := by rw [gs]; rfl
          rw [gs, if_pos (by decide), TT_some]
          exact ⟨M1, fo1, f1.i (by unfold Sgg; omega), Or.inr rfl, Or.inl ⟨rfl, rfl⟩⟩
        | some th =>
          obtain ⟨ts, j1⟩ := t3 th rfl
          cases hp : o.2.2.2.2.2 W with
          | none =>
            rw [hp] at gs
            have gs : s' = false := by rw [gs]; rfl
            rw [gs, if_pos (by decide), TT_some]
            exact ⟨M1, fo1, f1.i (by unfold Sgg; omega), Or.inr rfl, Or.inl ⟨rfl, rfl⟩⟩
          | some pl =>
            rw [hp] at gs
            have gs : s' = true := by rw [gs]; rfl
            have ps : S32 pl := vp W pl hp
            have j2 := gj2 o5 pl hp
            simp only
            rw [gs, if_neg (by decide), TT_bind]
            refine (r_obeysB S1.1 S1.2.2.2.1 (g51.mpr o5) (g52 o5) vs ts ps j0 j1 j2).mono ?_
            rintro ⟨M2, x⟩ hq
            rw [gbO_ag hk0 hl0 S1.2.2.1 h4.1 hA] at hq
            cases ho : gbO K0 A y (ii v) (nI o.1) (ii pl) (ii th) with
            | inl r =>
              rw [ho] at hq
              obtain ⟨q1, q2⟩ := hq
              simp only at q1 q2 ⊢
              have hr := gbO_inl ho
              rw [q1, if_neg (by rcases hr with z | z | z | z <;> subst z <;> decide)]
              exact no M2 r _ (fo1.tr (q2.up (fun a k w => Or.inl w))) hr rfl
            | inr l =>
              rw [ho] at hq
              obtain ⟨q1, M3, q2, q3⟩ := hq
              simp only at q1 q2 q3 ⊢
              obtain ⟨⟨g, hg, eg⟩, h12, hl⟩ := gbO_inr hk0 h4.1 hA ho
              rw [q1, if_pos (by rw [show (0 : Int32) = nI 0 from rfl, nleI (by omega) (by omega)]; omega), TT_bv]
              rw [eg] at q3
              have f3 : Fr (Sob n0) M1 (wI M2 47 47 (nI (dn + 1))) := by rw [q3]; exact fr_sob q2 h12 h7
              have e47 : mI M2 47 47 = nI dn := by
                rw [q3, mI_wI_ne (by decide)]
                unfold ADDM
                rw [mI_wI_row (by decide), mI_wI_row (by decide), mI_wI_row (by decide), mI_wI_row (by decide), q2.i (by unfold Srv; omega)]
                exact S1.2.2.2.2.1
              rw [e47, nsucc dn]
              have e49' : mI (wI M2 47 47 (nI (dn + 1))) 47 49 = mI M 47 49 := by
                rw [mI_wI_ne (by decide), q3, mI_wI_ne (by decide)]
                unfold ADDM
                rw [mI_wI_row (by decide), mI_wI_row (by decide), mI_wI_row (by decide), mI_wI_row (by decide), q2.i (by unfold Srv; omega)]
                exact e49
              have eg2 : (ii v).toNatClampNeg = g := by rw [eg, nclampI (by omega)]
              rw [eg2]
              refine yes _ (fo1.tr f3) e49' (A ++ [(some g, y, l)], y, dn + 1, nI (num l)) (S1.mv f3 ?_ mI_wIs ?_ (by show n0 ≤ (A ++ [(some g, y, l)]).length; rw [List.length_append]; omega))
              · have e : mI (wI M2 47 47 (nI (dn + 1))) 49 = KADD (mI M1 49) A.length (nI g) (nI y) (nI (num l)) := by
                  rw [mI_wI_row (by decide), q3, mI_wI_row (by decide)]
                  funext j
                  rw [addm_49]
                  congr 1
                  exact funext (fun j => q2.i (by unfold Srv; omega))
                show KST (mI (wI M2 47 47 (nI (dn + 1))) 49) (A ++ [(some g, y, l)]) y
                rw [e]
                exact S1.2.2.2.1.add hg h12 hl
              · show mI (wI M2 47 47 (nI (dn + 1))) 47 48 = nI (num l)
                rw [mI_wI_ne (by decide), q3, mI_wIs]
  · have tf : t = false := by
      cases t with
      | false => rfl
      | true => exact absurd (gt.mp rfl) q
    rw [if_neg q, tf, if_pos (by decide)]
    exact yes M1 fo1 e49 (A, y, dn, la) S1
