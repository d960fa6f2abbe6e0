/-! ORDERS: the class runs one CLAUSE once, wholly -/
noncomputable def orW (K : Nat → Int32) (k : Nat) (vo to po : Option Int) (A : HSE) (y dn : Nat) (la : Int32) : Nat ⊕ OST := match vo with
  | none => .inl 3
  | some v => match to with
    | none => .inl 3
    | some th => match po with
      | none => .inl 3
      | some pl => orV K k v th pl A y dn la
def SO32 (o : Option Int) : Prop := ∀ v, o = some v → S32 v
theorem c_roKO {n0 B : Nat} {K0 : Nat → Int32} {cls : List CL} {code : List Nat} {M : Mem} {A : HSE} {y dn : Nat} {la : Int32} (hB : B < 16777000) (h : COS n0 B K0 cls code M A y) (hw : WDS M A dn la) {k : Nat} (hk : k ≤ 5) {vo to po : Option Int} (hv : SO32 vo) (ht : SO32 to) (hp : SO32 po) : TT (roK 0 19 (nI k) (jO vo) (jO to) (jO po) M) (roQ n0 B K0 cls code M (orW K0 k vo to po A y dn la)) := by
  have no : roQ n0 B K0 cls code M (.inl 3) (M, -3) := ⟨CFW.rf.up (by omega), by show (-3 : Int32) = _; decide, Or.inr rfl, A, y, h.mono (by omega)⟩
  cases vo with
  | none =>
    unfold roK
    rw [if_pos (by decide), TT_some]
    exact no
  | some v =>
    cases to with
    | none =>
      unfold roK
      rw [if_neg (show ¬ lg_cmp (jO (some v)) (-4611686018427387904) = 0 from jb_ne (hv v rfl)), if_pos (by decide), TT_some]
      exact no
    | some th =>
      cases po with
      | none =>
        unfold roK
        rw [if_neg (show ¬ lg_cmp (jO (some v)) (-4611686018427387904) = 0 from jb_ne (hv v rfl)), if_neg (show ¬ lg_cmp (jO (some th)) (-4611686018427387904) = 0 from jb_ne (ht th rfl)), if_pos (by decide), TT_some]
        exact no
      | some pl => exact c_roK hB h hw hk (hv v rfl) (ht th rfl) (hp pl rfl)
theorem ro_lay {M : Mem} (hC : LayC M) : mR M 0 3 = some 18 ∧ mR M 15 1 = some 17 ∧ okO M 3 18 := by
  unfold LayC at hC
  simp only [hC, and_self]
theorem ssk20 : ∀ a k, Ssk 20 a k → a = 19 ∨ a = 20 := fun a k w => Or.inr w
theorem c_roP {n0 B : Nat} {K0 : Nat → Int32} {cls : List CL} {code : List Nat} {M : Mem} {A : HSE} {y dn i : Nat} {la : Int32} {cl : CL} {o : OSM} (hB : B < 16777000) (h : COS n0 B K0 cls code M A y) (hw : WDS M A dn la) {W : Nat → Int32} (hW : ∀ k, k < 88 → mI M 19 k = W k) (hc : cls[i]? = some cl) (hO : ∀ C L, CodeAt C L 0 code → OMC C L cl o) (ho : o.1 ≤ 5) {vo to : Option Int} (hv : SO32 vo) (ht : SO32 to) : TT (roP 0 15 19 (nI i) (nI o.1) (jO vo) (M, jO to)) (roQ n0 B K0 cls code M (orW K0 o.1 vo to (if o.1 = 5 then some 0 else o.2.2.2.2.2 W) A y dn la)) := by
  unfold roP
  by_cases o5 : o.1 = 5
  · rw [if_pos (show nI o.1 = 5 by rw [o5]; rfl), if_pos o5]
    exact c_roKO (po := some 0) hB h hw ho hv ht (fun v e => by cases e; exact S32_0)
  · rw [if_neg (fun (q : nI o.1 = 5) => o5 ((neqI (by omega) (by omega)).mp (show nI o.1 = nI 5 from q))), if_neg o5]
    obtain ⟨l1, l2, l3⟩ := ro_lay h.1.1
    obtain ⟨u, u1, u2, u3, u4⟩ := cdv_all (fun C L hC => (hO C L hC).2.2.2.2.2.2 o5)
    simp only
    rw [l1, Option.bind_some, l2, Option.bind_some, show f_X9_told M 15 (nI i) 5 = some (oI cl.2.2.2.2.2) from c_told15 h.1.1 h.2.2.2.2.1 (f := 5) hc (by omega), Option.bind_some, grd_y l3, u1, show oI (some u) = nI u from rfl, TT_bind]
    refine (c_run18 h.1 h.2.2.2.2.1 hW u2 (fun C L hC => u4 C L W hC)).mono ?_
    rintro ⟨M1, z⟩ ⟨f1, q1⟩
    simp only at f1 q1 ⊢
    rw [q1]
    exact (c_roKO hB (h.fr f1 ssk20) (hw.fr f1 (fun k w => by unfold Ssk at w; omega)) ho hv ht (fun v e => u3 W v e)).mono (fun q hq => hq.of f1 ssk20)
theorem c_roT {n0 B : Nat} {K0 : Nat → Int32} {cls : List CL} {code : List Nat} {M : Mem} {A : HSE} {y dn i : Nat} {la : Int32} {cl : CL} {o : OSM} (hB : B < 16777000) (h : COS n0 B K0 cls code M A y) (hw : WDS M A dn la) {W : Nat → Int32} (hW : ∀ k, k < 88 → mI M 19 k = W k) (hc : cls[i]? = some cl) (hO : ∀ C L, CodeAt C L 0 code → OMC C L cl o) (ho : o.1 ≤ 5) {vo : Option Int} (hv : SO32 vo) : TT (roT 0 15 19 (nI i) (nI o.1) (M, jO vo)) (roQ n0 B K0 cls code M (orW K0 o.1 vo (if o.1 = 1 then o.2.2.2.2.1 W else some 0) (if o.1 = 5 then some 0 else o.2.2.2.2.2 W) A y dn la)) := by
  unfold roT
  by_cases o1 : o.1 = 1
  · rw [if_pos (show nI o.1 = 1 by rw [o1]; rfl), if_pos o1]
    obtain ⟨l1, l2, l3⟩ := ro_lay h.1.1
    obtain ⟨u, u1, u2, u3, u4⟩ := cdv_all (fun C L hC => (hO C L hC).2.2.2.2.2.1 o1)
    simp only
    rw [l1, Option.bind_some, l2, Option.bind_some, show f_X9_told M 15 (nI i) 4 = some (oI cl.2.2.2.2.1) from c_told15 h.1.1 h.2.2.2.2.1 (f := 4) hc (by omega), Option.bind_some, grd_y l3, u1, show oI (some u) = nI u from rfl, TT_bind]
    refine (c_run18 h.1 h.2.2.2.2.1 hW u2 (fun C L hC => u4 C L W hC)).mono ?_
    rintro ⟨M1, z⟩ ⟨f1, q1⟩
    simp only at f1 q1 ⊢
    rw [q1]
    exact (c_roP hB (h.fr f1 ssk20) (hw.fr f1 (fun k w => by unfold Ssk at w; omega)) (fun k hk => by rw [f1.i (by unfold Ssk; omega)]; exact hW k hk) hc hO ho hv (fun v e => u3 W v e)).mono (fun q hq => hq.of f1 ssk20)
  · rw [if_neg (fun (q : nI o.1 = 1) => o1 ((neqI (by omega) (by omega)).mp (show nI o.1 = nI 1 from q))), if_neg o1]
    exact c_roP (to := some 0) hB h hw hW hc hO ho hv (fun v e => by cases e; exact S32_0)
theorem or1_W {K : Nat → Int32} {o : OSM} {A : HSE} {y dn : Nat} {la : Int32} (hq : o.2.2.1 (wdR A y dn la) = some true) : or1 K o A y dn la = orW K o.1 (o.2.2.2.1 (wdR A y dn la)) (if o.1 = 1 then o.2.2.2.2.1 (wdR A y dn la) else some 0) (if o.1 = 5 then some 0 else o.2.2.2.2.2 (wdR A y dn la)) A y dn la := by
  unfold or1
  rw [if_pos hq]
  generalize wdR A y dn la = W
  cases h1 : o.2.2.2.1 W with
  | none => rfl
  | some v =>
    by_cases o5 : o.1 = 5
    · rw [if_pos o5, if_neg (show ¬ o.1 = 1 by omega)]
      unfold orW orV
      simp only
      rw [if_pos o5, if_pos o5]
    · rw [if_neg o5]
      simp only
      rw [if_neg o5]
      generalize (if o.1 = 1 then o.2.2.2.2.1 W else some 0) = to
      cases to with
      | none => rfl
      | some th =>
        cases h3 : o.2.2.2.2.2 W with
        | none => rfl
        | some pl =>
          unfold orW orV
          simp only
          rw [if_neg o5]
          cases gbO K A y (ii v) (nI o.1) (ii pl) (ii th) with
          | inl e => rfl
          | inr l => rfl
theorem c_roJ {n0 B : Nat} {K0 : Nat → Int32} {cls : List CL} {code : List Nat} {M : Mem} {A : HSE} {y dn i : Nat} {la : Int32} {cl : CL} {o : OSM} (hB : B < 16777000) (h : COS n0 B K0 cls code M A y) (hw : WDS M A dn la) (hW : ∀ k, k < 88 → mI M 19 k = wdR A y dn la k) (hc : cls[i]? = some cl) (hO : ∀ C L, CodeAt C L 0 code → OMC C L cl o) (hk : cl.1 = o.1) (ho : o.1 ≤ 5) (hq : o.2.2.1 (wdR A y dn la) = some true) : TT (roJ 0 15 19 (nI i) M) (roQ n0 B K0 cls code M (or1 K0 o A y dn la)) := by
  rw [or1_W hq]
  generalize wdR A y dn la = W at hW
  obtain ⟨l1, l2, l3⟩ := ro_lay h.1.1
  obtain ⟨u, u1, u2, u3, u4⟩ := cdv_all (fun C L hC => (hO C L hC).2.2.2.2.1)
  unfold roJ
  rw [show f_X9_told M 15 (nI i) 0 = some (nI cl.1) from c_told15 h.1.1 h.2.2.2.2.1 (f := 0) hc (by omega), Option.bind_some, l1, Option.bind_some, l2, Option.bind_some, show f_X9_told M 15 (nI i) 3 = some (oI cl.2.2.2.1) from c_told15 h.1.1 h.2.2.2.2.1 (f := 3) hc (by omega), Option.bind_some, grd_y l3, u1, show oI (some u) = nI u from rfl, hk, TT_bind]
  refine (c_run18 h.1 h.2.2.2.2.1 hW u2 (fun C L hC => u4 C L W hC)).mono ?_
  rintro ⟨M1, z⟩ ⟨f1, q1⟩
  simp only at f1 q1 ⊢
  rw [q1]
  exact (c_roT hB (h.fr f1 ssk20) (hw.fr f1 (fun k w => by unfold Ssk at w; omega)) (fun k hk => by rw [f1.i (by unfold Ssk; omega)]; exact hW k hk) hc hO ho (fun v e => u3 W v e)).mono (fun q hq => hq.of f1 ssk20)
theorem c_runOnce {n0 B : Nat} {K0 : Nat → Int32} {cls : List CL} {code : List Nat} {M : Mem} {A : HSE} {y dn i : Nat} {la : Int32} {cl : CL} {o : OSM} (hB : B < 16777000) (h : COS n0 B K0 cls code M A y) (hw : WDS M A dn la) (hc : cls[i]? = some cl) (hO : ∀ C L, CodeAt C L 0 code → OMC C L cl o) (hk : cl.1 = o.1) (ho : o.1 ≤ 5) : TT (f_X11_runOnce M 0 15 (nI i)) (roQ n0 B K0 cls code M (or1 K0 o A y dn la)) := by
  have hC := h.1.1
  have hcs := h.2.2.2.1
  have l : okO M 11 0 ∧ mR M 0 3 = some 18 ∧ okO M 3 18 ∧ mR M 18 0 = some 19 ∧ mR M 0 0 = some 1 ∧ okO M 10 1 ∧ okO M 14 19 ∧ mL M 19 = 88 := by
    unfold LayC at hC
    simp only [hC, and_self]
  obtain ⟨l1, l2, l3, l4, l5, l6, l7, l8⟩ := l
  rw [runOnce_eq, grd_y l1, l2, Option.bind_some, grd_y l3, l4, Option.bind_some, l5, Option.bind_some, grd_y l6, grd_y l7, l8, grd_y (show vp_in 0 88 from (show vp_in (nI 0) 88 from (nvp (by omega)).mpr (by omega))), TT_bv, mR_wI, l5, Option.bind_some, ok_wI, grd_y l6, mL_wI, l8, grd_y (show vp_in 1 88 from (show vp_in (nI 1) 88 from (nvp (by omega)).mpr (by omega))), TT_bv, show (0 : Int32).toNatClampNeg = 0 from by decide, show (1 : Int32).toNatClampNeg = 1 from by decide, mI_wI_row (by decide), hcs.2.1, hcs.2.2.1]
  have f1 : Fr S19 M (wI (wI M 19 0 (nI y)) 19 1 (nI A.length)) := (Fr.rf.wI (show S19 19 0 from rfl)).wI (show S19 19 1 from rfl)
  have hW : ∀ k, k < 88 → mI (wI (wI M 19 0 (nI y)) 19 1 (nI A.length)) 19 k = wdR A y dn la k := fun k hk => by
    by_cases k1 : k = 1
    · subst k1
      rw [mI_wIs]
      rfl
    · rw [mI_wI_ne k1]
      by_cases k0 : k = 0
      · subst k0
        rw [mI_wIs]
        rfl
      · rw [mI_wI_ne k0]
        exact hw k (by omega) hk y
  generalize wI (wI M 19 0 (nI y)) 19 1 (nI A.length) = M1 at f1 hW
  have hs19 : ∀ a k, S19 a k → a = 19 ∨ a = 20 := fun a k w => Or.inl w
  have c1 := h.fr f1 hs19
  have w1 : WDS M1 A dn la := fun k k1 k2 y' => by
    rw [hW k k2]
    unfold wdR
    rw [if_neg (show ¬ k = 0 by omega), if_neg (show ¬ k = 1 by omega), if_neg (show ¬ k = 0 by omega)]
  have o9 : okO M1 9 15 := by
    have := c1.1.1
    unfold LayC at this
    simp only [this]
  suffices hh : TT (grd (okO M1 9 15) (Option.bind (f_X9_told M1 15 (nI i) 2) (fun q23 => if q23 = (-1) then (roJ 0 15 19 (nI i) M1) else (Option.bind (mR M1 0 3) (fun r126 => Option.bind (mR M1 15 1) (fun r127 => grd (okO M1 3 r126) (Option.bind (f_X3_run M1 r126 r127 q23) (fun q129 => if (lg_cmp q129.2 1) = 0 then (roJ 0 15 19 (nI i) q129.1) else (some (q129.1, 0)))))))))) (roQ n0 B K0 cls code M1 (or1 K0 o A y dn la)) from hh.mono (fun q hq => hq.of f1 hs19)
  obtain ⟨r1, r2, r3⟩ := ro_lay c1.1.1
  rw [grd_y o9, show f_X9_told M1 15 (nI i) 2 = some (oI cl.2.2.1) from c_told15 c1.1.1 c1.2.2.2.2.1 (f := 2) hc (by omega), Option.bind_some]
  have c0 : CodeAt (cdF code) code.length 0 code := fun i v hv => by
    have hi := (List.getElem?_eq_some_iff.mp hv).1
    rw [Nat.zero_add]
    refine ⟨?_, hi⟩
    unfold cdF
    rw [List.getD_eq_getElem?_getD, hv]
    rfl
  have om := hO _ _ c0
  cases ht : cl.2.2.1 with
  | none =>
    rw [if_pos (show oI none = -1 from rfl)]
    exact c_roJ hB c1 w1 hW hc hO hk ho (om.2.2.2.1 ht _)
  | some t =>
    have t1 := (om.2.2.1 t ht).1
    rw [if_neg (show ¬ oI (some t) = -1 from neg1_nI (by omega)), r1, Option.bind_some, r2, Option.bind_some, grd_y r3, show oI (some t) = nI t from rfl, TT_bind]
    refine (c_run18 c1.1 c1.2.2.2.2.1 hW t1 (fun C L hC => ((hO C L hC).2.2.1 t ht).2 _)).mono ?_
    rintro ⟨M2, z⟩ ⟨f2, q2⟩
    simp only at f2 q2 ⊢
    have c2 := c1.fr f2 ssk20
    have w2 := w1.fr f2 (fun k w => by unfold Ssk at w; omega)
    have hW2 : ∀ k, k < 88 → mI M2 19 k = wdR A y dn la k := fun k hk => by rw [f2.i (by unfold Ssk; omega)]; exact hW k hk
    have no : ¬ o.2.2.1 (wdR A y dn la) = some true → roQ n0 B K0 cls code M1 (or1 K0 o A y dn la) (M2, 0) := fun q => by
      unfold or1
      rw [if_neg q]
      exact ⟨(CFW.fr f2 ssk20).up (by omega), rfl, c2.mono (by omega), w2⟩
    rw [q2]
    cases hv : o.2.2.1 (wdR A y dn la) with
    | none =>
      rw [if_neg (by decide), TT_some]
      exact no (by rw [hv]; decide)
    | some b =>
      cases b with
      | false =>
        rw [if_neg (by decide), TT_some]
        exact no (by rw [hv]; decide)
      | true =>
        rw [if_pos (by decide)]
        exact (c_roJ hB c2 w2 hW2 hc hO hk ho hv).mono (fun q hq => hq.of f2 ssk20)
