/-! ORDERS: the class runs all CLAUSES -/
noncomputable def coB (a0 : Nat) (x : Int32) (s53 : Mem × Int32) : Option ((Mem × Int32) ⊕ (Mem ⊕ (Mem × Int32))) := Option.bind (mR s53.1 a0 2) (fun r66 => grd (okO s53.1 7 r66) (Option.bind (mR s53.1 r66 3) (fun r68 => grd (okO s53.1 9 r68) (Option.bind (f_X9_told s53.1 r68 x 1) (fun q70 => if q70 ≤ s53.2 then (some (.inr (.inl s53.1))) else (Option.bind (mR s53.1 a0 2) (fun r73 => grd (okO s53.1 7 r73) (Option.bind (mR s53.1 r73 3) (fun r75 => Option.bind (f_X11_runOnce s53.1 a0 r75 x) (fun q76 => if 0 ≤ q76.2 then (bv (s53.2 + 1 : Int32) (fun x81 => some (.inl (q76.1, x81)))) else (some (.inr (.inr (q76.1, q76.2))))))))))))))
noncomputable def coC (a0 : Nat) (s36 : Mem × Int32) : Option ((Mem × Int32) ⊕ (Mem ⊕ (Mem × Int32 × Int32))) := Option.bind (mR s36.1 a0 2) (fun r49 => grd (okO s36.1 7 r49) (Option.bind (mR s36.1 r49 3) (fun r51 => grd (okO s36.1 9 r51) (if (mI s36.1 r51 2) ≤ s36.2 then (some (.inr (.inl s36.1))) else (Option.bind (loopO (σ := Mem × Int32) (ρ := Mem ⊕ (Mem × Int32)) (coB a0 s36.2) (s36.1, 0)) (Sum.elim (fun (x62 : Mem) => bv (s36.2 + 1 : Int32) (fun x83 => some (.inl (x62, x83)))) (fun (x64 : Mem × Int32) => some (.inr (.inr (x64.1, s36.2, x64.2))))))))))
noncomputable def coF (a0 : Nat) (x27 x30 : Int32) (x47 : Mem × Int32 × Int32) : Option (Mem × Int32) := bv (wI x47.1 a0 15 x47.2.1) (fun M97 => Option.bind (mR M97 a0 0) (fun r101 => grd (okO M97 10 r101) (Option.bind (f_X10_keepHouses M97 r101 x27) (fun q103 => Option.bind (mR q103 a0 0) (fun r108 => grd (okO q103 10 r108) (Option.bind (f_X10_turnTo q103 r108 x30) (fun q110 => Option.bind (f_X11_refuse q110 a0 x47.2.2) (fun q115 => some (q115.1, q115.2)))))))))
noncomputable def coG (a0 : Nat) (x45 : Mem) : Option (Mem × Int32) := Option.bind (mR x45 a0 3) (fun r86 => grd (okO x45 3 r86) (Option.bind (mR x45 r86 0) (fun r88 => grd (okO x45 14 r88) (grd (vp_in 2 (mL x45 r88)) (Option.bind (f_X11_accept x45 a0 (mI x45 r88 (2 : Int32).toNatClampNeg)) (fun q91 => some (q91.1, q91.2)))))))
noncomputable def coH (a0 : Nat) (M21 : Mem) : Option (Mem × Int32) := Option.bind (mR M21 a0 0) (fun r25 => grd (okO M21 10 r25) (bv (mI M21 r25 8 : Int32) (fun x27 => Option.bind (mR M21 a0 0) (fun r28 => grd (okO M21 10 r28) (bv (mI M21 r28 11 : Int32) (fun x30 => Option.bind (f_X11_tellSteward M21 a0) (fun q31 => Option.bind (loopO (σ := Mem × Int32) (ρ := Mem ⊕ (Mem × Int32 × Int32)) (coC a0) (q31, 0)) (Sum.elim (coG a0) (coF a0 x27 x30)))))))))
theorem corders_eq {M : Mem} {a0 : Nat} : f_X11_orders M a0 = grd (okO M 11 a0) (Option.bind (mR M a0 2) (fun r2 => grd (okO M 7 r2) (Option.bind (f_X7_read M r2 1) (fun q4 => Option.bind (mR q4.1 a0 2) (fun r9 => grd (okO q4.1 7 r9) (bv (wI q4.1 r9 4 0) (fun M11 => Option.bind (mR M11 a0 2) (fun r15 => grd (okO M11 7 r15) (bv (wI M11 a0 14 (mI M11 r15 5)) (fun M17 => bv (wI M17 a0 15 (-1)) (fun M21 => if q4.2 = 0 then (Option.bind (f_X11_refuse M21 a0 (-6)) (fun q120 => some (q120.1, q120.2))) else (coH a0 M21)))))))))))) := rfl
def HCL (cls : List CL) (code : List Nat) (os : List OSM) : Prop := os.length = cls.length ∧ ∀ (i : Nat) (cl : CL) (o : OSM), cls[i]? = some cl → os[i]? = some o → (∀ C L, CodeAt C L 0 code → OMC C L cl o) ∧ cl.1 = o.1 ∧ cl.2.1 = o.2.1 ∧ o.1 ≤ 5 ∧ o.2.1 ≤ 20
theorem co_lay {M : Mem} (hC : LayC M) : mR M 0 2 = some 11 ∧ okO M 7 11 ∧ mR M 11 3 = some 15 ∧ okO M 9 15 := by
  unfold LayC at hC
  simp only [hC, and_self]
def cxR (n0 B : Nat) (K0 : Nat → Int32) (cls : List CL) (code : List Nat) (n : Nat) (M : Mem) (o : Nat ⊕ OST) (z : Mem ⊕ (Mem × Int32)) : Prop := match o with
  | .inr s => ∃ M1, z = .inl M1 ∧ CFW n0 n M M1 ∧ COS n0 B K0 cls code M1 s.1 s.2.1 ∧ WDS M1 s.1 s.2.2.1 s.2.2.2
  | .inl e => ∃ M1, z = .inr (M1, -(nI e)) ∧ (e = 5 ∨ e = 3) ∧ CFW n0 n M M1 ∧ ∃ A y, COS n0 B K0 cls code M1 A y
theorem c_coT {n0 : Nat} {K0 : Nat → Int32} {cls : List CL} {code : List Nat} {i : Nat} {cl : CL} {o : OSM} (hc : cls[i]? = some cl) (hO : ∀ C L, CodeAt C L 0 code → OMC C L cl o) (hk : cl.1 = o.1) (hti : cl.2.1 = o.2.1) (ho : o.1 ≤ 5) (ho2 : o.2.1 ≤ 20) : ∀ n t B M s, t + n = o.2.1 → B + n < 16777000 → COS n0 B K0 cls code M s.1 s.2.1 → WDS M s.1 s.2.2.1 s.2.2.2 → TT (loopO (coB 0 (nI i)) (M, nI t)) (cxR n0 (B + n) K0 cls code n M (orT K0 o n s)) := by
  intro n
  induction n with
  | zero =>
    intro t B M s ht hB h hw
    obtain ⟨l1, l2, l3, l4⟩ := co_lay h.1.1
    have e : coB 0 (nI i) (M, nI t) = some (.inr (.inl M)) := by
      unfold coB
      simp only
      rw [l1, Option.bind_some, grd_y l2, l3, Option.bind_some, grd_y l4, show f_X9_told M 15 (nI i) 1 = some (nI cl.2.1) from c_told15 h.1.1 h.2.2.2.2.1 (f := 1) hc (by omega), Option.bind_some, hti, if_pos ((nleI (by omega) (by omega)).mpr (by omega))]
    rw [loopO_eq, e]
    exact ⟨_, rfl, M, rfl, CFW.rf, h, hw⟩
  | succ n ih =>
    intro t B M s ht hB h hw
    obtain ⟨l1, l2, l3, l4⟩ := co_lay h.1.1
    obtain ⟨⟨M1, x⟩, hz, hq⟩ := c_runOnce (show B < 16777000 by omega) h hw hc hO hk ho
    have e : coB 0 (nI i) (M, nI t) = if 0 ≤ x then some (.inl (M1, nI (t + 1))) else some (.inr (.inr (M1, x))) := by
      unfold coB
      simp only
      rw [l1, Option.bind_some, grd_y l2, l3, Option.bind_some, grd_y l4, show f_X9_told M 15 (nI i) 1 = some (nI cl.2.1) from c_told15 h.1.1 h.2.2.2.2.1 (f := 1) hc (by omega), Option.bind_some, hti, if_neg (by rw [nleI (by omega) (by omega)]; omega), Option.bind_some, grd_y l2, l3, Option.bind_some, hz, Option.bind_some]
      simp only [bv, nsucc]
    rw [loopO_eq, e]
    unfold orT or1s
    obtain ⟨q1, q2⟩ := hq
    simp only at q1
    cases ho1 : or1 K0 o s.1 s.2.1 s.2.2.1 s.2.2.2 with
    | inr s' =>
      rw [ho1] at q2
      obtain ⟨q3, q4, q5⟩ := q2
      simp only at q3 q4 q5
      rw [if_pos (by rw [q3]; decide)]
      simp only
      refine (ih (t + 1) (B + 1) M1 s' (by omega) (by omega) q4 q5).mono (fun z hz => ?_)
      rw [show B + 1 + n = B + (n + 1) from by omega] at hz
      cases ho2' : orT K0 o n s' with
      | inr s2 =>
        rw [ho2'] at hz
        obtain ⟨M2, a, b, c, d⟩ := hz
        exact ⟨M2, a, (q1.tr b).up (by omega), c, d⟩
      | inl e2 =>
        rw [ho2'] at hz
        obtain ⟨M2, a, b, c, d⟩ := hz
        exact ⟨M2, a, b, (q1.tr c).up (by omega), d⟩
    | inl e2 =>
      rw [ho1] at q2
      obtain ⟨q3, q4, A', y', q5⟩ := q2
      simp only at q3
      rw [if_neg (by rw [q3]; rcases q4 with z | z <;> subst z <;> decide)]
      exact ⟨_, rfl, M1, by rw [q3], q4, q1.up (by omega), A', y', q5.mono (by omega)⟩
def cxS (n0 B : Nat) (K0 : Nat → Int32) (cls : List CL) (code : List Nat) (n : Nat) (M : Mem) (o : (Nat × Nat) ⊕ OST) (z : Mem ⊕ (Mem × Int32 × Int32)) : Prop := match o with
  | .inr s => ∃ M1, z = .inl M1 ∧ CFW n0 n M M1 ∧ COS n0 B K0 cls code M1 s.1 s.2.1 ∧ WDS M1 s.1 s.2.2.1 s.2.2.2
  | .inl e => ∃ M1, z = .inr (M1, nI e.1, -(nI e.2)) ∧ (e.2 = 5 ∨ e.2 = 3) ∧ CFW n0 n M M1 ∧ ∃ A y, COS n0 B K0 cls code M1 A y
theorem c_coL {n0 : Nat} {K0 : Nat → Int32} {cls : List CL} {code : List Nat} {os : List OSM} (hH : HCL cls code os) : ∀ n i B M s, i + n = cls.length → B + 20 * n < 16777000 → COS n0 B K0 cls code M s.1 s.2.1 → WDS M s.1 s.2.2.1 s.2.2.2 → TT (loopO (coC 0) (M, nI i)) (cxS n0 (B + 20 * n) K0 cls code (20 * n) M (orL K0 (os.drop i) i s)) := by
  intro n
  induction n with
  | zero =>
    intro i B M s hi hB h hw
    obtain ⟨l1, l2, l3, l4⟩ := co_lay h.1.1
    have h12 := h.2.2.2.2.1.2.1
    have e : coC 0 (M, nI i) = some (.inr (.inl M)) := by
      unfold coC
      simp only
      rw [l1, Option.bind_some, grd_y l2, l3, Option.bind_some, grd_y l4, h.2.2.2.2.1.1, if_pos ((nleI (by omega) (by omega)).mpr (by omega))]
    rw [loopO_eq, e, List.drop_eq_nil_of_le (by rw [hH.1]; omega)]
    exact ⟨_, rfl, M, rfl, CFW.rf, h, hw⟩
  | succ n ih =>
    intro i B M s hi hB h hw
    obtain ⟨l1, l2, l3, l4⟩ := co_lay h.1.1
    have h12 := h.2.2.2.2.1.2.1
    have hil : i < cls.length := by omega
    have his : i < os.length := by rw [hH.1]; exact hil
    have hcl := List.getElem?_eq_getElem hil
    have hos := List.getElem?_eq_getElem his
    have hd : os.drop i = os[i] :: os.drop (i + 1) := List.drop_eq_getElem_cons his
    generalize cls[i] = cl at hcl
    generalize os[i] = o at hos hd
    obtain ⟨c1, c2, c3, c4, c5⟩ := hH.2 i cl o hcl hos
    obtain ⟨z, hz, hq⟩ := c_coT hcl c1 c2 c3 c4 c5 o.2.1 0 B M s (by omega) (by omega) h hw
    have e : coC 0 (M, nI i) = Sum.elim (fun (x62 : Mem) => some (.inl (x62, nI (i + 1)))) (fun (x64 : Mem × Int32) => some (.inr (.inr (x64.1, nI i, x64.2)))) z := by
      unfold coC
      simp only
      rw [l1, Option.bind_some, grd_y l2, l3, Option.bind_some, grd_y l4, h.2.2.2.2.1.1, if_neg (by rw [nleI (by omega) (by omega)]; omega), show loopO (coB 0 (nI i)) (M, 0) = some z from hz, Option.bind_some]
      simp only [bv, nsucc]
    rw [loopO_eq, e, hd]
    unfold orL
    cases ho : orT K0 o o.2.1 s with
    | inr s' =>
      rw [ho] at hq
      obtain ⟨M1, rfl, f1, q1, q2⟩ := hq
      show TT (loopO (coC 0) (M1, nI (i + 1))) _
      refine (ih (i + 1) (B + o.2.1) M1 s' (by omega) (by omega) q1 q2).mono (fun z hz => ?_)
      show cxS n0 (B + 20 * (n + 1)) K0 cls code (20 * (n + 1)) M (orL K0 (os.drop (i + 1)) (i + 1) s') z
      cases ho2 : orL K0 (os.drop (i + 1)) (i + 1) s' with
      | inr s2 =>
        rw [ho2] at hz
        obtain ⟨M2, a, b, c, d⟩ := hz
        exact ⟨M2, a, (f1.tr b).up (by omega), c.mono (by omega), d⟩
      | inl e2 =>
        rw [ho2] at hz
        obtain ⟨M2, a, b, c, A', y', d⟩ := hz
        exact ⟨M2, a, b, (f1.tr c).up (by omega), A', y', d.mono (by omega)⟩
    | inl e2 =>
      rw [ho] at hq
      obtain ⟨M1, rfl, q1, f1, A', y', q2⟩ := hq
      exact ⟨_, rfl, M1, rfl, q1, f1.up (by omega), A', y', q2.mono (by omega)⟩
