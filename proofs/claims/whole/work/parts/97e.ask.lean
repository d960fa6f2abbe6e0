/-! the class asks a LAW -/
noncomputable def alB : Mem × Int32 × Int32 → Option ((Mem × Int32 × Int32) ⊕ ((Mem × Int32) ⊕ Mem)) := (fun s1 => grd (okO s1.1 8 21) (Option.bind (mR s1.1 21 3) (fun r14 => grd (okO s1.1 9 r14) (if (mI s1.1 r14 2) ≤ s1.2.2 then (some (.inr (.inl (s1.1, s1.2.1)))) else (Option.bind (mR s1.1 21 3) (fun r16 => grd (okO s1.1 9 r16) (Option.bind (f_X9_told s1.1 r16 s1.2.2 2) (fun q18 => bv (fun (s22 : Mem × Int32) => bv (s1.2.2 + 1 : Int32) (fun x26 => some (.inl (s22.1, s22.2, x26)))) (fun j21 => bv (fun (s28 : Mem) => Option.bind (mR s28 21 3) (fun r32 => grd (okO s28 9 r32) (Option.bind (f_X9_told s28 r32 s1.2.2 0) (fun q34 => if q34 = 0 then (Option.bind (mR s28 21 1) (fun r37 => Option.bind (mR s28 21 3) (fun r38 => grd (okO s28 9 r38) (Option.bind (mR s28 r38 1) (fun r40 => Option.bind (mR s28 21 3) (fun r41 => grd (okO s28 9 r41) (Option.bind (f_X9_told s28 r41 s1.2.2 3) (fun q43 => grd (okO s28 3 r37) (Option.bind (f_X3_run s28 r37 r40 q43) (fun q47 => if (lg_cmp q47.2 (-4611686018427387904)) = 0 then (j21 (q47.1, s1.2.1)) else (bv ((lmax 0 (lmin 99 q47.2)).toInt32 : Int32) (fun x52 => j21 (q47.1, x52))))))))))))) else (some (.inr (.inr s28))))))) (fun j27 => if q18 = (-1) then (j27 s1.1) else (Option.bind (mR s1.1 21 1) (fun r53 => Option.bind (mR s1.1 21 3) (fun r54 => grd (okO s1.1 9 r54) (Option.bind (mR s1.1 r54 1) (fun r56 => grd (okO s1.1 3 r53) (Option.bind (f_X3_run s1.1 r53 r56 q18) (fun q58 => if (lg_cmp q58.2 1) = 0 then (j27 q58.1) else (j21 (q58.1, s1.2.1)))))))))))))))))))
theorem askLaw_eq {M : Mem} : f_X8_askLaw M 21 = Option.bind (loopO alB (M, 1, 0)) (Sum.elim (fun (x9 : Mem × Int32) => some (x9.1, x9.2)) (fun (x11 : Mem) => some (x11, (-1)))) := rfl
noncomputable def alE (x y : Int32) (M1 : Mem) : Option ((Mem × Int32 × Int32) ⊕ ((Mem × Int32) ⊕ Mem)) := Option.bind (mR M1 21 3) (fun r32 => grd (okO M1 9 r32) (Option.bind (f_X9_told M1 r32 x 0) (fun q34 => if q34 = 0 then (Option.bind (mR M1 21 1) (fun r37 => Option.bind (mR M1 21 3) (fun r38 => grd (okO M1 9 r38) (Option.bind (mR M1 r38 1) (fun r40 => Option.bind (mR M1 21 3) (fun r41 => grd (okO M1 9 r41) (Option.bind (f_X9_told M1 r41 x 3) (fun q43 => grd (okO M1 3 r37) (Option.bind (f_X3_run M1 r37 r40 q43) (fun q47 => if (lg_cmp q47.2 (-4611686018427387904)) = 0 then (some (.inl (q47.1, y, x + 1))) else (some (.inl (q47.1, (lmax 0 (lmin 99 q47.2)).toInt32, x + 1))))))))))))) else (some (.inr (.inr M1))))))
/-- a kept text of the class: its clauses, its code -/
def LTX (M : Mem) (tx cr ca : Nat) (cls : List CL) (C : Nat → Nat) (L : Nat) : Prop := okO M 9 tx ∧ mR M tx 0 = some cr ∧ mR M tx 1 = some ca ∧ mI M tx 2 = nI cls.length ∧ cls.length ≤ 12 ∧ okO M 14 cr ∧ 6 * cls.length ≤ mL M cr ∧ mL M cr ≤ 72 ∧ okO M 14 ca ∧ mL M ca = L ∧ L ≤ 800 ∧ (∀ i, i < L → mI M ca i = nI (C i) ∧ C i < 2147483648) ∧ ∀ i cl, cls[i]? = some cl → ∀ f, f < 6 → mI M cr (i * 6 + f) = clF cl f
theorem okO_fr {S : Nat → Nat → Prop} {M M1 : Mem} (hF : Fr S M M1) {k a : Nat} (h : okO M k a) : okO M1 k a := by
  unfold okO at h ⊢
  rw [hF.1, hF.2.2.1]
  exact h
theorem LTX.fr {S : Nat → Nat → Prop} {M M1 : Mem} {tx cr ca L : Nat} {cls : List CL} {C : Nat → Nat} (h : LTX M tx cr ca cls C L) (hF : Fr S M M1) (h1 : ¬ S tx 2) (h2 : ∀ k, ¬ S cr k) (h3 : ∀ k, ¬ S ca k) : LTX M1 tx cr ca cls C L := by
  obtain ⟨g1, g2, g3, g4, g5, g6, g7, g8, g9, g10, g11, g12, g13⟩ := h
  have eL := hF.2.2.2.1
  have eR := hF.2.2.2.2.1
  refine ⟨okO_fr hF g1, by rw [eR]; exact g2, by rw [eR]; exact g3, by rw [hF.i h1]; exact g4, g5, okO_fr hF g6, by rw [eL]; exact g7, by rw [eL]; exact g8, okO_fr hF g9, by rw [eL]; exact g10, g11, fun i hi => by rw [hF.i (h3 i)]; exact g12 i hi, fun i cl hc f hf => by rw [hF.i (h2 _)]; exact g13 i cl hc f hf⟩
theorem c_told9 {M : Mem} {tx cr ca L : Nat} {cls : List CL} {C : Nat → Nat} (h : LTX M tx cr ca cls C L) {i f : Nat} {cl : CL} (hc : cls[i]? = some cl) (hf : f < 6) : f_X9_told M tx (nI i) (nI f) = some (clF cl f) := by
  obtain ⟨g1, g2, g3, g4, g5, g6, g7, g8, g9, g10, g11, g12, g13⟩ := h
  have hi : i < cls.length := (List.getElem?_eq_some_iff.mp hc).1
  unfold f_X9_told
  simp only [bv, g2, Option.bind_some]
  rw [show (6 : Int32) = nI 6 from rfl, nmul, nadd, if_neg (show ¬ nI (i * 6 + f) < 0 by rw [show (0 : Int32) = nI 0 from rfl, nltI (by omega) (by omega)]; omega), grd_y g1, grd_y g6, if_neg (by rw [nleI (by omega) (by omega)]; omega), grd_y g6, grd_y ((nvp (by omega)).mpr (by omega)), nclampI (by omega), g13 i cl hc f hf]
/-- what the loop ends with -/
def alQ (M : Mem) (sms : List SM) (W : Nat → Int32) (a : Nat) (z : (Mem × Int32) ⊕ Mem) : Prop := match z with
  | .inl x => barS sms W = false ∧ x.2 = nI (sms.foldl (weiS W) a) ∧ Fr (Ssk 24) M x.1
  | .inr M1 => barS sms W = true ∧ Fr (Ssk 24) M M1
theorem clmp_32 {v : Int} (hv : S32 v) : (lmax 0 (lmin 99 (jj v))).toInt32 = nI (clmp v) := by
  have R99 : R64 99 := ⟨by decide, by decide⟩
  have hlt : ∀ {a b : Int}, R64 a → R64 b → ((jj a < jj b) ↔ a < b) := by
    intro a b ha hb
    rw [Int64.lt_iff_toInt_lt, jj_toInt ha, jj_toInt hb]
  have e1 : lmin 99 (jj v) = jj (min 99 v) := by
    unfold lmin
    rw [show (99 : Int64) = jj 99 from rfl]
    by_cases h : v < 99
    · rw [if_pos ((hlt hv.r R99).mpr h)]
      congr 1
      omega
    · rw [if_neg (fun w => h ((hlt hv.r R99).mp w))]
      congr 1
      omega
  have hm : R64 (min 99 v) := by
    have := hv.r
    unfold R64 at this ⊢
    omega
  have e2 : lmax 0 (jj (min 99 v)) = jj (clmp v : Int) := by
    unfold lmax clmp
    rw [show (0 : Int64) = jj 0 from rfl]
    by_cases h : min 99 v < 0
    · rw [if_pos ((hlt hm R64_0).mpr h)]
      congr 1
      omega
    · rw [if_neg (fun w => h ((hlt hm R64_0).mp w))]
      congr 1
      omega
  rw [e1, e2, jj_32 (by have := clmp_le v; omega)]
theorem jb_ne {v : Int} (hv : S32 v) : ¬ lg_cmp (jj v) (-4611686018427387904) = 0 := by
  intro w
  have e : (-4611686018427387904 : Int64) = jj (-4611686018427387904) := by
    apply Int64.toInt_inj.mp
    rw [jj_toInt (by unfold R64; omega)]
    decide
  have hb : R64 (-4611686018427387904) := by unfold R64; omega
  rw [e] at w
  have h1 := (lgc0 hv.r hb).mp w
  have h2 := hv.1
  omega
theorem al_L {tx cr ca L : Nat} {cls : List CL} {C : Nat → Nat} {W : Nat → Int32} {sms : List SM} (hS : SMS C L cls sms) (hne : tx ≠ 24 ∧ cr ≠ 24 ∧ ca ≠ 24) : ∀ n i M a, i + n = cls.length → a ≤ 99 → LayC M → mR M 21 3 = some tx → LTX M tx cr ca cls C L → (∀ i, i < 88 → mI M 23 i = W i) → TT (loopO alB (M, nI a, nI i)) (alQ M (sms.drop i) W a) := by
  intro n
  induction n with
  | zero =>
    intro i M a hi ha hL h3 hX hW
    have hL0 := hL
    unfold LayC at hL
    have g1 := hX.1
    have g4 := hX.2.2.2.1
    have g5 := hX.2.2.2.2.1
    have e : alB (M, nI a, nI i) = some (.inr (.inl (M, nI a))) := by
      unfold alB
      simp only [hL, grd_T, h3, Option.bind_some]
      rw [grd_y g1, g4, if_pos ((nleI (by omega) (by omega)).mpr (by omega))]
    rw [loopO_eq, e]
    refine ⟨_, rfl, ?_⟩
    rw [List.drop_eq_nil_of_le (by rw [hS.1]; omega)]
    exact ⟨rfl, rfl, Fr.rf⟩
  | succ n ih =>
    intro i M a hi ha hL h3 hX hW
    have hL0 := hL
    unfold LayC at hL
    have g1 := hX.1
    have g3 := hX.2.2.1
    have g4 := hX.2.2.2.1
    have g5 := hX.2.2.2.2.1
    have hil : i < cls.length := by omega
    have hcl : cls[i]? = some cls[i] := List.getElem?_eq_getElem hil
    have his : i < sms.length := by rw [hS.1]; exact hil
    have hsm : sms[i]? = some sms[i] := List.getElem?_eq_getElem his
    have hc := hS.2 i _ _ hcl hsm
    have hd : sms.drop i = sms[i] :: sms.drop (i + 1) := List.drop_eq_getElem_cons his
    generalize cls[i] = cl at hcl hc
    generalize sms[i] = s at hsm hc hd
    obtain ⟨c1, c2, c3, c4⟩ := hc
    have mch : ∀ {M1 : Mem}, Fr (Ssk 24) M M1 → MCH M1 22 23 24 ca L C W := by
      intro M1 hF
      have hL1 := hL0.fr hF
      have hX1 := hX.fr hF (fun w => hne.1 w) (fun k w => hne.2.1 w) (fun k w => hne.2.2 w)
      obtain ⟨x1, x2, x3, x4, x5, x6, x7, x8, x9, x10, x11, x12, x13⟩ := hX1
      unfold LayC at hL1
      exact ⟨by simp only [hL1], by simp only [hL1], by simp only [hL1], by simp only [hL1], by simp only [hL1], by simp only [hL1], by simp only [hL1], x9, x10, x11, x12, fun j hj => by rw [hF.i (by unfold Ssk; omega)]; exact hW j hj, by decide, fun w => hne.2.2 w.symm⟩
    -- behind the clause
    have nxt : ∀ (M1 : Mem) (a' : Nat), Fr (Ssk 24) M M1 → a' ≤ 99 → a' = weiS W a s → (s.1 && (s.2.1 W == some true)) = false → alB (M, nI a, nI i) = some (.inl (M1, nI a', nI i + 1)) → TT (loopO alB (M, nI a, nI i)) (alQ M (sms.drop i) W a) := by
      intro M1 a' hF ha' ea eb e
      rw [loopO_eq, e]
      simp only
      rw [nsucc]
      refine (ih (i + 1) M1 a' (by omega) ha' (hL0.fr hF) (by rw [hF.2.2.2.2.1]; exact h3) (hX.fr hF (fun w => hne.1 w) (fun k w => hne.2.1 w) (fun k w => hne.2.2 w)) (fun j hj => by rw [hF.i (by unfold Ssk; omega)]; exact hW j hj)).mono ?_
      intro z hz
      rw [hd]
      have ebar : barS (s :: sms.drop (i + 1)) W = barS (sms.drop (i + 1)) W := by
        unfold barS
        rw [List.any_cons, eb, Bool.false_or]
      cases z with
      | inl x =>
        obtain ⟨z1, z2, z3⟩ := hz
        exact ⟨by rw [ebar]; exact z1, by rw [List.foldl_cons, ← ea]; exact z2, hF.tr z3⟩
      | inr M2 =>
        obtain ⟨z1, z2⟩ := hz
        exact ⟨by rw [ebar]; exact z1, hF.tr z2⟩
    have c9 : ∀ {M1 : Mem}, Fr (Ssk 24) M M1 → LTX M1 tx cr ca cls C L := fun hF => hX.fr hF (fun w => hne.1 w) (fun k w => hne.2.1 w) (fun k w => hne.2.2 w)
    have t0 : ∀ {M1 : Mem}, Fr (Ssk 24) M M1 → f_X9_told M1 tx (nI i) 0 = some (nI cl.1) := fun hF => c_told9 (c9 hF) (f := 0) hcl (by omega)
    have t2 : f_X9_told M tx (nI i) 2 = some (oI cl.2.2.1) := c_told9 hX (f := 2) hcl (by omega)
    have t3 : ∀ {M1 : Mem}, Fr (Ssk 24) M M1 → f_X9_told M1 tx (nI i) 3 = some (oI cl.2.2.2.1) := fun hF => c_told9 (c9 hF) (f := 3) hcl (by omega)
    have lay : ∀ {M1 : Mem}, Fr (Ssk 24) M M1 → okO M1 9 tx ∧ mR M1 21 3 = some tx ∧ mR M1 21 1 = some 22 ∧ okO M1 3 22 ∧ mR M1 tx 1 = some ca := by
      intro M1 hF
      have hL1 := hL0.fr hF
      unfold LayC at hL1
      refine ⟨(c9 hF).1, by rw [hF.2.2.2.2.1]; exact h3, by simp only [hL1], by simp only [hL1], (c9 hF).2.2.1⟩
    have act : ∀ M1, Fr (Ssk 24) M M1 → s.2.1 W = some true → alB (M, nI a, nI i) = alE (nI i) (nI a) M1 → TT (loopO alB (M, nI a, nI i)) (alQ M (sms.drop i) W a) := by
      intro M1 hF htv e
      obtain ⟨y1, y2, y3, y4, y5⟩ := lay hF
      unfold alE at e
      simp only [y2, y3, y5, Option.bind_some, t0 hF, t3 hF] at e
      rw [grd_y y1] at e
      cases hb : s.1 with
      | true =>
        rw [hb, if_pos rfl] at c1
        rw [c1, if_neg (show ¬ nI 1 = 0 by decide)] at e
        rw [loopO_eq, e]
        refine ⟨_, rfl, ?_, hF⟩
        rw [hd]
        unfold barS
        rw [List.any_cons, hb, htv]
        rfl
      | false =>
        rw [hb, if_neg (by decide)] at c1
        obtain ⟨u, u1, u2, u3, u4⟩ := c4 hb
        have hrun := c_run (mch hF) (u := u) (by omega) (u4 W)
        rw [c1, if_pos (show nI 0 = 0 from rfl), grd_y y1, grd_y y1, u1, grd_y y4, show oI (some u) = nI u from rfl] at e
        obtain ⟨q, hq, q1, q2⟩ := hrun
        rw [hq, Option.bind_some, q2] at e
        have eb : (s.1 && (s.2.1 W == some true)) = false := by rw [hb]; rfl
        cases hv : s.2.2 W with
        | none =>
          rw [hv, if_pos (by decide)] at e
          refine nxt q.1 a (hF.tr q1) ha ?_ eb e
          unfold weiS
          rw [if_pos ⟨hb, htv⟩, hv]
        | some v =>
          have hvS := u3 W v hv
          rw [hv, show jO (some v) = jj v from rfl, if_neg (jb_ne hvS), clmp_32 hvS] at e
          refine nxt q.1 (clmp v) (hF.tr q1) (clmp_le v) ?_ eb e
          unfold weiS
          rw [if_pos ⟨hb, htv⟩, hv]
    have start : alB (M, nI a, nI i) = if oI cl.2.2.1 = -1 then alE (nI i) (nI a) M else (Option.bind (f_X3_run M 22 ca (oI cl.2.2.1)) (fun q58 => if (lg_cmp q58.2 1) = 0 then alE (nI i) (nI a) q58.1 else some (.inl (q58.1, nI a, nI i + 1)))) := by
      obtain ⟨y1, y2, y3, y4, y5⟩ := lay (M1 := M) Fr.rf
      have y0 : okO M 8 21 := by simp only [hL]
      have key : alB (M, nI a, nI i) = grd (okO M 8 21) (Option.bind (mR M 21 3) (fun r14 => grd (okO M 9 r14) (if (mI M r14 2) ≤ nI i then (some (.inr (.inl (M, nI a)))) else (Option.bind (mR M 21 3) (fun r16 => grd (okO M 9 r16) (Option.bind (f_X9_told M r16 (nI i) 2) (fun q18 => if q18 = (-1) then alE (nI i) (nI a) M else (Option.bind (mR M 21 1) (fun r53 => Option.bind (mR M 21 3) (fun r54 => grd (okO M 9 r54) (Option.bind (mR M r54 1) (fun r56 => grd (okO M 3 r53) (Option.bind (f_X3_run M r53 r56 q18) (fun q58 => if (lg_cmp q58.2 1) = 0 then alE (nI i) (nI a) q58.1 else some (.inl (q58.1, nI a, nI i + 1)))))))))))))))) := rfl
      rw [key, grd_y y0]
      simp only [h3, Option.bind_some]
      rw [grd_y y1, g4, if_neg (fun w => by have := (nleI (by omega) (by omega)).mp w; omega), grd_y y1, t2, Option.bind_some]
      simp only [y3, Option.bind_some, y5]
      rw [grd_y y1, grd_y y4]
    cases ht : cl.2.2.1 with
    | none =>
      rw [ht, if_pos (show oI none = -1 from rfl)] at start
      exact act M Fr.rf (c3 ht W) start
    | some t =>
      obtain ⟨d1, d2⟩ := c2 t ht
      have hrun := c_run (mch (M1 := M) Fr.rf) (u := t) (by omega) (d2 W)
      obtain ⟨q, hq, q1, q2⟩ := hrun
      rw [ht, if_neg (show ¬ oI (some t) = -1 from fun w => by
        have := congrArg Int32.toInt w
        rw [show oI (some t) = nI t from rfl, nI_tI (by omega)] at this
        have h2 : (-1 : Int32).toInt = -1 := by decide
        omega), show oI (some t) = nI t from rfl, hq, Option.bind_some, q2] at start
      cases hv : s.2.1 W with
      | none =>
        rw [hv, if_neg (by decide)] at start
        refine nxt q.1 a q1 ha ?_ (by rw [hv]; simp) start
        unfold weiS
        rw [if_neg (fun w => by rw [hv] at w; cases w.2)]
      | some b =>
        cases b with
        | false =>
          rw [hv, if_neg (by decide)] at start
          refine nxt q.1 a q1 ha ?_ (by rw [hv]; simp) start
          unfold weiS
          rw [if_neg (fun w => by rw [hv] at w; cases w.2)]
        | true =>
          rw [hv, if_pos (by decide)] at start
          exact act q.1 q1 hv start
/-- the class's LAW tells a weight, or a bar -/
theorem c_askLaw {tx cr ca L : Nat} {cls : List CL} {C : Nat → Nat} {W : Nat → Int32} {sms : List SM} (hS : SMS C L cls sms) (hne : tx ≠ 24 ∧ cr ≠ 24 ∧ ca ≠ 24) {M : Mem} (hL : LayC M) (h3 : mR M 21 3 = some tx) (hX : LTX M tx cr ca cls C L) (hW : ∀ i, i < 88 → mI M 23 i = W i) : TT (f_X8_askLaw M 21) (fun q => Fr (Ssk 24) M q.1 ∧ q.2 = oI (lawS sms W)) := by
  rw [askLaw_eq, TT_bind]
  refine (show TT (loopO alB (M, nI 1, nI 0)) _ from al_L hS hne cls.length 0 M 1 (by omega) (by omega) hL h3 hX hW).mono ?_
  intro z hz
  rw [List.drop_zero] at hz
  cases z with
  | inl x =>
    obtain ⟨z1, z2, z3⟩ := hz
    refine ⟨_, rfl, z3, ?_⟩
    unfold lawS
    rw [z1]
    exact z2
  | inr M1 =>
    obtain ⟨z1, z2⟩ := hz
    refine ⟨_, rfl, z2, ?_⟩
    unfold lawS
    rw [z1]
    rfl
