/-! odds(), likely(): both -/
noncomputable def lkC (M : Mem) (a0 : Nat) : Int32 × Int32 → Option ((Int32 × Int32) ⊕ (Int32)) := (fun s1 => if 9331 ≤ s1.2 then (some (.inr s1.1)) else (grd (okO M 0 a0) (Option.bind (mR M a0 3) (fun r10 => grd (okO M 15 r10) (grd (vp_in s1.2 (mL M r10)) (Option.bind (mR M a0 3) (fun r13 => grd (okO M 15 r13) (grd (vp_in s1.1 (mL M r13)) (bv (fun (s17 : Int32) => bv (s1.2 + 1 : Int32) (fun x20 => some (.inl (s17, x20)))) (fun j16 => if (lg_cmp (mJ M r10 s1.2.toNatClampNeg) (mJ M r13 s1.1.toNatClampNeg)) ≤ 0 then (j16 s1.1) else (j16 s1.2)))))))))))
noncomputable def lkR (q8 : Mem) (a0 : Nat) : Int32 × Int32 → Option ((Int32 × Int32) ⊕ (Int32)) := (fun s13 => if 9331 ≤ s13.2 then (some (.inr s13.1)) else (Option.bind (mR q8 a0 44) (fun r21 => grd (okO q8 15 r21) (grd (vp_in s13.2 (mL q8 r21)) (Option.bind (mR q8 a0 44) (fun r24 => grd (okO q8 15 r24) (grd (vp_in s13.1 (mL q8 r24)) (bv (fun (s28 : Int32) => bv (s13.2 + 1 : Int32) (fun x31 => some (.inl (s28, x31)))) (fun j27 => if (lg_cmp (mJ q8 r21 s13.2.toNatClampNeg) (mJ q8 r24 s13.1.toNatClampNeg)) ≤ 0 then (j27 s13.1) else (j27 s13.2))))))))))
theorem work_no {M : Mem} (hC : LayC M) {p1 p2 : Int32} (h : p1 = -1 ∨ ¬ (0 ≤ p2 ∧ p2 ≤ 3)) : f_X0_work M 42 p1 p2 = some (M, 0) := by
  rw [work_eq]
  by_cases w : p1 = -1
  · rw [if_pos w]
  · have h2 := h.resolve_left w
    rw [if_neg w]
    by_cases w2 : p2 < 0
    · rw [if_pos w2]
    · rw [if_neg w2, if_neg (fun q => h2 ⟨?_, q⟩)]
      have t0 : (0 : Int32).toInt = 0 := rfl
      simp only [Int32.lt_iff_toInt_lt, Int32.le_iff_toInt_le] at w2 ⊢
      omega
theorem both_odds {c : Nat} (hc6 : c < 600) {M : Mem} (h : INV0 c M) (hc : CHN M) (p1 p2 p3 : Int32) : ∃ M1 M2 x, f_X11_odds M 0 p1 p2 p3 = some (M1, x) ∧ f_X12_odds M1 47 p1 p2 p3 = some (M2, x) ∧ CHQ c M M2 := by
  have hC := h.1.1
  have hM := h.1.2.1
  have hC2 := hC
  have hM2 := hM
  unfold LayC at hC2
  unfold LayM at hM2
  have y0 : okO M 11 0 := hC2.1
  have e8 : mR M 0 8 = some 42 := by simp only [hC2]
  have o42 : okO M 0 42 := by simp only [hC2]
  have no : f_X11_odds M 0 p1 p2 p3 = some (M, -1) → f_X12_odds M 47 p1 p2 p3 = some (M, -1) → ∃ M1 M2 x, f_X11_odds M 0 p1 p2 p3 = some (M1, x) ∧ f_X12_odds M1 47 p1 p2 p3 = some (M2, x) ∧ CHQ c M M2 := fun a b => ⟨M, M, -1, a, b, CHQ.same h hc⟩
  rcases dish_cases p2 with ⟨_, d1, d2⟩ | ⟨l2, hl2, rfl, d1, d2⟩
  · refine no ?_ ?_
    · unfold f_X11_odds
      rw [d1, Option.bind_some, if_pos rfl]
    · unfold f_X12_odds
      rcases dish_cases p1 with ⟨_, _, g2⟩ | ⟨_, _, rfl, _, g2⟩
      · rw [g2, Option.bind_some, if_pos rfl]
      · rw [g2, Option.bind_some, if_neg (by decide), d2, Option.bind_some, if_pos rfl]
  · have cpre : f_X11_odds M 0 p1 (nI (num l2)) p3 = Option.bind (f_X6_rankOf p1) (fun q6 => Option.bind (f_X0_work M 42 q6 p3) (fun q10 => if q10.2 = 0 then (some (q10.1, (-1))) else (Option.bind (mR q10.1 0 8) (fun r15 => grd (okO q10.1 0 r15) (Option.bind (mR q10.1 r15 3) (fun r17 => grd (okO q10.1 15 r17) (grd (vp_in (nI (rank l2)) (mL q10.1 r17)) (some (q10.1, mJ q10.1 r17 (nI (rank l2)).toNatClampNeg))))))))) := by
      unfold f_X11_odds
      rw [d1, Option.bind_some, if_neg (rank_ne hl2), grd_y y0, e8, Option.bind_some]
      congr 1
      funext q6
      rw [grd_y o42]
    rcases dish_cases p1 with ⟨_, g1, g2⟩ | ⟨l, hl, rfl, g1, g2⟩
    · refine no ?_ ?_
      · rw [cpre, g1, Option.bind_some, work_no hC (Or.inl rfl), Option.bind_some, if_pos rfl]
      · unfold f_X12_odds
        rw [g2, Option.bind_some, if_pos rfl]
    · by_cases w : 0 ≤ p3 ∧ p3 ≤ 3
      · obtain ⟨n, hn, rfl⟩ := up_nat (n := 3) (by omega) w
        obtain ⟨M1, M2, T, rp, f1, f2, lc, lm1, lm, r3, wp, j1, j2, hT, hq⟩ := both_work hc6 h hc hl hn
        have hr := rank_lt hl2
        have hC3 := lc
        unfold LayC at hC3
        have hM3 := lm
        unfold LayM at hM3
        refine ⟨M1, M2, jj (T (rank l2) : Int), ?_, ?_, hq⟩
        · rw [cpre, g1, Option.bind_some, f1, Option.bind_some]
          show (if (1 : Int32) = 0 then _ else _) = _
          rw [if_neg (by decide)]
          have e8' : mR M1 0 8 = some 42 := by simp only [hC3]
          have o42' : okO M1 0 42 := by simp only [hC3]
          rw [e8', Option.bind_some, grd_y o42', r3, Option.bind_some, grd_y wp.2.1, wp.2.2, grd_y ((nvp (by omega)).mpr (by omega)), nclampI (by omega), j1 _ hr]
        · have o47 : okO M1 12 47 := by
            unfold LayM at lm1
            exact lm1.1
          unfold f_X12_odds
          rw [g2, Option.bind_some, if_neg (by decide), d2, Option.bind_some, if_neg (by decide), lies_bind, if_pos w, grd_y o47, f2, Option.bind_some]
          have e44 : mR M2 47 44 = some 74 := by simp only [hM3]
          have o74 : okO M2 15 74 := by simp only [hM3]
          have l74 : mL M2 74 = 9331 := by simp only [hM3]
          rw [e44, Option.bind_some, p_placeOf hl2, Option.bind_some, grd_y o74, l74, grd_y ((nvp (by omega)).mpr (by omega)), nclampI (by omega), j2 _ hr]
      · refine no ?_ ?_
        · rw [cpre, g1, Option.bind_some, work_no hC (Or.inr w), Option.bind_some, if_pos rfl]
        · unfold f_X12_odds
          rw [g2, Option.bind_some, if_neg (by decide), d2, Option.bind_some, if_neg (by decide), lies_bind, if_neg w]
/-- the likeliest of those up to a place -/
def lkS (T : Nat → Nat) : Nat → Nat
  | 0 => 0
  | k + 1 => if T k ≤ T (lkS T k) then lkS T k else k
theorem lkS_lt (T : Nat → Nat) : ∀ k, lkS T k ≤ k
  | 0 => Nat.le_refl _
  | k + 1 => by
    have := lkS_lt T k
    unfold lkS
    split <;> omega
theorem lkS_lt2 (T : Nat → Nat) : ∀ k, 1 ≤ k → lkS T k < k
  | 0, h => by omega
  | 1, _ => by
    show (if T 0 ≤ T 0 then 0 else 0) < 1
    rw [if_pos (Nat.le_refl _)]
    omega
  | k + 2, _ => by
    have := lkS_lt2 T (k + 1) (by omega)
    show (if T (k + 1) ≤ T (lkS T (k + 1)) then lkS T (k + 1) else k + 1) < k + 2
    split <;> omega
theorem lk_cmp {a b : Nat} (ha : a ≤ 1000000000000) (hb : b ≤ 1000000000000) : (lg_cmp (jj (a : Int)) (jj (b : Int)) ≤ 0) ↔ a ≤ b := by
  rw [lgc3 ⟨by omega, by omega⟩ ⟨by omega, by omega⟩]
  omega
theorem likeliest_eq {M : Mem} {a0 : Nat} : f_X0_likeliest M a0 = Option.bind (loopO (lkC M a0) (0, 1)) (fun (x7 : Int32) => some x7) := rfl
theorem c_likeliest {M : Mem} (hC : LayC M) {rp : Nat} (r3 : mR M 42 3 = some rp) (wp : RW15 M rp) {T : Nat → Nat} (hJ : JR M rp T) (hT : sumN T 9331 ≤ 1000000000000) : f_X0_likeliest M 42 = some (nI (lkS T 9331)) := by
  have hC2 := hC
  unfold LayC at hC2
  have o42 : okO M 0 42 := by simp only [hC2]
  clear hC2
  have hb : ∀ p, p < 9331 → T p ≤ 1000000000000 := fun p hp => Nat.le_trans (sumN_ge 9331 hp) hT
  have key : TT (loopO (lkC M 42) (nI (lkS T 1), nI 1)) (fun z => z = nI (lkS T 9331)) := by
    refine TT_for 9331 (fun k s => 1 ≤ k ∧ s = (nI (lkS T k), nI k)) ?_ (show 1 ≤ 9331 by omega) ⟨by omega, rfl⟩
    rintro k s hk ⟨h1, rfl⟩
    unfold lkC
    simp only
    by_cases w : k < 9331
    · have hl := lkS_lt2 T k h1
      rw [if_neg (fun q => by rw [show (9331 : Int32) = nI 9331 from rfl] at q; have := (nleI (by omega) (by omega)).mp q; omega), grd_y o42, r3, Option.bind_some, grd_y wp.2.1, wp.2.2, grd_y ((nvp (a := k) (by omega)).mpr (by omega)), Option.bind_some, grd_y wp.2.1, wp.2.2, grd_y ((nvp (a := lkS T k) (by omega)).mpr (by omega)), nclampI (a := k) (by omega), nclampI (a := lkS T k) (by omega), hJ k w, hJ (lkS T k) (by omega)]
      simp only [bv]
      rw [nsucc]
      have es : lkS T (k + 1) = if T k ≤ T (lkS T k) then lkS T k else k := rfl
      by_cases z : T k ≤ T (lkS T k)
      · rw [if_pos ((lk_cmp (hb _ w) (hb _ (by omega))).mpr z), TT_some]
        rw [if_pos z] at es
        exact ⟨w, by omega, by rw [es]⟩
      · rw [if_neg (fun q => z ((lk_cmp (hb _ w) (hb _ (by omega))).mp q)), TT_some]
        rw [if_neg z] at es
        exact ⟨w, by omega, by rw [es]⟩
    · have ek : k = 9331 := by omega
      subst ek
      rw [if_pos (by decide), TT_some]
      rfl
  obtain ⟨z, e, hz⟩ := key
  have e1 : ((0 : Int32), (1 : Int32)) = (nI (lkS T 1), nI 1) := by
    have : lkS T 1 = 0 := by have := lkS_lt2 T 1 (by omega); omega
    rw [this]
    rfl
  rw [likeliest_eq, e1, e, Option.bind_some, hz]
theorem r_likeliest {M : Mem} (hM : LayM M) {T : Nat → Nat} (hJ : JR M 74 T) (hT : sumN T 9331 ≤ 1000000000000) : loopO (lkR M 47) (0, 1) = some (nI (lkS T 9331)) := by
  have hM2 := hM
  unfold LayM at hM2
  have e44 : mR M 47 44 = some 74 := by simp only [hM2]
  have o74 : okO M 15 74 := by simp only [hM2]
  have l74 : mL M 74 = 9331 := by simp only [hM2]
  clear hM2
  have hb : ∀ p, p < 9331 → T p ≤ 1000000000000 := fun p hp => Nat.le_trans (sumN_ge 9331 hp) hT
  have key : TT (loopO (lkR M 47) (nI (lkS T 1), nI 1)) (fun z => z = nI (lkS T 9331)) := by
    refine TT_for 9331 (fun k s => 1 ≤ k ∧ s = (nI (lkS T k), nI k)) ?_ (show 1 ≤ 9331 by omega) ⟨by omega, rfl⟩
    rintro k s hk ⟨h1, rfl⟩
    unfold lkR
    simp only
    by_cases w : k < 9331
    · have hl := lkS_lt2 T k h1
      rw [if_neg (fun q => by rw [show (9331 : Int32) = nI 9331 from rfl] at q; have := (nleI (by omega) (by omega)).mp q; omega), e44, Option.bind_some, grd_y o74, l74, grd_y ((nvp (a := k) (by omega)).mpr (by omega)), Option.bind_some, grd_y o74, grd_y ((nvp (a := lkS T k) (by omega)).mpr (by omega)), nclampI (a := k) (by omega), nclampI (a := lkS T k) (by omega), hJ k w, hJ (lkS T k) (by omega)]
      simp only [bv]
      rw [nsucc]
      have es : lkS T (k + 1) = if T k ≤ T (lkS T k) then lkS T k else k := rfl
      by_cases z : T k ≤ T (lkS T k)
      · rw [if_pos ((lk_cmp (hb _ w) (hb _ (by omega))).mpr z), TT_some]
        rw [if_pos z] at es
        exact ⟨w, by omega, by rw [es]⟩
      · rw [if_neg (fun q => z ((lk_cmp (hb _ w) (hb _ (by omega))).mp q)), TT_some]
        rw [if_neg z] at es
        exact ⟨w, by omega, by rw [es]⟩
    · have ek : k = 9331 := by omega
      subst ek
      rw [if_pos (by decide), TT_some]
      rfl
  obtain ⟨z, e, hz⟩ := key
  have e1 : ((0 : Int32), (1 : Int32)) = (nI (lkS T 1), nI 1) := by
    have : lkS T 1 = 0 := by have := lkS_lt2 T 1 (by omega); omega
    rw [this]
    rfl
  rw [e1, e, hz]
theorem clikely_eq {M : Mem} {p1 p2 : Int32} : f_X11_likely M 0 p1 p2 = grd (okO M 11 0) (Option.bind (mR M 0 8) (fun r2 => Option.bind (f_X6_rankOf p1) (fun q3 => grd (okO M 0 r2) (Option.bind (f_X0_work M r2 q3 p2) (fun q7 => if q7.2 = 0 then (some (q7.1, (-1))) else (Option.bind (mR q7.1 0 8) (fun r12 => grd (okO q7.1 0 r12) (Option.bind (f_X0_likeliest q7.1 r12) (fun q14 => Option.bind (f_X6_numberOf q14) (fun q17 => some (q7.1, q17))))))))))) := rfl
theorem rlikely_eq {M : Mem} {p1 p2 : Int32} : f_X12_likely M 47 p1 p2 = Option.bind (f_X12_isDish p1) (fun q1 => if q1 = 0 then (some (M, (-1))) else (Option.bind (f_X12_lies p2 0 3) (fun q4 => if q4 = 0 then (some (M, (-1))) else (grd (okO M 12 47) (Option.bind (f_X12_parts M 47 p1 p2) (fun q8 => Option.bind (loopO (lkR q8 47) (0, 1)) (fun (x19 : Int32) => Option.bind (f_X12_dishAt x19) (fun q32 => some (q8, q32))))))))) := rfl
theorem both_likely {c : Nat} (hc6 : c < 600) {M : Mem} (h : INV0 c M) (hc : CHN M) (p1 p2 : Int32) : ∃ M1 M2 x, f_X11_likely M 0 p1 p2 = some (M1, x) ∧ f_X12_likely M1 47 p1 p2 = some (M2, x) ∧ CHQ c M M2 := by
  have hC := h.1.1
  have hC2 := hC
  unfold LayC at hC2
  have y0 : okO M 11 0 := hC2.1
  have e8 : mR M 0 8 = some 42 := by simp only [hC2]
  have o42 : okO M 0 42 := by simp only [hC2]
  clear hC2
  have no : f_X11_likely M 0 p1 p2 = some (M, -1) → f_X12_likely M 47 p1 p2 = some (M, -1) → ∃ M1 M2 x, f_X11_likely M 0 p1 p2 = some (M1, x) ∧ f_X12_likely M1 47 p1 p2 = some (M2, x) ∧ CHQ c M M2 := fun a b => ⟨M, M, -1, a, b, CHQ.same h hc⟩
  rcases dish_cases p1 with ⟨_, g1, g2⟩ | ⟨l, hl, rfl, g1, g2⟩
  · refine no ?_ ?_
    · rw [clikely_eq, grd_y y0, e8, Option.bind_some, g1, Option.bind_some, grd_y o42, work_no hC (Or.inl rfl), Option.bind_some, if_pos rfl]
    · rw [rlikely_eq, g2, Option.bind_some, if_pos rfl]
  · by_cases w : 0 ≤ p2 ∧ p2 ≤ 3
    · obtain ⟨n, hn, rfl⟩ := up_nat (n := 3) (by omega) w
      obtain ⟨M1, M2, T, rp, f1, f2, lc, lm1, lm, r3, wp, j1, j2, hT, hq⟩ := both_work hc6 h hc hl hn
      have hlt := lkS_lt2 T 9331 (by omega)
      have hat := dR_at hlt
      obtain ⟨hd1, hd2⟩ := dR_v hlt
      have hnum := num_of hd1
      rw [hd2] at hnum
      have hC3 := lc
      unfold LayC at hC3
      have e8' : mR M1 0 8 = some 42 := by simp only [hC3]
      have o42' : okO M1 0 42 := by simp only [hC3]
      clear hC3
      have o47 : okO M1 12 47 := by
        unfold LayM at lm1
        exact lm1.1
      refine ⟨M1, M2, nI (num (dR (lkS T 9331))), ?_, ?_, hq⟩
      · rw [clikely_eq, grd_y y0, e8, Option.bind_some, g1, Option.bind_some, grd_y o42, f1, Option.bind_some]
        show (if (1 : Int32) = 0 then _ else Option.bind (mR M1 0 8) _) = _
        rw [if_neg (by decide), e8', Option.bind_some, grd_y o42', c_likeliest lc r3 wp j1 hT, Option.bind_some, hnum, Option.bind_some]
      · rw [rlikely_eq, g2, Option.bind_some, if_neg (by decide), lies_bind, if_pos w, grd_y o47, f2, Option.bind_some, r_likeliest lm j2 hT, Option.bind_some, hat, Option.bind_some]
    · refine no ?_ ?_
      · rw [clikely_eq, grd_y y0, e8, Option.bind_some, g1, Option.bind_some, grd_y o42, work_no hC (Or.inr w), Option.bind_some, if_pos rfl]
      · rw [rlikely_eq, g2, Option.bind_some, if_neg (by decide), lies_bind, if_neg w]
