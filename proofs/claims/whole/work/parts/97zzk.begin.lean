/-! a table begins -/
theorem c_fillS {M : Mem} {r : Nat} (h : okO M 16 r) (hL : mL M r = 9331) : TT (f_J7_fill_fb410 M r (-1)) (fun M1 => Fr (fun a _ => a = r) M M1 ∧ ∀ k, k < 9331 → mI M1 r k = -1) := by
  unfold f_J7_fill_fb410
  rw [grd_y h, TT_bv, hL, TT_bind]
  refine (TT_for 9331 (fun k s => ∃ M', s = (M', nI k) ∧ Fr (fun a _ => a = r) M M' ∧ ∀ j, j < k → mI M' r j = -1) (Q := fun M1 => Fr (fun a _ => a = r) M M1 ∧ ∀ k, k < 9331 → mI M1 r k = -1) ?_ (Nat.zero_le _) ⟨M, rfl, Fr.rf, fun j hj => by omega⟩).mono (fun x hx => TT_some.mpr hx)
  rintro k s hk ⟨M', rfl, hF, hv⟩
  simp only
  by_cases w : k = 9331
  · rw [if_pos ((nleI (by omega) (by omega)).mpr (by omega)), TT_some]
    subst w
    exact ⟨hF, hv⟩
  · rw [if_neg (fun q => w (by have := (nleI (by omega) (by omega)).mp q; omega)), hF.2.2.2.1, hL, grd_y ((nvp (by omega)).mpr (by omega)), TT_bv, TT_bv, TT_some, nclampI (by omega), nar_ns, ns_m]
    refine ⟨by omega, _, by rw [nsucc], hF.wI rfl, fun j hj => ?_⟩
    rw [mI_wI]
    by_cases q : j = k
    · rw [if_pos ⟨rfl, q⟩]
    · rw [if_neg (fun z => q z.2)]
      exact hv j (by omega)
noncomputable def bg0 (a0 : Nat) : Mem × Int32 → Option ((Mem × Int32) ⊕ (Mem)) := (fun s20 => if 6 ≤ s20.2 then (some (.inr s20.1)) else (Option.bind (mR s20.1 a0 0) (fun r29 => grd (okO s20.1 10 r29) (Option.bind (mR s20.1 r29 2) (fun r31 => grd (okO s20.1 14 r31) (grd (vp_in s20.2 (mL s20.1 r31)) (bv (fun (s35 : Int32) => bv (wI s20.1 a0 10 ((mI s20.1 a0 10) ||| s35)) (fun M38 => bv (s20.2 + 1 : Int32) (fun x42 => some (.inl (M38, x42))))) (fun j34 => if (mI s20.1 r31 s20.2.toNatClampNeg) = (-1) then (j34 0) else (Option.bind (mR s20.1 a0 0) (fun r43 => grd (okO s20.1 10 r43) (Option.bind (mR s20.1 r43 2) (fun r45 => grd (okO s20.1 14 r45) (grd (vp_in s20.2 (mL s20.1 r45)) (j34 (sl 1 (mI s20.1 r45 s20.2.toNatClampNeg))))))))))))))))
theorem begin_eq {M : Mem} {a0 : Nat} {p1 p2 : Int32} : f_X2_begin M a0 p1 p2 = grd (okO M 2 a0) (bv (wI M a0 7 p1) (fun M2 => bv (wI M2 a0 8 p2) (fun M6 => Option.bind (mR M6 a0 0) (fun r10 => grd (okO M6 10 r10) (bv (wI M6 a0 9 (mI M6 r10 13)) (fun M12 => bv (wI M12 a0 10 0) (fun M16 => Option.bind (loopO (bg0 a0) (M16, 0)) (fun (x27 : Mem) => Option.bind (mR x27 a0 2) (fun r49 => Option.bind (f_J7_fill_fb410 x27 r49 (-1)) (fun q50 => bv (wI q50 a0 4 0) (fun M55 => bv (wI M55 a0 5 0) (fun M59 => bv (wI M59 a0 6 0) (fun M63 => Option.bind (f_X2_note M63 a0 p1) (fun q67 => some q67)))))))))))))) := rfl
theorem c_bg0 {M : Mem} {d : Nat} (h : MID M) (hT : TB M d) (h0 : mI M d 10 = nI 0) : TT (loopO (bg0 d) (M, 0)) (fun M1 => Fr (fun a k => a = d ∧ k = 10) M M1 ∧ STB (mI M 49) (mI M1 d 10)) := by
  obtain ⟨t1, t2, t3, t4, t5, t6, t7, t8, t9, t10⟩ := id hT
  obtain ⟨o1, o2, o3, o4⟩ := okLV h
  have hsd := h.gs.2.1
  refine TT_for 6 (fun k s => ∃ M' st, s = (M', nI k) ∧ Fr (fun a k => a = d ∧ k = 10) M M' ∧ mI M' d 10 = nI st ∧ st < 64 ∧ ∀ u, u < 6 → (st.testBit u = true ↔ ∃ t, t < k ∧ sdK (mI M 49) t = some u)) ?_ (Nat.zero_le _) ⟨M, 0, rfl, Fr.rf, h0, by omega, fun u hu => ⟨fun q => by simp at q, fun ⟨t, ht, _⟩ => by omega⟩⟩
  rintro k s hk6 ⟨M', st, rfl, hF, hst, h64, hb⟩
  have c6 := c6k hk6
  unfold bg0
  simp only
  by_cases w : k = 6
  · rw [if_pos (c6.mpr w), TT_some]
    refine ⟨hF, st, hst, h64, fun u hu => ?_⟩
    rw [hb u hu, w]
  · have hlt : k < 6 := by omega
    have ek : mI M' 4 k = oI (sdK (mI M 49) k) := by
      rw [hF.i (by omega)]
      exact (hsd k hlt).1
    rw [if_neg (fun q => w (c6.mp q)), hF.2.2.2.2.1, t3, Option.bind_some, grd_y (okO_fr hF o1), o2, Option.bind_some, grd_y (okO_fr hF o3), hF.2.2.2.1, o4, grd_y ((nvp (by omega)).mpr hlt), nclampI (by omega), ek, hst, TT_bv]
    have fin : ∀ v : Nat, v < 64 → (∀ u, u < 6 → ((st ||| v).testBit u = true ↔ ∃ t, t < k + 1 ∧ sdK (mI M 49) t = some u)) → ∀ x : Int32, x = nI v → TT (some (Sum.inl (wI M' d 10 (nI st ||| x), nI k + 1)) : Option ((Mem × Int32) ⊕ Mem)) (fun r => r.elim (fun s' => k < 6 ∧ ∃ M'' st, s' = (M'', nI (k + 1)) ∧ Fr (fun a k => a = d ∧ k = 10) M M'' ∧ mI M'' d 10 = nI st ∧ st < 64 ∧ ∀ u, u < 6 → (st.testBit u = true ↔ ∃ t, t < k + 1 ∧ sdK (mI M 49) t = some u)) (fun M1 => Fr (fun a k => a = d ∧ k = 10) M M1 ∧ STB (mI M 49) (mI M1 d 10))) := fun v hv hq x hx => by
      rw [TT_some]
      refine ⟨hlt, _, st ||| v, by rw [nsucc], hF.wI ⟨rfl, rfl⟩, ?_, Nat.or_lt_two_pow (n := 6) h64 hv, hq⟩
      rw [mI_wIs, hx, or_n]
    cases hs : sdK (mI M 49) k with
    | none =>
      rw [if_pos (show oI none = -1 from rfl)]
      refine fin 0 (by omega) (fun u hu => ?_) 0 rfl
      rw [Nat.or_zero, hb u hu]
      constructor
      · rintro ⟨t, ht, q⟩
        exact ⟨t, by omega, q⟩
      · rintro ⟨t, ht, q⟩
        refine ⟨t, ?_, q⟩
        refine Nat.lt_of_le_of_ne (by omega) (fun z => ?_)
        subst z
        rw [hs] at q
        cases q
    | some u0 =>
      have hu0 := (hsd k hlt).2 u0 hs
      rw [if_neg (show ¬ oI (some u0) = -1 from neg1_nI (by omega)), Option.bind_some, grd_y (okO_fr hF o1), o2, Option.bind_some, grd_y (okO_fr hF o3), o4, grd_y ((nvp (by omega)).mpr hlt), ek, hs]
      have e1 : sl 1 (oI (some u0)) = nI (2 ^ u0) := by
        show sl (nI 1) (nI u0) = _
        rw [sl_n (by omega), Nat.one_mul]
      refine fin (2 ^ u0) ?_ (fun u hu => ?_) _ e1
      · have : 2 ^ u0 ≤ 2 ^ 5 := Nat.pow_le_pow_right (by omega) (by omega)
        omega
      · rw [Nat.testBit_or, Bool.or_eq_true, hb u hu, Nat.testBit_two_pow]
        constructor
        · rintro (⟨t, ht, q⟩ | q)
          · exact ⟨t, by omega, q⟩
          · have : u0 = u := by simpa using q
            subst this
            exact ⟨k, by omega, hs⟩
        · rintro ⟨t, ht, q⟩
          by_cases z : t = k
          · subst z
            rw [hs] at q
            cases q
            right
            simp
          · exact Or.inl ⟨t, by omega, q⟩
theorem c_begin {B y g d : Nat} {M : Mem} (h : MID M) (hO : OPN B y M) (hT : TB M d) (hg : g < 9331) : TT (f_X2_begin M d (nI g) (nI y)) (fun M1 => TBS (mI M 49) B y g d 0 M1 [g] (fun p => if p = g then some 0 else none) ∧ Fr (Std d) M M1 ∧ mI M1 d 7 = nI g ∧ mI M1 d 8 = nI y ∧ mI M1 d 9 = mI M 1 13) := by
  obtain ⟨t1, t2, t3, t4, t5, t6, t7, t8, t9, t10⟩ := id hT
  rw [begin_eq, grd_y t2, TT_bv, TT_bv, mR_wI, mR_wI, t3, Option.bind_some, ok_wI, ok_wI, grd_y (okLV h).1, TT_bv, TT_bv]
  have e13 : mI (wI (wI M d 7 (nI g)) d 8 (nI y)) 1 13 = mI M 1 13 := by
    rw [mI_wI_row (by omega), mI_wI_row (by omega)]
  rw [e13]
  generalize mI M 1 13 = v9
  have fr : Fr (fun a k => a = d ∧ 7 ≤ k) M (wI (wI (wI (wI M d 7 (nI g)) d 8 (nI y)) d 9 v9) d 10 0) := (((Fr.rf.wI ⟨rfl, by omega⟩).wI ⟨rfl, by omega⟩).wI ⟨rfl, by omega⟩).wI ⟨rfl, by omega⟩
  have e7 : mI (wI (wI (wI (wI M d 7 (nI g)) d 8 (nI y)) d 9 v9) d 10 0) d 7 = nI g := by rw [mI_wI_ne (by omega), mI_wI_ne (by omega), mI_wI_ne (by omega), mI_wIs]
  have e8 : mI (wI (wI (wI (wI M d 7 (nI g)) d 8 (nI y)) d 9 v9) d 10 0) d 8 = nI y := by rw [mI_wI_ne (by omega), mI_wI_ne (by omega), mI_wIs]
  have e9 : mI (wI (wI (wI (wI M d 7 (nI g)) d 8 (nI y)) d 9 v9) d 10 0) d 9 = v9 := by rw [mI_wI_ne (by omega), mI_wIs]
  have e10 : mI (wI (wI (wI (wI M d 7 (nI g)) d 8 (nI y)) d 9 v9) d 10 0) d 10 = nI 0 := mI_wIs
  generalize wI (wI (wI (wI M d 7 (nI g)) d 8 (nI y)) d 9 v9) d 10 0 = M1 at fr e7 e8 e9 e10 ⊢
  have fs : Fr (Std d) M M1 := fr.up (fun a k w => Or.inl w.1)
  obtain ⟨n1, k1⟩ := h.st hT fs
  have hT1 := hT.fr fs
  rw [TT_bind]
  refine (c_bg0 n1 hT1 e10).mono ?_
  rintro M2 ⟨f2, s2⟩
  have hT2 := hT1.fr f2
  obtain ⟨a1, a2, a3, a4, a5, a6, a7, a8, a9, a10⟩ := id hT2
  rw [a5, Option.bind_some, TT_bind]
  refine (c_fillS a7 a8).mono ?_
  rintro M3 ⟨f3, v3⟩
  have hT3 := hT2.fr f3
  rw [TT_bv, TT_bv, TT_bv]
  have fr4 : Fr (fun a k => a = d ∧ (k = 4 ∨ k = 5 ∨ k = 6)) M3 (wI (wI (wI M3 d 4 0) d 5 0) d 6 0) := ((Fr.rf.wI ⟨rfl, by omega⟩).wI ⟨rfl, by omega⟩).wI ⟨rfl, by omega⟩
  have g4 : mI (wI (wI (wI M3 d 4 0) d 5 0) d 6 0) d 4 = nI 0 := by rw [mI_wI_ne (by omega), mI_wI_ne (by omega), mI_wIs]; rfl
  have g5 : mI (wI (wI (wI M3 d 4 0) d 5 0) d 6 0) d 5 = nI 0 := by rw [mI_wI_ne (by omega), mI_wIs]; rfl
  have g6 : mI (wI (wI (wI M3 d 4 0) d 5 0) d 6 0) d 6 = nI 0 := mI_wIs
  generalize wI (wI (wI M3 d 4 0) d 5 0) d 6 0 = M4 at fr4 g4 g5 g6 ⊢
  have hT4 := hT3.fr fr4
  rw [c_note hT4 hg (by omega) g5 g6 (by omega), Option.bind_some, TT_some]
  have f5 := NTM_fr (M := M4) (d := d) (r := g) (n := 0) (x := nI 0)
  obtain ⟨v1, v2, v3'⟩ := NTM_v (M := M4) (d := d) (r := g) (n := 0) (x := nI 0)
  generalize NTM M4 d g (nI 0) 0 = M5 at f5 v1 v2 v3' ⊢
  have i25 : ∀ k, 7 ≤ k → mI M5 d k = mI M2 d k := fun k hk => by
    rw [f5.i (by omega), fr4.i (by omega), f3.i (by omega)]
  have i15 : ∀ k, 7 ≤ k → k ≠ 10 → mI M5 d k = mI M1 d k := fun k hk hk2 => by
    rw [i25 k hk, f2.i (by omega)]
  have fAll : Fr (Std d) M M5 := (((fs.tr (f2.up (fun a k w => Or.inl w.1))).tr (f3.up (fun a k w => Or.inr (Or.inl w)))).tr (fr4.up (fun a k w => Or.inl w.1))).tr (f5.up (fun a k w => by unfold Std; omega))
  obtain ⟨n5, k5⟩ := h.st hT fAll
  refine ⟨⟨n5, hO.st h.2.1 hT fAll, k5, hT.fr fAll, ?_, ?_, ⟨v1, fun p hp => ?_, fun i p hi => ?_, fun p hp => ?_⟩, BFS.start (if_pos rfl) (fun p hp => if_neg hp)⟩, fAll, by rw [i15 7 (by omega) (by omega)]; exact e7, by rw [i15 8 (by omega) (by omega)]; exact e8, by rw [i15 9 (by omega) (by omega)]; exact e9⟩
  · rw [f5.i (by omega)]
    exact g4
  · rw [i25 10 (by omega), ← k1]
    exact s2
  · show mI M5 (d + 1) p = oI (if p = g then some 0 else none)
    rw [v2 p]
    by_cases w : p = g
    · rw [if_pos w, if_pos w]
      rfl
    · rw [if_neg w, if_neg w, fr4.i (by omega)]
      exact v3 p hp
  · have : i = 0 := by
      have := (List.getElem?_eq_some_iff.mp hi).1
      simp at this
      exact this
    subst this
    rw [v3' 0, if_pos rfl]
    simp at hi
    rw [hi]
  · rw [List.mem_singleton] at hp
    omega
