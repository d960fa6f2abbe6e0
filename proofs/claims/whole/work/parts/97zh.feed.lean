/-! feed() on both sides -/
def byB (x : Int32) : Nat := x.toUInt32.toNat % 256
theorem nI_u (x : Int32) : nI x.toUInt32.toNat = x := by
  apply Int32.toBitVec_inj.mp
  unfold nI
  show BitVec.ofNat 32 _ = _
  simp
theorem byB_lt (x : Int32) : byB x < 256 := Nat.mod_lt _ (by decide)
theorem byte_c (x : Int32) : x &&& 255 = nI (byB x) := by
  have h := nI_u x
  unfold byB
  generalize x.toUInt32.toNat = k at h ⊢
  rw [← h, show (255 : Int32) = nI 255 from rfl, and_n, show (255 : Nat) = 2 ^ 8 - 1 from rfl, Nat.and_two_pow_sub_one_eq_mod]
theorem byte_r (x : Int32) : vp_nar .byte (nb x) = sgB (byB x) := by
  have h := nI_u x
  have hk : x.toUInt32.toNat < 4294967296 := x.toUInt32.toNat_lt
  unfold byB
  generalize x.toUInt32.toNat = k at h hk ⊢
  have e : vp_nar .byte (nb x) = x.toInt8.toInt32 := by
    unfold nb vp_nar
    simp [narrow]
  rw [e, ← h]
  apply Int32.toInt_inj.mp
  unfold sgB nI
  simp
  rw [show Int8.size = 256 from rfl]
  have hb : ((k : Int).bmod 256) = if (k : Int) % 256 < 128 then (k : Int) % 256 else (k : Int) % 256 - 256 := by
    unfold Int.bmod
    simp
  rw [hb]
  by_cases w : k % 256 < 128
  · rw [if_pos w, if_pos (by omega)]
    have := nI_tI (n := k % 256) (by omega)
    unfold nI at this
    omega
  · rw [if_neg w, if_neg (by omega), ii_toInt ⟨by omega, by omega⟩]
noncomputable def afB (p1 : Int32) (a0 : Nat) : Mem × Int32 → Option ((Mem × Int32) ⊕ (Mem)) := (fun s5 => if s5.2 < 0 then (some (.inr s5.1)) else (Option.bind (mR s5.1 a0 0) (fun r14 => grd (okO s5.1 14 r14) (grd (vp_in (mI s5.1 a0 4) (mL s5.1 r14)) (bv (wI s5.1 r14 (mI s5.1 a0 4).toNatClampNeg ((sr p1 s5.2) &&& 255)) (fun M17 => bv (wI M17 a0 4 ((mI M17 a0 4) + 1)) (fun M21 => bv (s5.2 + (-8) : Int32) (fun x25 => some (.inl (M21, x25))))))))))
theorem addFour_eq {M : Mem} {a0 : Nat} {p1 : Int32} : f_X7_addFour M a0 p1 = grd (okO M 7 a0) (Option.bind (f_X7_hasRoomFor M a0 4) (fun q2 => if q2 = 0 then (some M) else (Option.bind (loopO (afB p1 a0) (M, 24)) (fun (x12 : Mem) => some x12)))) := rfl
/-- a byte of a number: the j-th from the left -/
def byJ (p : Int32) (j : Nat) : Nat := byB (sr p (nI (24 - 8 * j)))
def Sfd (a k : Nat) : Prop := a = 12 ∨ (a = 11 ∧ k = 4)
theorem c_addFour {M : Mem} (hC : LayC M) {n : Nat} (hn : n + 4 ≤ 400) (h4 : mI M 11 4 = nI n) (p : Int32) : TT (f_X7_addFour M 11 p) (fun M1 => Fr Sfd M M1 ∧ mI M1 11 4 = nI (n + 4) ∧ (∀ i, i < n → mI M1 12 i = mI M 12 i) ∧ ∀ j, j < 4 → mI M1 12 (n + j) = nI (byJ p j)) := by
  have hC2 := hC
  unfold LayC at hC2
  have er : f_X7_hasRoomFor M 11 4 = some 1 := by
    unfold f_X7_hasRoomFor
    simp only [hC2, grd_T]
    rw [h4, show (4 : Int32) = nI 4 from rfl, nadd, show (400 : Int32) = nI 400 from rfl, if_neg (fun q => by have := (nltI (by omega) (by omega)).mp q; omega)]
  have y0 : okO M 7 11 := by simp only [hC2]
  rw [addFour_eq, grd_y y0, er, Option.bind_some, if_neg (by decide), TT_bind]
  refine TT.mono (Q := fun M1 => Fr Sfd M M1 ∧ mI M1 11 4 = nI (n + 4) ∧ (∀ i, i < n → mI M1 12 i = mI M 12 i) ∧ ∀ j, j < 4 → mI M1 12 (n + j) = nI (byJ p j)) ?_ (fun M1 h => ⟨_, rfl, h⟩)
  refine TT_for 4 (fun k s => s.2 = ii (24 - 8 * (k : Int)) ∧ Fr Sfd M s.1 ∧ mI s.1 11 4 = nI (n + k) ∧ (∀ i, i < n → mI s.1 12 i = mI M 12 i) ∧ ∀ j, j < k → mI s.1 12 (n + j) = nI (byJ p j)) ?_ (Nat.zero_le _) ⟨rfl, Fr.rf, h4, fun _ _ => rfl, fun j hj => by omega⟩
  rintro k ⟨M1, i⟩ hk ⟨q1, q2, q3, q4, q5⟩
  simp only at q1 q2 q3 q4 q5
  subst q1
  unfold afB
  simp only
  by_cases w : k < 4
  · have es : ii (24 - 8 * (k : Int)) = nI (24 - 8 * k) := by
      rw [nI_ii]
      congr 1
      omega
    have ed : nI (24 - 8 * k) + -8 = ii (24 - 8 * ((k + 1 : Nat) : Int)) := by
      rw [nI_ii, show (-8 : Int32) = ii (-8) by decide, ii_add]
      congr 1
      omega
    have hC1 := hC.fr q2
    unfold LayC at hC1
    rw [es, if_neg (fun q => by rw [show (0 : Int32) = nI 0 from rfl] at q; have := (nltI (by omega) (by omega)).mp q; omega)]
    simp only [hC1, grd_T, Option.bind_some, bv]
    rw [q3, grd_y ((nvp (by omega)).mpr (by omega)), nclampI (by omega), mI_wI_row (by decide), q3, nsucc, ed, byte_c, TT_some]
    refine ⟨w, rfl, (q2.wI (Or.inl rfl)).wI (Or.inr ⟨rfl, rfl⟩), mI_wIs, fun i hi => ?_, fun j hj => ?_⟩
    · show mI (wI (wI M1 12 (n + k) _) 11 4 _) 12 i = _
      rw [mI_wI_row (by decide), mI_wI_ne (by omega)]
      exact q4 i hi
    · show mI (wI (wI M1 12 (n + k) _) 11 4 _) 12 (n + j) = _
      rw [mI_wI_row (by decide)]
      by_cases e : j = k
      · subst e
        rw [mI_wIs]
        rfl
      · rw [mI_wI_ne (by omega)]
        exact q5 j (by omega)
  · have ek : k = 4 := by omega
    subst ek
    rw [if_pos (by decide), TT_some]
    exact ⟨q2, q3, q4, q5⟩
def p5 (a b c d e : Int32) (q : Nat) : Int32 := if q = 0 then a else if q = 1 then b else if q = 2 then c else if q = 3 then d else e
def fdI (a b c d e : Int32) (n : Nat) (M : Mem) (k : Nat) (M1 : Mem) : Prop := Fr Sfd M M1 ∧ mI M1 11 4 = nI (n + 4 * k) ∧ (∀ i, i < n → mI M1 12 i = mI M 12 i) ∧ ∀ q j, q < k → j < 4 → mI M1 12 (n + 4 * q + j) = nI (byJ (p5 a b c d e q) j)
theorem fd_step {a b c d e : Int32} {n : Nat} {M M1 : Mem} (hC : LayC M) {k : Nat} (hk : k < 5) (hn : n + 20 ≤ 400) (h : fdI a b c d e n M k M1) : TT (f_X7_addFour M1 11 (p5 a b c d e k)) (fdI a b c d e n M (k + 1)) := by
  obtain ⟨h1, h2, h3, h4⟩ := h
  refine (c_addFour (hC.fr h1) (n := n + 4 * k) (by omega) h2 _).mono ?_
  rintro M2 ⟨q1, q2, q3, q4⟩
  refine ⟨h1.tr q1, by rw [q2, show n + 4 * k + 4 = n + 4 * (k + 1) by omega], fun i hi => by rw [q3 i (by omega)]; exact h3 i hi, fun q j hq hj => ?_⟩
  by_cases w : q = k
  · subst w
    exact q4 j hj
  · rw [q3 _ (by omega)]
    exact h4 q j (by omega) hj
theorem c_feed {M : Mem} (hC : LayC M) {n : Nat} (hn : n + 20 ≤ 400) (h4 : mI M 11 4 = nI n) (a b c d e : Int32) : TT (f_X11_feed M 0 a b c d e) (fun q => fdI a b c d e n M 5 q.1 ∧ q.2 = nI (n + 20)) := by
  have hC2 := hC
  unfold LayC at hC2
  have er : f_X7_hasRoomFor M 11 20 = some 1 := by
    unfold f_X7_hasRoomFor
    simp only [hC2, grd_T]
    rw [h4, show (20 : Int32) = nI 20 from rfl, nadd, show (400 : Int32) = nI 400 from rfl, if_neg (fun q => by have := (nltI (by omega) (by omega)).mp q; omega)]
  have f0 : fdI a b c d e n M 0 M := ⟨Fr.rf, by rw [h4]; rfl, fun _ _ => rfl, fun q j hq => by omega⟩
  unfold f_X11_feed
  simp only [hC2, grd_T, Option.bind_some]
  rw [er, Option.bind_some, if_neg (by decide), TT_bind]
  refine (fd_step hC (by omega) hn f0).mono ?_
  intro M1 f1
  have hC1 := hC.fr f1.1
  unfold LayC at hC1
  simp only [hC1, grd_T, Option.bind_some]
  rw [TT_bind]
  refine (fd_step hC (by omega) hn f1).mono ?_
  intro M2 f2
  have hC3 := hC.fr f2.1
  unfold LayC at hC3
  simp only [hC3, grd_T, Option.bind_some]
  rw [TT_bind]
  refine (fd_step hC (by omega) hn f2).mono ?_
  intro M3 f3
  have hC4 := hC.fr f3.1
  unfold LayC at hC4
  simp only [hC4, grd_T, Option.bind_some]
  rw [TT_bind]
  refine (fd_step hC (by omega) hn f3).mono ?_
  intro M4 f4
  have hC5 := hC.fr f4.1
  unfold LayC at hC5
  simp only [hC5, grd_T, Option.bind_some]
  rw [TT_bind]
  refine (fd_step hC (by omega) hn f4).mono ?_
  intro M5 f5
  have hC6 := hC.fr f5.1
  unfold LayC at hC6
  simp only [hC6, grd_T, Option.bind_some]
  rw [TT_some]
  exact ⟨f5, f5.2.1⟩
noncomputable def fdB (a0 : Nat) : Mem × Int32 → Option ((Mem × Int32) ⊕ (Mem)) := (fun s37 => if 20 ≤ s37.2 then (some (.inr s37.1)) else (Option.bind (mR s37.1 a0 15) (fun r46 => Option.bind (mR s37.1 a0 16) (fun r47 => grd (okO s37.1 14 r47) (grd (vp_in (s37.2 / 4) (mL s37.1 r47)) (grd (okO s37.1 13 r46) (grd (vp_in ((mI s37.1 a0 17) + s37.2) (mL s37.1 r46)) (bv (wI s37.1 r46 ((mI s37.1 a0 17) + s37.2).toNatClampNeg (vp_nar .byte (nb (sr (mI s37.1 r47 (s37.2 / 4).toNatClampNeg) (24 - (8 * (ir s37.2 4))))))) (fun M52 => bv (s37.2 + 1 : Int32) (fun x56 => some (.inl (M52, x56))))))))))))
theorem rfeed_eq {M : Mem} {p1 p2 p3 p4 p5 : Int32} : f_X12_feed M 47 p1 p2 p3 p4 p5 = grd (okO M 12 47) (if ((mI M 47 17) + 20) ≤ 400 then (Option.bind (mR M 47 16) (fun r2 => grd (okO M 14 r2) (grd (vp_in 0 (mL M r2)) (bv (wI M r2 (0 : Int32).toNatClampNeg p1) (fun M5 => Option.bind (mR M5 47 16) (fun r9 => grd (okO M5 14 r9) (grd (vp_in 1 (mL M5 r9)) (bv (wI M5 r9 (1 : Int32).toNatClampNeg p2) (fun M12 => Option.bind (mR M12 47 16) (fun r16 => grd (okO M12 14 r16) (grd (vp_in 2 (mL M12 r16)) (bv (wI M12 r16 (2 : Int32).toNatClampNeg p3) (fun M19 => Option.bind (mR M19 47 16) (fun r23 => grd (okO M19 14 r23) (grd (vp_in 3 (mL M19 r23)) (bv (wI M19 r23 (3 : Int32).toNatClampNeg p4) (fun M26 => Option.bind (mR M26 47 16) (fun r30 => grd (okO M26 14 r30) (grd (vp_in 4 (mL M26 r30)) (bv (wI M26 r30 (4 : Int32).toNatClampNeg p5) (fun M33 => Option.bind (loopO (fdB 47) (M33, 0)) (fun (x44 : Mem) => bv (wI x44 47 17 ((mI x44 47 17) + 20)) (fun M58 => some (M58, mI M58 47 17)))))))))))))))))))))))) else (some (M, (-1)))) := rfl
def Sfr (a k : Nat) : Prop := a = 56 ∨ a = 57 ∨ (a = 47 ∧ k = 17)
noncomputable def M57 (M : Mem) (a b c d e : Int32) : Mem := wI (wI (wI (wI (wI M 57 0 a) 57 1 b) 57 2 c) 57 3 d) 57 4 e
theorem M57_fr {M : Mem} {a b c d e : Int32} : Fr Sfr M (M57 M a b c d e) := by
  unfold M57
  exact ((((Fr.rf.wI (show Sfr 57 0 by unfold Sfr; omega)).wI (show Sfr 57 1 by unfold Sfr; omega)).wI (show Sfr 57 2 by unfold Sfr; omega)).wI (show Sfr 57 3 by unfold Sfr; omega)).wI (show Sfr 57 4 by unfold Sfr; omega)
theorem M57_at {M : Mem} {a b c d e : Int32} {q : Nat} (hq : q < 5) : mI (M57 M a b c d e) 57 q = p5 a b c d e q := by
  unfold M57 p5
  have hc : q = 0 ∨ q = 1 ∨ q = 2 ∨ q = 3 ∨ q = 4 := by omega
  rcases hc with rfl | rfl | rfl | rfl | rfl <;> simp [mI_wI]
theorem M57_o {M : Mem} {a b c d e : Int32} (x k : Nat) (hx : x ≠ 57) : mI (M57 M a b c d e) x k = mI M x k := by
  unfold M57
  rw [mI_wI_row hx, mI_wI_row hx, mI_wI_row hx, mI_wI_row hx, mI_wI_row hx]
theorem r_feed {M : Mem} (hM : LayM M) {n : Nat} (hn : n + 20 ≤ 400) (h17 : mI M 47 17 = nI n) (a b c d e : Int32) : TT (f_X12_feed M 47 a b c d e) (fun x => Fr Sfr M x.1 ∧ mI x.1 47 17 = nI (n + 20) ∧ (∀ i, i < n → mI x.1 56 i = mI M 56 i) ∧ (∀ i, i < 20 → mI x.1 56 (n + i) = sgB (byJ (p5 a b c d e (i / 4)) (i % 4))) ∧ x.2 = nI (n + 20)) := by
  have hM2 := hM
  unfold LayM at hM2
  have v0 : vp_in 0 5 := show vp_in (nI 0) 5 from (nvp (by omega)).mpr (by omega)
  have v1 : vp_in 1 5 := show vp_in (nI 1) 5 from (nvp (by omega)).mpr (by omega)
  have v2 : vp_in 2 5 := show vp_in (nI 2) 5 from (nvp (by omega)).mpr (by omega)
  have v3 : vp_in 3 5 := show vp_in (nI 3) 5 from (nvp (by omega)).mpr (by omega)
  have v4 : vp_in 4 5 := show vp_in (nI 4) 5 from (nvp (by omega)).mpr (by omega)
  have c0 : (0 : Int32).toNatClampNeg = 0 := by decide
  have c1 : (1 : Int32).toNatClampNeg = 1 := by decide
  have c2 : (2 : Int32).toNatClampNeg = 2 := by decide
  have c3 : (3 : Int32).toNatClampNeg = 3 := by decide
  have c4 : (4 : Int32).toNatClampNeg = 4 := by decide
  have e20 : mI M 47 17 + 20 ≤ 400 := by
    rw [h17, show (20 : Int32) = nI 20 from rfl, nadd, show (400 : Int32) = nI 400 from rfl, nleI (by omega) (by omega)]
    exact hn
  have start : f_X12_feed M 47 a b c d e = Option.bind (loopO (fdB 47) (M57 M a b c d e, nI 0)) (fun (x44 : Mem) => some (wI x44 47 17 ((mI x44 47 17) + 20), mI (wI x44 47 17 ((mI x44 47 17) + 20)) 47 17)) := by
    rw [rfeed_eq]
    simp only [hM2, grd_T, Option.bind_some, bv, mR_wI, ok_wI, mL_wI, c0, c1, c2, c3, c4]
    rw [if_pos e20, grd_y v0, grd_y v1, grd_y v2, grd_y v3, grd_y v4]
    rfl
  rw [start, TT_bind]
  refine TT.mono (Q := fun x => Fr Sfr M x ∧ mI x 47 17 = nI n ∧ (∀ i, i < n → mI x 56 i = mI M 56 i) ∧ ∀ i, i < 20 → mI x 56 (n + i) = sgB (byJ (p5 a b c d e (i / 4)) (i % 4))) ?_ ?_
  · refine TT_for 20 (fun k s => s.2 = nI k ∧ Fr Sfr M s.1 ∧ mI s.1 47 17 = nI n ∧ (∀ q, q < 5 → mI s.1 57 q = p5 a b c d e q) ∧ (∀ i, i < n → mI s.1 56 i = mI M 56 i) ∧ ∀ i, i < k → mI s.1 56 (n + i) = sgB (byJ (p5 a b c d e (i / 4)) (i % 4))) ?_ (Nat.zero_le _) ⟨rfl, M57_fr, by rw [M57_o 47 17 (by decide)]; exact h17, fun q hq => M57_at hq, fun i _ => M57_o 56 i (by decide), fun i hi => by omega⟩
    rintro k ⟨M1, i⟩ hk ⟨q1, q2, q3, q4, q5, q6⟩
    simp only at q1 q2 q3 q4 q5 q6
    subst q1
    unfold fdB
    simp only
    by_cases w : k < 20
    · have hM1 := hM.fr q2
      unfold LayM at hM1
      rw [if_neg (fun q => by rw [show (20 : Int32) = nI 20 from rfl] at q; have := (nleI (by omega) (by omega)).mp q; omega)]
      simp only [hM1, grd_T, Option.bind_some, bv]
      rw [show (4 : Int32) = nI 4 from rfl, ndiv (by omega) (by omega) (by omega), nrem (by omega) (by omega) (by omega), grd_y ((nvp (a := k / 4) (by omega)).mpr (by omega)), q3, nadd, grd_y ((nvp (a := n + k) (by omega)).mpr (by omega)), nclampI (a := k / 4) (by omega), nclampI (a := n + k) (by omega), q4 (k / 4) (by omega), byte_r, nsucc, show (8 : Int32) = nI 8 from rfl, nmul, show (24 : Int32) = nI 24 from rfl, nsub (by omega), TT_some]
      refine ⟨w, rfl, q2.wI (Or.inl rfl), ?_, fun q hq => ?_, fun i hi => ?_, fun i hi => ?_⟩
      · show mI (wI M1 56 (n + k) _) 47 17 = _
        rw [mI_wI_row (by decide)]
        exact q3
      · show mI (wI M1 56 (n + k) _) 57 q = _
        rw [mI_wI_row (by decide)]
        exact q4 q hq
      · show mI (wI M1 56 (n + k) _) 56 i = _
        rw [mI_wI_ne (by omega)]
        exact q5 i hi
      · show mI (wI M1 56 (n + k) _) 56 (n + i) = _
        by_cases z : i = k
        · subst z
          rw [mI_wIs]
          rfl
        · rw [mI_wI_ne (by omega)]
          exact q6 i (by omega)
    · have ek : k = 20 := by omega
      subst ek
      rw [if_pos (by decide), TT_some]
      exact ⟨q2, q3, q5, q6⟩
  · rintro M1 ⟨q1, q2, q3, q4⟩
    rw [TT_some, mI_wIs, q2, show (20 : Int32) = nI 20 from rfl, nadd]
    refine ⟨q1.wI (Or.inr (Or.inr ⟨rfl, rfl⟩)), rfl, fun i hi => ?_, fun i hi => ?_, rfl⟩
    · rw [mI_wI_row (by decide)]
      exact q3 i hi
    · rw [mI_wI_row (by decide)]
      exact q4 i hi
theorem both_feed {c : Nat} (hc : c < 600) {M : Mem} (h : INV0 c M) (a b c' d e : Int32) : CALL c M (fun M => f_X11_feed M 0 a b c' d e) (fun M => f_X12_feed M 47 a b c' d e) := by
  obtain ⟨n, bt, t1, t2, t3, t4⟩ := h.2.2.1
  have hC := h.1.1
  have hM := h.1.2.1
  by_cases w : n + 20 ≤ 400
  · obtain ⟨⟨M1, x⟩, f1, ⟨a1, a2, a3, a4⟩, a5⟩ := c_feed hC w t2 a b c' d e
    simp only at a1 a2 a3 a4 a5
    obtain ⟨⟨M2, x2⟩, f2, b1', b2, b3, b4, b5⟩ := r_feed (hM.fr a1) w (by rw [a1.i (by unfold Sfd; omega)]; exact t3) a b c' d e
    simp only at b1' b2 b3 b4 b5
    rw [← a5] at b5
    subst b5
    refine ⟨M1, M2, x2, f1, f2, ?_⟩
    have hF : Fr (fun a k => Sfd a k ∨ Sfr a k) M M2 := (a1.up (fun _ _ w => Or.inl w)).tr (b1'.up (fun _ _ w => Or.inr w))
    have ex : ∀ a k, ¬ (a = 12 ∨ (a = 11 ∧ k = 4)) → ¬ (a = 56 ∨ a = 57 ∨ (a = 47 ∧ k = 17)) → mI M2 a k = mI M a k := fun a k w1 w2 => hF.i (fun q => q.elim w1 w2)
    have hW : Fw (fun a k => Sfd a k ∨ Sfr a k) (fun _ _ => False) M M2 := hF.fw
    have hx : ∀ a k, Sfd a k ∨ Sfr a k → a < 78 ∧ ¬ (1 ≤ a ∧ a ≤ 10) ∧ ¬ (13 ≤ a ∧ a ≤ 46) ∧ a ≠ 0 ∧ ¬ (48 ≤ a ∧ a ≤ 55) ∧ ¬ (58 ≤ a) ∧ ¬ (a = 47 ∧ k ≠ 17) := fun a k w => by unfold Sfd Sfr at w; omega
    have e49 : mI M2 49 = mI M 49 := funext (fun k => ex 49 k (by omega) (by omega))
    have z0 : ∀ x : Int32, x = x + nI 0 := fun x => (Int32.add_zero x).symm
    have hq : QST M M2 := ⟨0, 0, 0, by omega, by omega, by omega, by rw [ex 1 13 (by omega) (by omega)]; exact z0 _, by rw [ex 1 14 (by omega) (by omega)]; exact z0 _, by rw [ex 47 1 (by omega) (by omega)]; exact z0 _, by rw [e49]; exact fun _ => AGK.rf, by rw [e49]; exact fun _ => ⟨AGK.rf, YHK.rf⟩, by rw [e49]; exact fun _ => ⟨AGK.rf, rfl⟩⟩
    obtain ⟨m1, m2⟩ := h.mid.1.fr hF (fun a k w => by have := hx a k w; unfold Frl; omega)
    have hR2 : REL M2 := ⟨m1.1.1, m1.1.2.1, m1.1.2.2.1, m1.1.2.2.2.1, by rw [ex 0 12 (by omega) (by omega), ex 47 0 (by omega) (by omega)]; exact h.1.2.2.2.2.1, fun m hm => by rw [ex 45 _ (by omega) (by omega), ex 48 _ (by omega) (by omega)]; exact h.1.2.2.2.2.2 m hm⟩
    obtain ⟨p1, p2, p3, k, p4, p5', p6, p7⟩ := h.2.2.2.2.2.1
    have hht : ∀ a k, Sfd a k ∨ Sfr a k → ¬ HT M a := fun a k w q => by have := q.1; have := hx a k w; omega
    refine ⟨INV0.step hc h hR2 hq hW (by have := hF.1; omega) (fun a k w => by have h1 := hx a k w; exact ⟨by omega, by omega, by omega, by omega, by omega, hht a k w⟩) (fun _ _ w => w.elim) ⟨n + 20, fun i => if i < n then bt i else byJ (p5 a b c' d e ((i - n) / 4)) ((i - n) % 4), w, ?_, b2, fun i hi => ?_⟩ ⟨by rw [ex 0 13 (by omega) (by omega), ex 47 12 (by omega) (by omega)]; exact p1, by rw [ex 0 14 (by omega) (by omega), ex 47 18 (by omega) (by omega)]; exact p2, by rw [ex 0 15 (by omega) (by omega), ex 47 46 (by omega) (by omega)]; exact p3, k, p4, by rw [ex 0 11 (by omega) (by omega)]; exact p5', by rw [ex 47 57 (by omega) (by omega)]; exact p6, fun i hi => by rw [ex 46 i (by omega) (by omega), ex 77 i (by omega) (by omega)]; exact p7 i hi⟩ m1.2.2, hW.up (fun a k w => Or.inl (by have := hx a k w; omega)) (fun _ _ w => w.elim), by have := hF.1; omega, by have := hF.2.1; omega, hq⟩
    · rw [b1'.i (by unfold Sfr; omega), a2]
    · simp only
      have e12 : mI M2 12 i = mI M1 12 i := b1'.i (by unfold Sfr; omega)
      have e56 : ∀ k, mI M1 56 k = mI M 56 k := fun k => a1.i (by unfold Sfd; omega)
      by_cases z : i < n
      · rw [if_pos z, e12, a3 i z, b3 i z, e56]
        exact t4 i z
      · rw [if_neg z]
        have ei : i = n + 4 * ((i - n) / 4) + (i - n) % 4 := by omega
        have ej : i = n + (i - n) := by omega
        refine ⟨byB_lt _, ?_, ?_⟩
        · rw [e12]
          have := a4 ((i - n) / 4) ((i - n) % 4) (by omega) (by omega)
          rw [← ei] at this
          exact this
        · have := b4 (i - n) (by omega)
          rw [← ej] at this
          exact this
  · refine CALL.same h (x := -1) ?_ ?_
    · have hC2 := hC
      unfold LayC at hC2
      have er : f_X7_hasRoomFor M 11 20 = some 0 := by
        unfold f_X7_hasRoomFor
        simp only [hC2, grd_T]
        rw [t2, show (20 : Int32) = nI 20 from rfl, nadd, show (400 : Int32) = nI 400 from rfl, if_pos ((nltI (by omega) (by omega)).mpr (by omega))]
      show f_X11_feed M 0 a b c' d e = _
      unfold f_X11_feed
      simp only [hC2, grd_T, Option.bind_some]
      rw [er, Option.bind_some, if_pos rfl]
    · have hM2 := hM
      unfold LayM at hM2
      show f_X12_feed M 47 a b c' d e = _
      rw [rfeed_eq, grd_y hM2.1, if_neg (fun q => by
        rw [t3, show (20 : Int32) = nI 20 from rfl, nadd, show (400 : Int32) = nI 400 from rfl, nleI (by omega) (by omega)] at q
        exact w q)]
