/-! a table spreads -/
def Sdp (d a k : Nat) : Prop := Ssc a k ∨ (a = d ∧ (k = 4 ∨ k = 5 ∨ k = 6)) ∨ a = d + 1 ∨ a = d + 2
def TBS (K : Nat → Int32) (B y goal d kk : Nat) (M : Mem) (Q : List Nat) (D : Nat → Option Nat) : Prop := MID M ∧ OPN B y M ∧ mI M 49 = K ∧ TB M d ∧ mI M d 4 = nI kk ∧ STB K (mI M d 10) ∧ TC M d Q D ∧ BFS (rdjK K y) goal Q kk D
noncomputable def spR (a0 : Nat) (x25 q38 s47 : Int32) (t : Int32) (M33 : Mem) : Option ((Mem × Int32) ⊕ (Mem ⊕ Mem)) := Option.bind (f_X2_undoInAndDouble M33 a0 x25 q38 s47) (fun q50 => Option.bind (f_X2_undoSwap q50 a0 x25 q38 s47) (fun q55 => bv (fun (s61 : Mem) => bv (fun (s66 : Mem) => bv (t + 1 : Int32) (fun x70 => some (.inl (s66, x70)))) (fun j65 => if (mI s61 a0 10) = 0 then (j65 s61) else (Option.bind (f_X2_undoStand s61 a0 x25 q38 s47) (fun q71 => j65 q71)))) (fun j60 => if 5 ≤ q38 then (j60 q55) else (Option.bind (f_X2_undoOut q55 a0 x25 q38 s47) (fun q76 => j60 q76)))))
noncomputable def sp1 (a0 : Nat) (s5 : Mem × Int32) : Option ((Mem × Int32) ⊕ (Mem ⊕ Mem)) := Option.bind (mR s5.1 a0 3) (fun r22 => grd (okO s5.1 16 r22) (grd (vp_in (mI s5.1 a0 4) (mL s5.1 r22)) (bv (mI s5.1 r22 (mI s5.1 a0 4).toNatClampNeg : Int32) (fun x25 => bv (wI s5.1 a0 4 ((mI s5.1 a0 4) + 1)) (fun M26 => Option.bind (mR M26 a0 2) (fun r30 => grd (okO M26 16 r30) (grd (vp_in x25 (mL M26 r30)) (grd (psh (ns ((mI M26 r30 x25.toNatClampNeg) + 1))) (bv (wI M26 a0 6 (ns ((mI M26 r30 x25.toNatClampNeg) + 1))) (fun M33 => Option.bind (f_X6_lengthOf x25) (fun q38 => Option.bind (mR M33 a0 1) (fun r41 => grd (okO M33 8 r41) (Option.bind (f_X8_isFree M33 r41) (fun q43 => bv (fun (s47 : Int32) => spR a0 x25 q38 s47 s5.2 M33) (fun j46 => if q43 = 0 then (Option.bind (f_X6_tasteOf x25) (fun q81 => j46 q81)) else (j46 0))))))))))))))))
noncomputable def sp0 (a0 : Nat) (p2 s2 : Int32) : Mem × Int32 → Option ((Mem × Int32) ⊕ (Mem ⊕ Mem)) := (fun s5 => if p2 ≤ s5.2 then (some (.inr (.inl s5.1))) else (grd (okO s5.1 2 a0) (if (mI s5.1 a0 5) ≤ (mI s5.1 a0 4) then (some (.inr (.inl s5.1))) else (if 9331 ≤ (mI s5.1 a0 4) then (some (.inr (.inl s5.1))) else (bv (fun (s19 : Unit) => sp1 a0 s5) (fun j18 => if s2 = (-1) then (j18 ()) else (Option.bind (mR s5.1 a0 2) (fun r84 => grd (okO s5.1 16 r84) (grd (vp_in s2 (mL s5.1 r84)) (if (mI s5.1 r84 s2.toNatClampNeg) = (-1) then (j18 ()) else (some (.inr (.inr s5.1)))))))))))))
theorem spread_eq {M : Mem} {a0 : Nat} {p1 p2 : Int32} : f_X2_spread M a0 p1 p2 = bv (fun (s2 : Int32) => Option.bind (loopO (sp0 a0 p2 s2) (M, 0)) (Sum.elim (fun (x13 : Mem) => some x13) (fun (x15 : Mem) => some x15))) (fun j1 => bv (fun (s88 : Unit) => j1 (-1)) (fun j87 => if p1 < 0 then (j87 ()) else (if 9331 ≤ p1 then (j87 ()) else (j1 p1)))) := rfl
theorem spread_n {M : Mem} {a0 : Nat} {p2 : Int32} : f_X2_spread M a0 (-1) p2 = Option.bind (loopO (sp0 a0 p2 (-1)) (M, 0)) (Sum.elim (fun (x13 : Mem) => some x13) (fun (x15 : Mem) => some x15)) := by
  rw [spread_eq]
  simp only [bv]
  rw [if_pos (by decide)]
theorem spread_y {M : Mem} {a0 : Nat} {p2 : Int32} {r : Nat} (hr : r < 9331) : f_X2_spread M a0 (nI r) p2 = Option.bind (loopO (sp0 a0 p2 (nI r)) (M, 0)) (Sum.elim (fun (x13 : Mem) => some x13) (fun (x15 : Mem) => some x15)) := by
  rw [spread_eq]
  simp only [bv]
  rw [if_neg (ltz (by omega)), if_neg (by rw [show (9331 : Int32) = nI 9331 from rfl, nleI (by omega) (by omega)]; omega)]
theorem c_spR {K : Nat → Int32} {B y goal d kk e : Nat} {M : Mem} {l : List Nat} (hl : DL l) (h : UST K B y goal d kk (rank l) e M M) (hB : B < 16777216) (hk : KTH K) (hS : STB K (mI M d 10)) {p3 t : Int32} (hp3 : TSQ M p3 l) : TT (spR d (nI (rank l)) (nI l.length) p3 t M) (fun r => ∃ M1, r = Sum.inl (M1, t + 1) ∧ USG K B y goal d kk (rank l) e M M M1 ∧ ∀ l', DL l' → adjK K y (rank l') (rank l) → mI M1 (d + 1) (rank l') ≠ -1) := by
  unfold spR
  rw [TT_bind]
  refine (c_undoIn h hB hk hl rfl hp3).mono ?_
  rintro M1 ⟨g1, f1⟩
  rw [TT_bind]
  refine (c_undoSwap g1.1 hB hk hl rfl (p3 := p3) (by unfold TSQ; rw [g1.2.2]; exact hp3)).mono ?_
  rintro M2 ⟨g2', f2⟩
  have g2 := g1.tr g2'
  have f1' : ∀ l', DL l' → PI K y l l' → mI M2 (d + 1) (rank l') ≠ -1 := fun l' hd q => g2'.2.1 _ (rank_lt hd) (f1 l' hd q)
  -- what comes behind OUT
  have beh : ∀ M3, USG K B y goal d kk (rank l) e M M M3 → (∀ l', DL l' → PI K y l l' → mI M3 (d + 1) (rank l') ≠ -1) → (∀ l', DL l' → PS K y l l' → mI M3 (d + 1) (rank l') ≠ -1) → (∀ l', DL l' → PO K y l l' → mI M3 (d + 1) (rank l') ≠ -1) → TT (if (mI M3 d 10) = 0 then (some (.inl (M3, t + 1)) : Option ((Mem × Int32) ⊕ (Mem ⊕ Mem))) else (Option.bind (f_X2_undoStand M3 d (nI (rank l)) (nI l.length) p3) (fun q71 => some (.inl (q71, t + 1))))) (fun r => ∃ M1, r = Sum.inl (M1, t + 1) ∧ USG K B y goal d kk (rank l) e M M M1 ∧ ∀ l', DL l' → adjK K y (rank l') (rank l) → mI M1 (d + 1) (rank l') ≠ -1) := by
    intro M3 g3 a1 a2 a3
    have e10 : mI M3 d 10 = mI M d 10 := g3.1.2.2.2.1.i (by have := g3.1.2.2.2.2.1.1; unfold Sdi Ssc; omega)
    by_cases w : mI M3 d 10 = 0
    · rw [if_pos w, TT_some]
      refine ⟨M3, rfl, g3, fun l' hd ha => ?_⟩
      rcases (adjK_P hk hl hd).mp ha with q | q | q | ⟨a, x, u, b, q1, q2, q3, q4, _⟩
      · exact a3 l' hd q
      · exact a1 l' hd q
      · exact a2 l' hd q
      · exfalso
        obtain ⟨st, s1, s2, s3⟩ := hS
        rw [e10, s1, show (0 : Int32) = nI 0 from rfl, neqI (by omega) (by omega)] at w
        subst w
        have := (s3 u (hl.2 u (by rw [q1]; simp))).mpr ⟨x, q3, q4⟩
        simp at this
    · rw [if_neg w, TT_bind]
      refine (c_undoStand g3.1 hB hk hS hl rfl (p3 := p3) (by unfold TSQ; rw [g3.2.2]; exact hp3)).mono ?_
      rintro M4 ⟨g4, f4⟩
      rw [TT_some]
      refine ⟨M4, rfl, g3.tr g4, fun l' hd ha => ?_⟩
      rcases (adjK_P hk hl hd).mp ha with q | q | q | q
      · exact g4.2.1 _ (rank_lt hd) (a3 l' hd q)
      · exact g4.2.1 _ (rank_lt hd) (a1 l' hd q)
      · exact g4.2.1 _ (rank_lt hd) (a2 l' hd q)
      · exact f4 l' hd q
  rw [TT_bv]
  have hl1 := hl.1
  have c5 : ((5 : Int32) ≤ nI l.length) ↔ 5 ≤ l.length := by
    rw [show (5 : Int32) = nI 5 from rfl, nleI (by omega) (by omega)]
  by_cases w : 5 ≤ l.length
  · rw [if_pos (c5.mpr w)]
    refine beh M2 g2 f1' f2 (fun l' hd ⟨a, x, b, q1, q2, _⟩ => ?_)
    exfalso
    have h1 := congrArg List.length q1
    have h2 := congrArg List.length q2
    have h3 := hd.1
    simp at h1 h2
    omega
  · rw [if_neg (fun q => w (c5.mp q)), TT_bind]
    refine (c_undoOut g2.1 hB hk hl (by omega) rfl (p3 := p3) (by unfold TSQ; rw [g2.2.2]; exact hp3)).mono ?_
    rintro M3 ⟨g3, f3⟩
    exact beh M3 (g2.tr g3) (fun l' hd q => g3.2.1 _ (rank_lt hd) (f1' l' hd q)) (fun l' hd q => g3.2.1 _ (rank_lt hd) (f2 l' hd q)) f3
theorem c_sp1 {K : Nat → Int32} {B y goal d kk : Nat} {M : Mem} {Q : List Nat} {D : Nat → Option Nat} (h : TBS K B y goal d kk M Q D) (hB : B < 16777216) (hk : KTH K) (hlt : kk < Q.length) (t : Int32) : TT (sp1 d (M, t)) (fun r => ∃ M1 Q1 D1, r = Sum.inl (M1, t + 1) ∧ TBS K B y goal d (kk + 1) M1 Q1 D1 ∧ Fr (Sdp d) M M1) := by
  obtain ⟨m1, m2, m3, m4, m5, m6, ⟨q1, q2, q3, q4⟩, b⟩ := h
  obtain ⟨t1, t2, t3, t4, t5, t6, t7, t8, t9, t10⟩ := id m4
  have hql := b.ql q4
  have hto := List.getElem?_eq_getElem hlt
  have hmem := List.getElem_mem hlt
  generalize Q[kk] = to at hto hmem
  have hto9 := q4 to hmem
  obtain ⟨e, he⟩ := (b.2.1 to).mp hmem
  have hed := b.dlt q4 he
  obtain ⟨l, hl, rfl⟩ : ∃ l, DL l ∧ to = rank l := ⟨dR to, (dR_v hto9).1, (dR_v hto9).2.symm⟩
  have hlen := p_lengthOf hl.rev
  rw [List.length_reverse] at hlen
  have hfar : mI M (d + 1) (rank l) = nI e := by rw [q2 _ hto9, he]; rfl
  unfold sp1
  simp only
  rw [t6, Option.bind_some, grd_y t9, m5, t10, grd_y ((nvp (by omega)).mpr (by omega)), nclampI (by omega), q3 kk _ hto, TT_bv, nsucc, TT_bv, mR_wI, t5, Option.bind_some, ok_wI, grd_y t7, mL_wI, t8, grd_y ((nvp (by omega)).mpr hto9), nclampI (by omega), mI_wI_row (by omega), hfar, nsucc, ns_n (by omega), grd_y (psh_n (by omega)), TT_bv]
  have fr : Fr (fun a k => a = d ∧ (k = 4 ∨ k = 6)) M (wI (wI M d 4 (nI (kk + 1))) d 6 (nI (e + 1))) := (Fr.rf.wI ⟨rfl, Or.inl rfl⟩).wI ⟨rfl, Or.inr rfl⟩
  have e4 : mI (wI (wI M d 4 (nI (kk + 1))) d 6 (nI (e + 1))) d 4 = nI (kk + 1) := by rw [mI_wI_ne (by omega), mI_wIs]
  have e6 : mI (wI (wI M d 4 (nI (kk + 1))) d 6 (nI (e + 1))) d 6 = nI (e + 1) := mI_wIs
  generalize wI (wI M d 4 (nI (kk + 1))) d 6 (nI (e + 1)) = M3 at fr e4 e6 ⊢
  have fs : Fr (Std d) M M3 := fr.up (fun a k w => Or.inl w.1)
  obtain ⟨n1, n3⟩ := m1.st m4 fs
  have hu : UST K B y goal d kk (rank l) e M3 M3 := ⟨n1, m2.st m1.2.1 m4 fs, by rw [n3]; exact m3, Fr.rf, m4.fr fr, e6, Q, D, ⟨by rw [fr.i (by omega)]; exact q1, fun p hp => by rw [fr.i (by omega)]; exact q2 p hp, fun i p hi => by rw [fr.i (by omega)]; exact q3 i p hi, q4⟩, b, hto, he⟩
  have hS : STB K (mI M3 d 10) := by rw [fr.i (by omega)]; exact m6
  have t4' := hu.2.2.2.2.1.2.2.2.1
  rw [show nI (rank l) = nI (rk l.reverse) from rfl, hlen, Option.bind_some, t4', Option.bind_some, grd_y (okLC n1)]
  have fin : ∀ p3, TSQ M3 p3 l → TT (spR d (nI (rank l)) (nI l.length) p3 t M3) (fun r => ∃ M1 Q1 D1, r = Sum.inl (M1, t + 1) ∧ TBS K B y goal d (kk + 1) M1 Q1 D1 ∧ Fr (Sdp d) M M1) := by
    intro p3 hp3
    refine (c_spR hl hu hB hk hS (t := t) hp3).mono ?_
    rintro r ⟨M1, rfl, g1, f1⟩
    obtain ⟨⟨u1, u2, u3, u4, u5, u6, Q1, D1, tc, b1', b2, b3⟩, -, -⟩ := g1
    have h78 := u5.1
    refine ⟨M1, Q1, D1, rfl, ⟨u1, u2, u3, u5, by rw [u4.i (by unfold Sdi Ssc; omega)]; exact e4, by rw [u4.i (by unfold Sdi Ssc; omega)]; exact hS, tc, b1'.next b2 (fun q hq => ?_)⟩, ?_⟩
    · have hq' : adjK K y q (rank l) := hq
      have hq9 := hq'.1
      obtain ⟨dl, dr⟩ := dR_v hq9
      have := f1 (dR q) dl (by rw [dr]; exact hq')
      rw [dr, tc.2.1 q hq9] at this
      cases hD : D1 q with
      | none =>
        rw [hD] at this
        exact absurd rfl this
      | some v => exact (b1'.2.1 q).mpr ⟨v, hD⟩
    · refine (fr.up (fun a k w => ?_)).tr (u4.up (fun a k w => ?_))
      · unfold Sdp; omega
      · unfold Sdi at w; unfold Sdp
        rcases w with w | w | w | w
        · exact Or.inl w
        · omega
        · omega
        · omega
  cases hfr : mR M3 21 3 with
  | none =>
    have hf : f_X8_isFree M3 21 = some 1 := by
      unfold f_X8_isFree
      rw [grd_y (okLC n1), nc_none hfr]
    rw [hf, Option.bind_some, TT_bv, if_neg (by decide)]
    exact fin 0 (Or.inl hfr)
  | some x =>
    have hf : f_X8_isFree M3 21 = some 0 := by
      unfold f_X8_isFree
      rw [grd_y (okLC n1), hfr]
      rfl
    have ht := p_tasteOf hl
    rw [hf, Option.bind_some, TT_bv, if_pos rfl, show nI (rk l.reverse) = nI (rank l) from rfl, ht, Option.bind_some]
    exact fin _ (Or.inr rfl)
/-- the table after spreading -/
theorem c_spread0 {K : Nat → Int32} {B y goal d k0 : Nat} {M : Mem} {Q0 : List Nat} {D0 : Nat → Option Nat} (h : TBS K B y goal d k0 M Q0 D0) (hB : B < 16777216) (hk : KTH K) {most : Nat} (hm : most ≤ 9331) {s2 : Int32} (h2 : s2 = -1 ∨ ∃ r, r < 9331 ∧ s2 = nI r) : TT (Option.bind (loopO (sp0 d (nI most) s2) (M, 0)) (Sum.elim (fun (x13 : Mem) => some x13) (fun (x15 : Mem) => some x15))) (fun M1 => ∃ Q D kk, TBS K B y goal d kk M1 Q D ∧ Fr (Sdp d) M M1 ∧ (kk = Q.length ∨ kk = k0 + most ∨ ∃ r, r < 9331 ∧ s2 = nI r ∧ D r ≠ none)) := by
  rw [TT_bind]
  refine (TT_for most (fun k s => ∃ M' Q D, s = (M', nI k) ∧ TBS K B y goal d (k0 + k) M' Q D ∧ Fr (Sdp d) M M') (Q := fun z => ∃ M1, (z = Sum.inl M1 ∨ z = Sum.inr M1) ∧ ∃ Q D kk, TBS K B y goal d kk M1 Q D ∧ Fr (Sdp d) M M1 ∧ (kk = Q.length ∨ kk = k0 + most ∨ ∃ r, r < 9331 ∧ s2 = nI r ∧ D r ≠ none)) ?_ (Nat.zero_le _) ⟨M, Q0, D0, rfl, h, Fr.rf⟩).mono ?_
  · rintro k s hkm ⟨M', Q, D, rfl, hT, hF⟩
    obtain ⟨m1, m2, m3, m4, m5, m6, ⟨q1, q2, q3, q4⟩, b⟩ := id hT
    obtain ⟨t1, t2, t3, t4, t5, t6, t7, t8, t9, t10⟩ := id m4
    have hql := b.ql q4
    have hkq := b.2.2.2.2.2.2.2.1
    unfold sp0
    simp only
    by_cases w : k = most
    · rw [if_pos ((nleI (by omega) (by omega)).mpr (by omega)), TT_some]
      exact ⟨M', Or.inl rfl, Q, D, _, hT, hF, Or.inr (Or.inl (by rw [w]))⟩
    · rw [if_neg (fun q => w (by have := (nleI (by omega) (by omega)).mp q; omega)), grd_y t2, q1, m5]
      by_cases w2 : k0 + k = Q.length
      · rw [if_pos ((nleI (by omega) (by omega)).mpr (by omega)), TT_some]
        exact ⟨M', Or.inl rfl, Q, D, _, hT, hF, Or.inl w2⟩
      · rw [if_neg (fun q => w2 (by have := (nleI (by omega) (by omega)).mp q; omega)), if_neg (by rw [show (9331 : Int32) = nI 9331 from rfl, nleI (by omega) (by omega)]; omega), TT_bv]
        have go : TT (sp1 d (M', nI k)) (fun r => r.elim (fun s' => k < most ∧ ∃ M'' Q D, s' = (M'', nI (k + 1)) ∧ TBS K B y goal d (k0 + (k + 1)) M'' Q D ∧ Fr (Sdp d) M M'') (fun z => ∃ M1, (z = Sum.inl M1 ∨ z = Sum.inr M1) ∧ ∃ Q D kk, TBS K B y goal d kk M1 Q D ∧ Fr (Sdp d) M M1 ∧ (kk = Q.length ∨ kk = k0 + most ∨ ∃ r, r < 9331 ∧ s2 = nI r ∧ D r ≠ none))) := by
          refine (c_sp1 hT hB hk (by omega) (nI k)).mono ?_
          rintro r ⟨M1, Q1, D1, rfl, g1, g2⟩
          exact ⟨by omega, M1, Q1, D1, by rw [nsucc], g1, hF.tr g2⟩
        rcases h2 with rfl | ⟨r, hr, rfl⟩
        · rw [if_pos rfl]
          exact go
        · rw [if_neg (neg1_nI (by omega)), t5, Option.bind_some, grd_y t7, t8, grd_y ((nvp (by omega)).mpr hr), nclampI (by omega)]
          by_cases w3 : mI M' (d + 1) r = -1
          · rw [if_pos w3]
            exact go
          · rw [if_neg w3, TT_some]
            refine ⟨M', Or.inr rfl, Q, D, _, hT, hF, Or.inr (Or.inr ⟨r, hr, rfl, fun q => w3 ?_⟩)⟩
            rw [q2 r hr, q]
            rfl
  · rintro z ⟨M1, hz, hq⟩
    rcases hz with rfl | rfl
    · exact TT_some.mpr hq
    · exact TT_some.mpr hq
/-- all STEPS are known -/
theorem c_spreadN {K : Nat → Int32} {B y goal d k0 : Nat} {M : Mem} {Q0 : List Nat} {D0 : Nat → Option Nat} (h : TBS K B y goal d k0 M Q0 D0) (hB : B < 16777216) (hk : KTH K) : TT (f_X2_spread M d (-1) 9331) (fun M1 => ∃ Q D kk, TBS K B y goal d kk M1 Q D ∧ Fr (Sdp d) M M1 ∧ ∀ p e, D p = some e ↔ isD (rdjK K y) goal p e) := by
  rw [spread_n]
  refine (c_spread0 h hB hk (most := 9331) (Nat.le_refl _) (Or.inl rfl)).mono ?_
  rintro M1 ⟨Q, D, kk, g1, g2, g3⟩
  refine ⟨Q, D, kk, g1, g2, ?_⟩
  have b := g1.2.2.2.2.2.2.2
  have hql := b.ql g1.2.2.2.2.2.2.1.2.2.2
  have hkq := b.2.2.2.2.2.2.2.1
  have : kk = Q.length := by
    rcases g3 with q | q | ⟨r, hr, q, _⟩
    · exact q
    · omega
    · exact absurd q.symm (neg1_nI (by omega))
  subst this
  exact b.full
/-- the STEPS from one are known -/
theorem c_spreadY {K : Nat → Int32} {B y goal d k0 : Nat} {M : Mem} {Q0 : List Nat} {D0 : Nat → Option Nat} (h : TBS K B y goal d k0 M Q0 D0) (hB : B < 16777216) (hk : KTH K) {r : Nat} (hr : r < 9331) : TT (f_X2_spread M d (nI r) 9331) (fun M1 => ∃ Q D kk, TBS K B y goal d kk M1 Q D ∧ Fr (Sdp d) M M1 ∧ ∀ e, D r = some e ↔ isD (rdjK K y) goal r e) := by
  rw [spread_y hr]
  refine (c_spread0 h hB hk (most := 9331) (Nat.le_refl _) (Or.inr ⟨r, hr, rfl⟩)).mono ?_
  rintro M1 ⟨Q, D, kk, g1, g2, g3⟩
  refine ⟨Q, D, kk, g1, g2, ?_⟩
  have b := g1.2.2.2.2.2.2.2
  have hql := b.ql g1.2.2.2.2.2.2.1.2.2.2
  have hkq := b.2.2.2.2.2.2.2.1
  have full : kk = Q.length → ∀ e, D r = some e ↔ isD (rdjK K y) goal r e := by
    rintro rfl
    exact b.full r
  rcases g3 with q | q | ⟨r', hr', q, hd⟩
  · exact full q
  · exact full (by omega)
  · rw [neqI (by omega) (by omega)] at q
    subst q
    intro e
    refine ⟨b.2.2.2.1 r e, fun hi => ?_⟩
    cases hD : D r with
    | none => exact absurd hD hd
    | some v => rw [isD_un (b.2.2.2.1 r v hD) hi]
/-- all from which it is one STEP are known -/
theorem c_spread1 {K : Nat → Int32} {B y goal d k0 : Nat} {M : Mem} {Q0 : List Nat} {D0 : Nat → Option Nat} (h : TBS K B y goal d k0 M Q0 D0) (hB : B < 16777216) (hk : KTH K) : TT (f_X2_spread M d (-1) 1) (fun M1 => ∃ Q D kk, TBS K B y goal d kk M1 Q D ∧ Fr (Sdp d) M M1 ∧ ∀ p, D p = some 1 ↔ isD (rdjK K y) goal p 1) := by
  rw [spread_n]
  refine (c_spread0 h hB hk (most := 1) (by omega) (Or.inl rfl)).mono ?_
  rintro M1 ⟨Q, D, kk, g1, g2, g3⟩
  refine ⟨Q, D, kk, g1, g2, fun p => ?_⟩
  have b := g1.2.2.2.2.2.2.2
  have hkq := b.2.2.2.2.2.2.2.1
  refine ⟨b.2.2.2.1 p 1, fun hi => ?_⟩
  have hm : p ∈ Q := by
    rcases g3 with q | q | ⟨r', hr', q, hd⟩
    · subst q
      exact b.done 1 p hi.1
    · obtain ⟨g, hg, ha⟩ := hi.1
      rw [show g = goal from hg] at ha
      exact b.2.2.2.2.2.1 0 goal p (by omega) b.1 ha
    · exact absurd q.symm (neg1_nI (by omega))
  obtain ⟨e, he⟩ := (b.2.1 p).mp hm
  rw [he, isD_un (b.2.2.2.1 p e he) hi]
