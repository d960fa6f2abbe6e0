/-! what Chances keeps; work() -/
def CHC (M : Mem) (rp : Nat) : Prop := mI M 42 6 = -1 ∨ ∃ l n y r ru, DL l ∧ n ≤ 3 ∧ y ≤ 999 ∧ mI M 42 5 = nI (rank l) ∧ mI M 42 6 = nI n ∧ mI M 42 7 = nI y ∧ mI M 42 8 = nI r ∧ mI M 1 13 = nI ru ∧ r ≤ ru ∧ ru < 2147483648 ∧ (r = ru → JR M rp (PRT (mI M 49) y l n))
def CHN (M : Mem) : Prop := ∃ rp rl, mR M 42 3 = some rp ∧ mR M 42 4 = some rl ∧ ((rp = 43 ∧ rl = 44 ∧ mI M 42 6 = -1) ∨ (RW15 M rp ∧ RW15 M rl ∧ rp ≠ rl ∧ CHC M rp))
def S42 (a k : Nat) : Prop := a = 42 ∧ 5 ≤ k
def Sw4 (p l a k : Nat) : Prop := Slk a k ∨ S42 a k ∨ a = p ∨ a = l
def Rw4 (a k : Nat) : Prop := Rop a k ∨ Rwk a k
noncomputable def M42 (M : Mem) (v5 v6 v7 v8 : Int32) : Mem := wI (wI (wI (wI M 42 5 v5) 42 6 v6) 42 7 v7) 42 8 v8
theorem M42_fr {M : Mem} {v5 v6 v7 v8 : Int32} : Fr S42 M (M42 M v5 v6 v7 v8) := by
  unfold M42
  exact (((Fr.rf.wI (show S42 42 5 from ⟨rfl, by omega⟩)).wI (show S42 42 6 from ⟨rfl, by omega⟩)).wI (show S42 42 7 from ⟨rfl, by omega⟩)).wI (show S42 42 8 from ⟨rfl, by omega⟩)
theorem M42_v {M : Mem} {v5 v6 v7 v8 : Int32} : mI (M42 M v5 v6 v7 v8) 42 5 = v5 ∧ mI (M42 M v5 v6 v7 v8) 42 6 = v6 ∧ mI (M42 M v5 v6 v7 v8) 42 7 = v7 ∧ mI (M42 M v5 v6 v7 v8) 42 8 = v8 := by
  unfold M42
  refine ⟨?_, ?_, ?_, mI_wIs⟩
  · rw [mI_wI_ne (by decide), mI_wI_ne (by decide), mI_wI_ne (by decide), mI_wIs]
  · rw [mI_wI_ne (by decide), mI_wI_ne (by decide), mI_wIs]
  · rw [mI_wI_ne (by decide), mI_wIs]
theorem wkJ_eq {M : Mem} (hC : LayC M) {p1 p2 : Int32} : wkJ 42 p1 p2 M = Option.bind (f_X8_open (M42 M p1 p2 (mI M 1 11) (mI M 1 13)) 21 (mI M 1 11)) (fun q35 => Option.bind (mR q35 42 3) (fun r40 => Option.bind (f_J7_fill_d0a16 q35 r40 0) (fun q41 => Option.bind (mR q41 42 3) (fun r46 => grd (okO q41 15 r46) (grd (vp_in p1 (mL q41 r46)) (Option.bind (loopO (wk0 p2 42) (wJ q41 r46 p1.toNatClampNeg 1000000000000, 0)) (fun (x60 : Mem) => some (x60, 1)))))))) := by
  have hC2 := hC
  unfold LayC at hC2
  unfold wkJ
  simp only [bv, mR_wI, ok_wI, hC2, grd_T, Option.bind_some]
  rw [mI_wI_row (a := 42) (b := 1) (by decide), mI_wI_row (a := 42) (b := 1) (by decide), mI_wI_row (a := 42) (b := 1) (by decide), mI_wI_ne (a := 42) (b := 42) (k := 8) (j := 7) (by decide), mI_wIs]
  rfl
theorem c_wkJ {B y : Nat} {M : Mem} (h : MID M) (hS : SCI B M) (hB : B < 16776000) (hy : y ≤ 999) (h54 : mI M 49 54 = nI y) {rp rl : Nat} (r3 : mR M 42 3 = some rp) (r4 : mR M 42 4 = some rl) (wp : RW15 M rp) (wl : RW15 M rl) (hne : rp ≠ rl) {l : List Nat} (hl : DL l) {n : Nat} (hn : n ≤ 3) {ru : Nat} (h13 : mI M 1 13 = nI ru) (hru : ru < 2147483648) : TT (wkJ 42 (nI (rank l)) (nI n) M) (fun q => q.2 = 1 ∧ MID q.1 ∧ mI q.1 49 = mI M 49 ∧ SCI (B + 1) q.1 ∧ Fw (Sw4 rp rl) Rw4 M q.1 ∧ mn q.1 = mn M ∧ mz q.1 = mz M ∧ CHN q.1 ∧ ∃ rp', mR q.1 42 3 = some rp' ∧ RW15 q.1 rp' ∧ JR q.1 rp' (PRT (mI M 49) y l n)) := by
  have e11 : mI M 1 11 = nI y := h.1.2.2.2.1.2.1.2.2.2.1.trans h54
  rw [wkJ_eq h.1.1, e11, h13]
  have f1 := M42_fr (M := M) (v5 := nI (rank l)) (v6 := nI n) (v7 := nI y) (v8 := nI ru)
  obtain ⟨c5, c6, c7, c8⟩ := M42_v (M := M) (v5 := nI (rank l)) (v6 := nI n) (v7 := nI y) (v8 := nI ru)
  generalize M42 M (nI (rank l)) (nI n) (nI y) (nI ru) = M1 at *
  have h78 := h.2.1
  obtain ⟨m1, k1⟩ := h.fr f1 (fun a k w => by unfold S42 at w; unfold Frl; omega)
  have s1 : SCI B M1 := hS.fr2 h78 f1 (fun a k w => by unfold S42 at w; omega)
  rw [TT_bind]
  refine (m_open m1 s1 (by omega) hy).mono ?_
  rintro M2 ⟨m2, o2, k2, f2, n2, z2⟩
  have e3 : mR M2 42 3 = some rp := by rw [f2.r (by have := f1.1; omega) (by unfold Rop; omega), f1.2.2.2.2.1]; exact r3
  have e4 : mR M2 42 4 = some rl := by rw [f2.r (by have := f1.1; omega) (by unfold Rop; omega), f1.2.2.2.2.1]; exact r4
  have wp2 : RW15 M2 rp := (wp.fr f1).fw f2
  have wl2 : RW15 M2 rl := (wl.fr f1).fw f2
  rw [e3, Option.bind_some, TT_bind]
  refine (c_fillJ wp2).mono ?_
  rintro M3 ⟨f3, j3⟩
  have wp3 := wp2.fr f3
  have wl3 := wl2.fr f3
  have e33 : mR M3 42 3 = some rp := by rw [f3.2.2.2.2.1]; exact e3
  have e34 : mR M3 42 4 = some rl := by rw [f3.2.2.2.2.1]; exact e4
  obtain ⟨m3, k3⟩ := m2.sj wp2 f3
  have o3 := o2.sj m2.2.1 wp2 f3
  have hr := rank_lt hl
  rw [e33, Option.bind_some, grd_y wp3.2.1, wp3.2.2, grd_y ((nvp (by omega)).mpr (by omega)), nclampI (by omega)]
  have e12 : jj ((0 + 1000000000000 : Nat) : Int) = (1000000000000 : Int64) := by
    rw [Nat.zero_add]
    exact (jj_lit 1000000000000).symm
  have j4 := j3.w (v := 1000000000000) hr
  simp only [e12] at j4
  have f4 : Fr (SJ rp) M3 (wJ M3 rp (rank l) 1000000000000) := Fr.rf.wJ (show SJ rp rp (rank l) from rfl)
  generalize wJ M3 rp (rank l) 1000000000000 = M4 at *
  obtain ⟨m4, k4⟩ := m3.sj wp3 f4
  have o4 := o3.sj m3.2.1 wp3 f4
  have kk : mI M4 49 = mI M 49 := by rw [k4, k3, k2, k1]
  have hW : WKI (mI M 49) (B + 1) y rp rl M4 M4 (PRT (mI M 49) y l 0) := ⟨m4, o4, kk, Fw.rf, rfl, rfl, wp3.fr f4, wl3.fr f4, rp, rl, Or.inl ⟨rfl, rfl⟩, by rw [f4.2.2.2.2.1]; exact e33, by rw [f4.2.2.2.2.1]; exact e34, by rw [PRT]; exact j4⟩
  rw [TT_bind]
  refine (c_wk0 (by omega) hne hl hn hW).mono ?_
  rintro M5 ⟨a1, a2, a3, a4, a5, a6, a7, a8, rp', rl', a9, a10, a11, a12⟩
  rw [TT_some]
  have hFa : Fw (Sw4 rp rl) Rw4 M M1 := (f1.fw (R := Rw4)).up (fun a k w => Or.inr (Or.inl w)) (fun _ _ w => w)
  have hFb : Fw (Sw4 rp rl) Rw4 M1 M2 := f2.up (fun a k w => Or.inl (Sop_lk a k w)) (fun a k w => Or.inl w)
  have hFc : Fw (Sw4 rp rl) Rw4 M2 M3 := (f3.fw (R := Rw4)).up (fun a k w => Or.inr (Or.inr (Or.inl w))) (fun _ _ w => w)
  have hFd : Fw (Sw4 rp rl) Rw4 M3 M4 := (f4.fw (R := Rw4)).up (fun a k w => Or.inr (Or.inr (Or.inl w))) (fun _ _ w => w)
  have hFe : Fw (Sw4 rp rl) Rw4 M4 M5 := a4.up (fun a k w => by
    rcases w with w | w | w
    · exact Or.inl (Sla_lk a k w)
    · exact Or.inr (Or.inr (Or.inl w))
    · exact Or.inr (Or.inr (Or.inr w))) (fun a k w => Or.inr w)
  have hall := (((hFa.tr hFb).tr hFc).tr hFd).tr hFe
  have nn : mn M5 = mn M := by rw [a5, f4.1, f3.1, n2, f1.1]
  have zz : mz M5 = mz M := by rw [a6, f4.2.1, f3.2.1, z2, f1.2.1]
  have p78 := wp.1
  have l78 := wl.1
  have wrp : RW15 M5 rp' ∧ RW15 M5 rl' ∧ rp' ≠ rl' := by
    rcases a9 with ⟨rfl, rfl⟩ | ⟨rfl, rfl⟩
    · exact ⟨a7, a8, hne⟩
    · exact ⟨a8, a7, fun q => hne q.symm⟩
  have cell : ∀ i, 5 ≤ i → mI M5 42 i = mI M1 42 i := fun i hi => by
    have n4 : mn M4 = mn M := by rw [f4.1, f3.1, n2, f1.1]
    rw [a4.i (by omega) (fun q => by unfold Sw3 Sla Ssc at q; omega), f4.i (fun q => by unfold SJ at q; omega), f3.i (fun q => by unfold SJ at q; omega), f2.i (by rw [f1.1]; omega) (by unfold Sop; omega)]
  have v13 : mI M5 1 13 = nI ru := by
    rw [hall.i (by omega) (fun q => by unfold Sw4 Slk S42 at q; omega)]
    exact h13
  refine ⟨rfl, a1, a3, a2.sci, hall, nn, zz, ⟨rp', rl', a10, a11, Or.inr ⟨wrp.1, wrp.2.1, wrp.2.2, Or.inr ⟨l, n, y, ru, ru, hl, hn, hy, by rw [cell 5 (by omega)]; exact c5, by rw [cell 6 (by omega)]; exact c6, by rw [cell 7 (by omega)]; exact c7, by rw [cell 8 (by omega)]; exact c8, v13, Nat.le_refl _, hru, fun _ => by rw [a3]; exact a12⟩⟩⟩, rp', a10, wrp.1, a12⟩
noncomputable def chz (M : Mem) : Nat := if mR M 42 3 = some 43 then 18662 else 0
def Swf (M : Mem) (a k : Nat) : Prop := Slk a k ∨ S42 a k ∨ (78 ≤ a ∧ mK M a = 15)
def WKQ (M : Mem) (B y : Nat) (l : List Nat) (n : Nat) (q : Mem × Int32) : Prop := q.2 = 1 ∧ MID q.1 ∧ mI q.1 49 = mI M 49 ∧ SCI (B + 1) q.1 ∧ Fw (Swf M) Rw4 M q.1 ∧ mn q.1 ≤ mn M + 2 ∧ mz q.1 + chz q.1 ≤ mz M + chz M ∧ CHN q.1 ∧ ∃ rp, mR q.1 42 3 = some rp ∧ RW15 q.1 rp ∧ JR q.1 rp (PRT (mI M 49) y l n)
theorem nI9 : ¬ nI 9331 = 0 := by decide
theorem c_wkD1 {B y : Nat} {M M2 : Mem} (h : MID M) (hS : SCI B M) (hB : B < 16776000) (hy : y ≤ 999) (h54 : mI M 49 54 = nI y) (r3 : mR M 42 3 = some 43) {l : List Nat} (hl : DL l) {n : Nat} (hn : n ≤ 3) {ru : Nat} (h13 : mI M 1 13 = nI ru) (hru : ru < 2147483648) (hF : Fw Fno Rwk M M2) (n2 : mn M2 = mn M + 2) (z2 : mz M2 = mz M + 18662) (r23 : mR M2 42 3 = some (mn M)) (r24 : mR M2 42 4 = some (mn M + 1)) (w1 : RW15 M2 (mn M)) (w2 : RW15 M2 (mn M + 1)) : TT (wkJ 42 (nI (rank l)) (nI n) M2) (WKQ M B y l n) := by
  have h78 := h.2.1
  obtain ⟨m2, k2⟩ := h.r42 hF (fun a k w => w.elim)
  have s2 : SCI B M2 := hS.nt (fun a k w => hF.i (by omega) (fun q => q)) (hF.r (by omega) (fun q => by unfold Rwk at q; omega)) (fun c a w => hF.ok w) (fun tx sms w => w.fw hF (fun _ => ⟨fun q => q, fun q => q, fun q => q⟩) (fun k q => by have := q.1; have := w.ht.1.1; omega))
  refine (c_wkJ m2 s2 hB hy (by rw [k2]; exact h54) r23 r24 w1 w2 (by omega) hl hn (by rw [hF.i (by omega) (fun q => q)]; exact h13) hru).mono ?_
  rintro q ⟨d1, d2, d3, d4, d5, d6, d7, d8, rp', d9, d10, d11⟩
  rw [k2] at d3 d11
  have hcz : chz q.1 = 0 := by
    unfold chz
    rw [d9, if_neg (fun e => by
      have e : rp' = 43 := Option.some.inj e
      have := d10.1
      omega)]
  have hcz0 : chz M = 18662 := by
    unfold chz
    rw [r3, if_pos rfl]
  have hFr : Fw (Sw4 (mn M) (mn M + 1)) Rw4 M q.1 := (hF.up (fun _ _ w => w.elim) (fun a k w => Or.inr w)).tr d5
  refine ⟨d1, d2, d3, d4, hFr.res.up (fun a k w => ?_) (fun a k w => w.1), by omega, by omega, d8, rp', d9, d10, d11⟩
  obtain ⟨w1, w2⟩ := w
  rcases w1 with w1 | w1 | w1 | w1
  · exact Or.inl w1
  · exact Or.inr (Or.inl w1)
  · omega
  · omega
theorem c_wkD {B y : Nat} {M : Mem} (h : MID M) (hS : SCI B M) (hB : B < 16776000) (hy : y ≤ 999) (h54 : mI M 49 54 = nI y) (hc : CHN M) {l : List Nat} (hl : DL l) {n : Nat} (hn : n ≤ 3) {ru : Nat} (h13 : mI M 1 13 = nI ru) (hru : ru < 2147483648) : TT (wkD M 42 (nI (rank l)) (nI n)) (WKQ M B y l n) := by
  obtain ⟨rp, rl, r3, r4, hc⟩ := hc
  rcases hc with ⟨rfl, rfl, h6⟩ | ⟨wp, wl, hne, hch⟩
  · have hC2 := h.1.1
    unfold LayC at hC2
    have o43 : okO M 15 43 := by simp only [hC2]
    have l43 : mL M 43 = 0 := by simp only [hC2]
    have h78 := h.2.1
    clear hC2
    unfold wkD
    rw [r3, Option.bind_some]
    refine TT_grd.mpr ⟨o43, ?_⟩
    rw [TT_bv, TT_if]
    refine ⟨fun _ => ?_, fun q => absurd (by rw [l43]; rfl) q⟩
    have hN : (9331 : Int32).toNatClampNeg = 9331 := by decide
    generalize (9331 : Int32).toNatClampNeg = N at *
    rw [TT_bv, TT_bv]
    obtain ⟨a1, a2, a3, a4, a5⟩ := nA_v (M := M) (c := 15) (n := N)
    have hF1 : Fw Fno Rwk M (wR (nA M 15 N) 42 3 (some (mn M))) := (Fw_nA).wR (show Rwk 42 3 from ⟨rfl, Or.inl rfl⟩)
    have n1 : mn (wR (nA M 15 N) 42 3 (some (mn M))) = mn M + 1 := by rw [mn_wR]; exact a1
    have z1 : mz (wR (nA M 15 N) 42 3 (some (mn M))) = mz M + N := by rw [mz_wR]; exact a2
    have k1 : ∀ a, mK (wR (nA M 15 N) 42 3 (some (mn M))) a = if a = mn M then 15 else mK M a := fun a => by rw [mK_wR]; exact a3 a
    have l1 : ∀ a, mL (wR (nA M 15 N) 42 3 (some (mn M))) a = if a = mn M then N else mL M a := fun a => by rw [mL_wR]; exact a4 a
    have r13 : mR (wR (nA M 15 N) 42 3 (some (mn M))) 42 3 = some (mn M) := by rw [mR_wR, if_pos ⟨rfl, rfl⟩]
    generalize wR (nA M 15 N) 42 3 (some (mn M)) = M1 at *
    rw [TT_bv, TT_bv]
    obtain ⟨b1', b2, b3, b4, b5⟩ := nA_v (M := M1) (c := 15) (n := N)
    have hF2 : Fw Fno Rwk M1 (wR (nA M1 15 N) 42 4 (some (mn M1))) := (Fw_nA).wR (show Rwk 42 4 from ⟨rfl, Or.inr rfl⟩)
    have n2 : mn (wR (nA M1 15 N) 42 4 (some (mn M1))) = mn M + 2 := by rw [mn_wR, b1', n1]
    have z2 : mz (wR (nA M1 15 N) 42 4 (some (mn M1))) = mz M + N + N := by rw [mz_wR, b2, z1]
    have g3 : mR (wR (nA M1 15 N) 42 4 (some (mn M1))) 42 3 = some (mn M) := by
      rw [mR_wR, if_neg (by omega), b5, if_neg (by omega)]
      exact r13
    have g4 : mR (wR (nA M1 15 N) 42 4 (some (mn M1))) 42 4 = some (mn M + 1) := by rw [mR_wR, if_pos ⟨rfl, rfl⟩, n1]
    have g5 : mK (wR (nA M1 15 N) 42 4 (some (mn M1))) (mn M) = 15 := by rw [mK_wR, b3, if_neg (by omega), k1, if_pos rfl]
    have g6 : mL (wR (nA M1 15 N) 42 4 (some (mn M1))) (mn M) = N := by rw [mL_wR, b4, if_neg (by omega), l1, if_pos rfl]
    have g7 : mK (wR (nA M1 15 N) 42 4 (some (mn M1))) (mn M + 1) = 15 := by rw [mK_wR, b3, if_pos (by omega)]
    have g8 : mL (wR (nA M1 15 N) 42 4 (some (mn M1))) (mn M + 1) = N := by rw [mL_wR, b4, if_pos (by omega)]
    generalize wR (nA M1 15 N) 42 4 (some (mn M1)) = M2 at *
    exact c_wkD1 h hS hB hy h54 r3 hl hn h13 hru (hF1.tr hF2) n2 (by omega) g3 g4 ⟨h78, ⟨by omega, g5⟩, g6.trans hN⟩ ⟨by omega, ⟨by omega, g7⟩, g8.trans hN⟩
  · unfold wkD
    rw [r3, Option.bind_some]
    refine TT_grd.mpr ⟨wp.2.1, ?_⟩
    rw [TT_bv, TT_if]
    refine ⟨fun q => absurd (by rw [wp.2.2] at q; exact q) nI9, fun _ => ?_⟩
    refine (c_wkJ h hS hB hy h54 r3 r4 wp wl hne hl hn h13 hru).mono ?_
    rintro q ⟨d1, d2, d3, d4, d5, d6, d7, d8, rp', d9, d10, d11⟩
    have hcz : chz q.1 = 0 := by
      unfold chz
      rw [d9, if_neg (fun e => by
        have e : rp' = 43 := Option.some.inj e
        have := d10.1
        omega)]
    refine ⟨d1, d2, d3, d4, d5.up (fun a k w => ?_) (fun _ _ w => w), by omega, by omega, d8, rp', d9, d10, d11⟩
    rcases w with w | w | w | w
    · exact Or.inl w
    · exact Or.inr (Or.inl w)
    · rw [w]; exact Or.inr (Or.inr ⟨wp.1, wp.2.1.2⟩)
    · rw [w]; exact Or.inr (Or.inr ⟨wl.1, wl.2.1.2⟩)
theorem c_work {B y : Nat} {M : Mem} (h : MID M) (hS : SCI B M) (hB : B < 16776000) (hy : y ≤ 999) (h54 : mI M 49 54 = nI y) (hc : CHN M) {l : List Nat} (hl : DL l) {n : Nat} (hn : n ≤ 3) {ru : Nat} (h13 : mI M 1 13 = nI ru) (hru : ru < 2147483648) : TT (f_X0_work M 42 (nI (rank l)) (nI n)) (WKQ M B y l n) := by
  have hD := c_wkD h hS hB hy h54 hc hl hn h13 hru
  have e11 : mI M 1 11 = nI y := h.1.2.2.2.1.2.1.2.2.2.1.trans h54
  have hC2 := h.1.1
  unfold LayC at hC2
  have hr := rank_lt hl
  rw [work_eq, if_neg (rank_ne hl), if_neg (show ¬ nI n < 0 by rw [show (0 : Int32) = nI 0 from rfl, nltI (by omega) (by omega)]; omega), if_pos (show nI n ≤ 3 by rw [show (3 : Int32) = nI 3 from rfl, nleI (by omega) (by omega)]; exact hn)]
  simp only [bv, hC2, grd_T, Option.bind_some]
  by_cases w5 : mI M 42 5 = nI (rank l)
  · rw [if_pos w5]
    by_cases w6 : mI M 42 6 = nI n
    · rw [if_pos w6]
      by_cases w7 : mI M 42 7 = mI M 1 11
      · rw [if_pos w7]
        by_cases w8 : mI M 42 8 = mI M 1 13
        · rw [if_pos w8, TT_some]
          obtain ⟨rp, rl, r3, r4, hc'⟩ := id hc
          have h6 : ¬ mI M 42 6 = -1 := by rw [w6]; exact neg1_nI (by omega)
          rcases hc' with ⟨_, _, q⟩ | ⟨wp, wl, hne, q | ⟨l', n', y', r, ru', g1, g2, g3, g4, g5, g6, g7, g8, g9, g10, g11⟩⟩
          · exact absurd q h6
          · exact absurd q h6
          · have el : l' = l := (rank_inj g1 hl).mp (g4.symm.trans w5)
            have en : n' = n := (neqI (by omega) (by omega)).mp (g5.symm.trans w6)
            have ey : y' = y := (neqI (by omega) (by omega)).mp (g6.symm.trans (w7.trans e11))
            have er : r = ru' := (neqI (by omega) (by omega)).mp (g7.symm.trans (w8.trans g8))
            subst el en ey
            exact ⟨rfl, h, rfl, hS.mono (by omega), Fw.rf, Nat.le_add_right _ _, Nat.le_refl _, hc, rp, r3, wp, g11 er⟩
        · rw [if_neg w8]
          exact hD
      · rw [if_neg w7]
        exact hD
    · rw [if_neg w6]
      exact hD
  · rw [if_neg w5]
    exact hD
