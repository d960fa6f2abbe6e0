/-! row() on both sides -/
def Srw2 (a k : Nat) : Prop := Sro a k ∨ (a = 0 ∧ (k = 12 ∨ k = 13)) ∨ (a = 11 ∧ k = 4) ∨ Sr3 a k ∨ (a = 47 ∧ (k ≤ 1 ∨ k = 17))
theorem srw_x : ∀ a k, Srw2 a k → a < 78 ∧ ¬ (a = 1 ∧ (k = 9 ∨ k = 10 ∨ k = 11 ∨ k = 12 ∨ k = 13)) ∧ ¬ (2 ≤ a ∧ a ≤ 4) ∧ ¬ (9 ≤ a ∧ a ≤ 10) ∧ ¬ (a = 11 ∧ k ≠ 4) ∧ ¬ (12 ≤ a ∧ a ≤ 46) ∧ a ≠ 48 ∧ ¬ (50 ≤ a) ∧ ¬ (a = 0 ∧ k ≠ 12 ∧ k ≠ 13) ∧ ¬ (a = 47 ∧ (k = 18 ∨ k = 34 ∨ k = 46 ∨ k = 57)) ∧ ¬ (a = 49 ∧ (k < 18 ∨ k = 54 ∨ k = 55 ∨ 57 ≤ k)) := fun a k w => by
  rcases w with w | w | w | w | w
  · unfold Sro at w; omega
  · omega
  · omega
  · unfold Sr3 at w; omega
  · omega
theorem row_y {c : Nat} (hc : c < 600) {M M2 : Mem} (h : INV0 c M) {A A2 : List (Option Nat × Nat × List Nat)} {y d : Nat} (hks : KST (mI M 49) A y) (hF : Fr Srw2 M M2) (hcs : CST M2 A2 y) (hks2 : KST (mI M2 49) A2 y) (hd : d ≤ 12) (h14 : mI M2 1 14 = mI M 1 14 + nI d) (hd0 : d = 0 → A2 = A) (h12 : mI M2 0 12 = 0) (h470 : mI M2 47 0 = 0) (h471 : mI M2 47 1 = mI M 47 1 + 1) (h13 : mI M2 0 13 = mI M2 47 12) (h4 : mI M2 11 4 = 0) (h17 : mI M2 47 17 = 0) : INV0 (c + 1) M2 ∧ QF M M2 := by
  have e : ∀ a k, ¬ Srw2 a k → mI M2 a k = mI M a k := fun a k w => hF.i w
  have ex : ∀ a k, (12 ≤ a ∧ a ≤ 46) ∨ a = 48 ∨ 50 ≤ a ∨ (a = 0 ∧ k ≠ 12 ∧ k ≠ 13) ∨ (a = 47 ∧ (k = 18 ∨ k = 46 ∨ k = 57)) ∨ (a = 1 ∧ k = 13) → mI M2 a k = mI M a k := fun a k w => e a k (fun q => by have := srw_x a k q; omega)
  have k49 : ∀ k, k < 18 ∨ k = 54 ∨ k = 55 ∨ 57 ≤ k → mI M2 49 k = mI M 49 k := fun k w => e 49 k (fun q => by have := srw_x 49 k q; omega)
  have hru : RUL M2 := h.mid.1.rul.k (hF.fw (R := fun _ _ => False)) (fun a k w => ⟨by have := srw_x a k w; omega, by have := srw_x a k w; omega, fun q => by have := q.1; have := srw_x a k w; omega⟩) (fun _ _ w => w.elim) (fun k w => k49 k (by omega))
  obtain ⟨⟨hC, hM, hK, hV, hO⟩, i2, ⟨n, bt, t1, t2, t3, t4⟩, i4, i5, ⟨p1, p2, p3, dk, p4, p5', p6, p7⟩, i7, i8⟩ := id h
  have hR2 : REL M2 := REL.mk hru hcs hks2 (by rw [k49 55 (by omega)]; exact hK.2.1.2) ⟨by rw [h12, h470], fun m hm => by rw [ex 45 _ (by omega), ex 48 _ (by omega)]; exact hO.2 m hm⟩
  have hag : AGK (mI M 49) (mI M2 49) := ⟨⟨fun t ht => k49 t (by omega), k49 55 (by omega), k49 58 (by omega), fun f hf _ => ⟨k49 _ (by omega), fun j hj => ⟨k49 _ (by omega), k49 _ (by omega)⟩⟩⟩, fun k hk => k49 k (by omega)⟩
  have hyh : d = 0 → YHK (mI M 49) (mI M2 49) := fun w => by
    have e := hd0 w
    subst e
    refine ⟨k49 54 (by omega), by rw [hks2.2.1, hks.2.1], fun n g h1 h2 h3 => ?_⟩
    have hn : A2.length = n := (neqI (by have := hks.1; omega) (by omega)).mp (hks.2.1.symm.trans h2)
    have hg : g < A2.length := by omega
    obtain ⟨a1, a2, a3, a4, a5, a6⟩ := hks.2.2.2.2 g _ (List.getElem?_eq_getElem hg)
    obtain ⟨b1', b2, b3, b4, b5, b6⟩ := hks2.2.2.2.2 g _ (List.getElem?_eq_getElem hg)
    exact ⟨by rw [a4, b4], by rw [a5, b5], by rw [a6, b6]⟩
  have hq : QST M M2 := ⟨0, d, 1, by omega, by omega, by omega, by rw [ex 1 13 (by omega)]; exact (Int32.add_zero _).symm, h14, h471, fun _ => hag, fun w => ⟨hag, hyh w⟩, fun w => by omega⟩
  have hW : Fw Srw2 (fun _ _ => False) M M2 := hF.fw
  have hn := hF.1
  have hz := hF.2.1
  have hht : ∀ a k, Srw2 a k → ¬ HT M a := fun a k w q => by have := q.1; have := srw_x a k w; omega
  refine ⟨INV0.step hc h hR2 hq hW (by omega) (fun a k w => ⟨by have := srw_x a k w; omega, by have := srw_x a k w; omega, by have := srw_x a k w; omega, by have := srw_x a k w; omega, by have := srw_x a k w; omega, hht a k w⟩) (fun _ _ w => w.elim) (tape0 h4 h17) ⟨h13, by rw [ex 0 14 (by omega), ex 47 18 (by omega)]; exact p2, by rw [ex 0 15 (by omega), ex 47 46 (by omega)]; exact p3, dk, p4, by rw [ex 0 11 (by omega)]; exact p5', by rw [ex 47 57 (by omega)]; exact p6, fun i hi => by rw [ex 46 i (by omega), ex 77 i (by omega)]; exact p7 i hi⟩ hru.2.2.2.2.2.2.2.2.2, hW.up (fun a k w => Or.inl (by have := srw_x a k w; omega)) (fun _ _ w => w.elim), by omega, by omega, hq⟩
theorem row_no {c : Nat} (hc : c < 600) {M : Mem} (h : INV0 c M) (t2 : mI M 11 4 = nI 0) (t3 : mI M 47 17 = nI 0) : CALL c M (fun M => f_X11_row M 0) (fun M => f_X12_row M 47) := by
  have hC := h.1.1
  have hM := h.1.2.1
  have hC2 := hC
  unfold LayC at hC2
  have rn6 : RN 6 := by unfold RN; omega
  have r1 := c_refuse (M := M) hC (n := 6) rn6
  have ec : f_X11_row M 0 = some (RFC M 6, -(nI 6)) := by
    rw [crow_eq]
    simp only [hC2, grd_T, Option.bind_some]
    rw [t2, if_pos (show nI 0 = 0 from rfl), show (-6 : Int32) = -(nI 6) by decide, r1, Option.bind_some]
  have hMr : LayM (wI (RFC M 6) 47 17 0) := (hM.rfc (n := 6)).w
  have r2 := r_refuses (M := wI (RFC M 6) 47 17 0) hMr (n := 6) rn6
  have hM2 := hM.rfc (n := 6)
  unfold LayM at hM2
  have er : f_X12_row (RFC M 6) 47 = some (RFM (wI (RFC M 6) 47 17 0) 6, -(nI 6)) := by
    rw [rrow_eq, grd_y hM2.1]
    simp only [bv]
    rw [rfc_v.1 47 17 (by decide) (by decide), t3, if_pos (show nI 0 = 0 from rfl), show (-6 : Int32) = -(nI 6) by decide, r2, Option.bind_some]
  have hF2 : Fr Sno M (RFM (wI (RFC M 6) 47 17 0) 6) := fr_rfm ((fr_rfc Fr.rf (by unfold Sno; omega) (fun k => by unfold Sno; omega)).wI (by unfold Sno; omega)) (by unfold Sno; omega) (fun k => by unfold Sno; omega)
  refine ⟨_, _, _, ec, er, INV0.refused hc h hF2 (h.1.2.2.2.2.rf (Y := M) rn6 (fun _ => rfl) (fun k => by rw [mI_wI_row (by decide)]) (by rw [mI_wI_row (by decide)]) (fun k => by rw [mI_wI_row (by decide), rfc_v.1 48 k (by decide) (by decide)])) (tape0 ?_ ?_) ?_ ?_⟩
  · rw [rfm_v.1 11 4 (by decide) (by decide), mI_wI_row (by decide), rfc_v.1 11 4 (by decide) (by decide), t2]
    rfl
  · rw [rfm_v.2.1 17 (by decide), mI_wIs]
  · rw [rfm_v.1 0 14 (by decide) (by decide), mI_wI_row (by decide), rfc_v.2.1 14 (by decide), rfm_v.2.1 18 (by decide), mI_wI_ne (by decide), rfc_v.1 47 18 (by decide) (by decide)]
    exact h.2.2.2.2.2.1.2.1
  · rw [rfm_v.1 0 15 (by decide) (by decide), mI_wI_row (by decide), rfc_v.2.1 15 (by decide), rfm_v.2.1 46 (by decide), mI_wI_ne (by decide), rfc_v.1 47 46 (by decide) (by decide)]
    exact h.2.2.2.2.2.1.2.2.1
def S110 (a _k : Nat) : Prop := a = 11 ∨ a = 0
theorem row_go {c : Nat} (hc : c < 600) {M : Mem} (h : INV0 c M) {n : Nat} {bt : Nat → Nat} (ht : TAPE M n bt) (w : n ≠ 0) : CALL c M (fun M => f_X11_row M 0) (fun M => f_X12_row M 47) := by
  obtain ⟨t1, t2, t3, t4⟩ := ht
  have hC := h.1.1
  have hM := h.1.2.1
  have hC2 := hC
  unfold LayC at hC2
  obtain ⟨A, y, hcs, hks⟩ := h.1.st
  obtain ⟨⟨M1, ca, lo⟩, f1, ⟨a1, a2, a3, a4⟩, a5, a6⟩ := c_row_L hC (n := n) (bt := bt) ⟨t1, t2, fun i hi => ⟨(t4 i hi).1, (t4 i hi).2.1⟩⟩ hcs
  simp only at a1 a2 a3 a4 a5 a6
  generalize hst : rwS bt n y (n + 1) 0 (A, 0, 0) = st at *
  have hC1 := hC.fr a1
  have hC12 := hC1
  unfold LayC at hC12
  have ec : f_X11_row M 0 = some (wI (wI (wI M1 11 4 0) 0 13 lo) 0 12 0, ca) := by
    rw [crow_eq]
    simp only [hC2, grd_T, Option.bind_some]
    rw [t2, if_neg (fun (q : nI n = 0) => w ((neqI (by omega) (by omega)).mp (show nI n = nI 0 from q))), f1, Option.bind_some]
    simp only [hC12, grd_T, Option.bind_some, bv]
    rw [c_accept (M := wI (wI M1 11 4 0) 0 13 lo) hC1.w.w, Option.bind_some]
  have hFa0 : Fr Srw2 M M1 := a1.up (fun _ _ w => Or.inl w)
  have hFa : Fr Srw2 M (wI (wI (wI M1 11 4 0) 0 13 lo) 0 12 0) := ((hFa0.wI (show Srw2 11 4 from Or.inr (Or.inr (Or.inl ⟨rfl, rfl⟩)))).wI (show Srw2 0 13 from Or.inr (Or.inl ⟨rfl, Or.inr rfl⟩))).wI (show Srw2 0 12 from Or.inr (Or.inl ⟨rfl, Or.inl rfl⟩))
  have u12 : mI (wI (wI (wI M1 11 4 0) 0 13 lo) 0 12 0) 0 12 = 0 := mI_wIs
  have u13 : mI (wI (wI (wI M1 11 4 0) 0 13 lo) 0 12 0) 0 13 = lo := by rw [mI_wI_ne (by decide), mI_wIs]
  have u4 : mI (wI (wI (wI M1 11 4 0) 0 13 lo) 0 12 0) 11 4 = 0 := by rw [mI_wI_row (by decide), mI_wI_row (by decide), mI_wIs]
  have ux : ∀ a k, a ≠ 0 → a ≠ 11 → mI (wI (wI (wI M1 11 4 0) 0 13 lo) 0 12 0) a k = mI M1 a k := fun a k w1 w2 => by rw [mI_wI_row w1, mI_wI_row w1, mI_wI_row w2]
  have h78 := h.2.1.1
  have nA1 : mn M1 = mn M := a1.1
  have hF110 : Fw S110 Fno M1 (wI (wI (wI M1 11 4 0) 0 13 lo) 0 12 0) := ((Fw.rf.wI (show S110 11 4 from Or.inl rfl)).wI (show S110 0 13 from Or.inr rfl)).wI (show S110 0 12 from Or.inr rfl)
  have csA : CST (wI (wI (wI M1 11 4 0) 0 13 lo) 0 12 0) st.1 y := a2.fw (by omega) hF110 (fun a k w => by unfold S110 at w; omega)
  generalize wI (wI (wI M1 11 4 0) 0 13 lo) 0 12 0 = Ma at *
  have xa : ∀ a k, 46 ≤ a → mI Ma a k = mI M a k := fun a k w => by rw [ux a k (by omega) (by omega), a1.i (by unfold Sro; omega)]
  have kA : mI Ma 49 = mI M 49 := funext (fun k => xa 49 k (by omega))
  have hMa := hM.fr hFa
  -- the reference
  have hF7 : Fr Sr3 (wI Ma 47 17 0) (wI (wI Ma 47 17 0) 47 12 0) := Fr.rf.wI (show Sr3 47 12 from Or.inr ⟨rfl, rfl⟩)
  have hM7 : LayM (wI Ma 47 17 0) := hMa.w
  have x7 : ∀ a k, a ≠ 47 → mI (wI Ma 47 17 0) a k = mI Ma a k := fun a k w => by rw [mI_wI_row w]
  have tp : TAPX (wI Ma 47 17 0) n bt := ⟨t1, fun i hi => ⟨(t4 i hi).1, by rw [x7 56 i (by decide), xa 56 i (by omega)]; exact (t4 i hi).2.2⟩⟩
  have h0 : RRI (wI Ma 47 17 0) y (A, 0, 0) (wI (wI Ma 47 17 0) 47 12 0) := ⟨hF7, by
    rw [mI_wI_row (by decide), mI_wI_row (by decide), kA]
    exact hks, by rw [mI_wIs]; rfl⟩
  obtain ⟨⟨M2, cb⟩, f2, ⟨b1', b2, b3⟩, b4⟩ := r_row_L hM7 tp h0
  simp only at b1' b2 b3 b4
  rw [hst] at b2 b3 b4
  have hM2a := hMa
  unfold LayM at hM2a
  have er : f_X12_row Ma 47 = some (wI (wI M2 47 0 0) 47 1 (mI M2 47 1 + 1), cb) := by
    rw [rrow_eq, grd_y hM2a.1]
    simp only [bv]
    rw [xa 47 17 (by omega), t3, if_neg (fun (q : nI n = 0) => w ((neqI (by omega) (by omega)).mp (show nI n = nI 0 from q))), f2, Option.bind_some, r_good (hM7.fr b1'), Option.bind_some]
  have hcc : ca = cb := by rw [a5, b4]
  subst hcc
  refine ⟨_, _, _, ec, er, ?_⟩
  have hFz1 : Fr Srw2 M (wI Ma 47 17 0) := hFa.wI (show Srw2 47 17 from Or.inr (Or.inr (Or.inr (Or.inr ⟨rfl, Or.inr rfl⟩))))
  have hFz2 : Fr Srw2 (wI Ma 47 17 0) M2 := b1'.up (fun _ _ w => Or.inr (Or.inr (Or.inr (Or.inl w))))
  have hFz : Fr Srw2 M (wI (wI M2 47 0 0) 47 1 (mI M2 47 1 + 1)) := ((hFz1.tr hFz2).wI (show Srw2 47 0 from Or.inr (Or.inr (Or.inr (Or.inr ⟨rfl, Or.inl (by omega)⟩))))).wI (show Srw2 47 1 from Or.inr (Or.inr (Or.inr (Or.inr ⟨rfl, Or.inl (by omega)⟩))))
  have z0 : mI (wI (wI M2 47 0 0) 47 1 (mI M2 47 1 + 1)) 47 0 = 0 := by rw [mI_wI_ne (by decide), mI_wIs]
  have z1 : mI (wI (wI M2 47 0 0) 47 1 (mI M2 47 1 + 1)) 47 1 = mI M 47 1 + 1 := by rw [mI_wIs, b1'.i (by unfold Sr3; omega), mI_wI_ne (by decide), xa 47 1 (by omega)]
  have zx : ∀ a k, a ≠ 47 → mI (wI (wI M2 47 0 0) 47 1 (mI M2 47 1 + 1)) a k = mI M2 a k := fun a k w => by rw [mI_wI_row w, mI_wI_row w]
  have zk : ∀ k, 2 ≤ k → mI (wI (wI M2 47 0 0) 47 1 (mI M2 47 1 + 1)) 47 k = mI M2 47 k := fun k w => by rw [mI_wI_ne (by omega), mI_wI_ne (by omega)]
  generalize wI (wI M2 47 0 0) 47 1 (mI M2 47 1 + 1) = Mz at *
  have yx : ∀ a k, a < 47 → mI Mz a k = mI Ma a k := fun a k w => by rw [zx a k (by omega), b1'.i (by unfold Sr3; omega), x7 a k (by omega)]
  have nz : mn Mz = mn M := hFz.1
  have csz : CST Mz st.1 y := by
    obtain ⟨s1, s2, s3, s4, s5⟩ := csA
    refine ⟨s1, by rw [yx 1 8 (by omega)]; exact s2, by rw [yx 1 11 (by omega)]; exact s3, s4, fun g e he => ?_⟩
    rw [yx 5 g (by omega), yx 6 g (by omega), yx 7 g (by omega), yx 8 g (by omega)]
    exact s5 g e he
  have k49z : mI Mz 49 = mI M2 49 := funext (fun k => zx 49 k (by decide))
  refine row_y hc h (A2 := st.1) (d := st.1.length - A.length) hks hFz csz (by rw [k49z]; exact b2) (by have := csz.1; omega) ?_ (fun q => ?_) ?_ z0 z1 ?_ ?_ ?_
  · rw [yx 1 14 (by omega), ux 1 14 (by decide) (by decide), a4]
  · have hpre : ∀ f a (s : List (Option Nat × Nat × List Nat) × Nat × Nat), A.length ≤ s.1.length → (s.1.length = A.length → s.1 = A) → A.length ≤ (rwS bt n y f a s).1.length ∧ ((rwS bt n y f a s).1.length = A.length → (rwS bt n y f a s).1 = A) := by
      intro f
      induction f with
      | zero => intro a s h1 h2; exact ⟨h1, h2⟩
      | succ f ih =>
        intro a s h1 h2
        show A.length ≤ (if n ≤ a then s else rwS bt n y f (sE bt n a + 1) (rwU bt y s a (sE bt n a))).1.length ∧ ((if n ≤ a then s else rwS bt n y f (sE bt n a + 1) (rwU bt y s a (sE bt n a))).1.length = A.length → (if n ≤ a then s else rwS bt n y f (sE bt n a + 1) (rwU bt y s a (sE bt n a))).1 = A)
        by_cases z : n ≤ a
        · rw [if_pos z]
          exact ⟨h1, h2⟩
        · rw [if_neg z]
          refine ih _ _ ?_ ?_
          · unfold rwU
            by_cases z2 : sE bt n a ≤ a
            · rw [if_pos z2]; exact h1
            · rw [if_neg z2]
              cases dOf bt a (sE bt n a) with
              | none => exact h1
              | some d =>
                simp only
                by_cases z3 : s.1.length < 12
                · rw [if_pos z3]
                  show _ ≤ (s.1 ++ _).length
                  rw [List.length_append]
                  omega
                · rw [if_neg z3]; exact h1
          · unfold rwU
            by_cases z2 : sE bt n a ≤ a
            · rw [if_pos z2]; exact h2
            · rw [if_neg z2]
              cases dOf bt a (sE bt n a) with
              | none => exact h2
              | some d =>
                simp only
                by_cases z3 : s.1.length < 12
                · rw [if_pos z3]
                  intro q
                  have q : (s.1 ++ _).length = _ := q
                  rw [List.length_append, List.length_singleton] at q
                  omega
                · rw [if_neg z3]; exact h2
    have := (hpre (n + 1) 0 (A, 0, 0) (Nat.le_refl _) (fun _ => rfl)).2
    rw [hst] at this
    exact this (by omega)
  · rw [yx 0 12 (by omega)]; exact u12
  · rw [yx 0 13 (by omega), u13, zk 12 (by omega), b3, a6]
  · rw [yx 11 4 (by omega)]; exact u4
  · rw [zk 17 (by omega), b1'.i (by unfold Sr3; omega), mI_wIs]
theorem both_row {c : Nat} (hc : c < 600) {M : Mem} (h : INV0 c M) : CALL c M (fun M => f_X11_row M 0) (fun M => f_X12_row M 47) := by
  obtain ⟨n, bt, ht⟩ := h.2.2.1
  by_cases w : n = 0
  · subst w
    exact row_no hc h ht.2.1 ht.2.2.1
  · exact row_go hc h ht w
