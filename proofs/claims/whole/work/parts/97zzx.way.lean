/-! way() on both sides -/
theorem numR {r : Nat} (hr : r < 9331) : f_X6_numberOf (nI r) = some (nI (num (dR r))) := by
  obtain ⟨h1, h2⟩ := dR_v hr
  have := p_numOf h1
  rw [h2] at this
  exact this
def Swr (a k : Nat) : Prop := Sms a k ∨ a = 67
theorem Swr.w {M M1 : Mem} (h : Fr Swr M M1) : Fw (Spw M) Rpx M M1 := (h.fw (R := Rpx)).up (fun a k w => by
  rcases w with ((w | w | w | w) | w) | w
  · exact Or.inr (Or.inr (Or.inl w))
  · exact Or.inr (Or.inr (Or.inr (Or.inl (by omega))))
  · exact Or.inr (Or.inr (Or.inr (Or.inl (by omega))))
  · exact Or.inr (Or.inr (Or.inr (Or.inr (Or.inr (Or.inl w)))))
  · exact Or.inr (Or.inr (Or.inr (Or.inl (by omega))))
  · exact Or.inr (Or.inr (Or.inr (Or.inl (by omega))))) (fun _ _ w => w)
/-- the end of a call: the class's memory M1 is in step, the reference has gone on to M2 -/
theorem PTQ.end {c B y : Nat} {M M1 M2 : Mem} (h : INV0 c M) (f1 : Fw (Spc M) Rpc M M1) (n1 : MID M1) (hS : SCI B M1) (hB : B ≤ 300 * (c + 1)) (hP1 : PTH M1) (pm : PMN M M1) (k1 : mI M1 49 = mI M 49) (f2 : Fr Swr M1 M2) (x2 : NXC M2) : PTQ c M M2 ∧ KF M M2 := by
  have n1x := n1.2.1
  have h78 := h.2.1.1
  have k2 : mI M2 49 = mI M1 49 := by
    funext k
    exact f2.i (by unfold Swr Sms Snx Srv; omega)
  refine ⟨PTQ.mk h (Spw.tr (Spc.w f1) (Swr.w f2)) ?_ ?_ x2 ((pm.x h78 f1).tr (PMX.fr f2)) (by rw [k2, k1]), KF.mk h78 f1 f2 (fun a k w => by unfold Swr Sms Snx Srv at w; omega)⟩
  · refine (SCI.fr2 hS n1x f2 (fun a k w => ?_)).mono hB
    unfold Swr Sms Snx Srv at w
    omega
  · refine hP1.fr n1x f2 (fun a k w => ?_)
    unfold Swr Sms Snx Srv at w
    omega
/-- the reference's way -/
theorem r_way {M : Mem} (h : MID M) (hx : NXC M) {y ve : Nat} (hy : y ≤ 999) (h54 : mI M 49 54 = nI y) (hv : mI M 47 1 = nI ve) (hve : ve < 2147483648) {l1 l2 : List Nat} (d1 : DL l1) (d2 : DL l2) {ii : Nat} (hii : ii < 2147483648) : TT (f_X12_way M 47 (nI (num l1)) (nI (num l2)) (nI ii)) (fun q => Fr Swr M q.1 ∧ NXC q.1 ∧ ((q.2 = -1 ∧ ∀ e, isD (adjK (mI M 49) y) (rank l1) (rank l2) e → e < ii) ∨ ∃ e r, isD (adjK (mI M 49) y) (rank l1) (rank l2) e ∧ ii ≤ e ∧ r < 9331 ∧ wsq (mI M 49) y (rank l2) (rank l1) e ii r ∧ q.2 = nI (num (dR r)))) := by
  have r1 := rank_lt d1
  have r2 := rank_lt d2
  rw [way12, p_dish_y d1, Option.bind_some, if_neg (by decide), p_dish_y d2, Option.bind_some, if_neg (by decide), if_pos (show (0 : Int32) ≤ nI ii from (nleI (a := 0) (by omega) hii).mpr (by omega)), p_placeOf d1, Option.bind_some, grd_y (lyF h.1.2.1).1, TT_bind]
  refine (r_measures h hx hy h54 hv hve r1).mono ?_
  rintro M2 ⟨f2, n2, k2, x2, nx2, D, g1, g2, g3⟩
  obtain ⟨l0, la, lb, lc, -⟩ := lyF n2.1.2.1
  rw [la, Option.bind_some, p_placeOf d2, Option.bind_some, grd_y lb, lc, grd_y ((nvp (by omega)).mpr r2), nclampI (by omega), g1 _ r2, TT_bv]
  have f2' : Fr Swr M M2 := f2.up (fun a k w => Or.inl w)
  by_cases w : D (rank l2) = none
  · rw [if_pos ((fI_eq (fun d q => g2 _ d q)).mpr w), TT_some]
    refine ⟨f2', x2, Or.inl ⟨rfl, fun e he => ?_⟩⟩
    rw [(g3 _ e).mpr he] at w
    cases w
  · rw [if_neg (fun q => w ((fI_eq (fun d q => g2 _ d q)).mp q))]
    cases hD : D (rank l2) with
    | none => exact absurd hD w
    | some e =>
      have he9 := g2 _ e hD
      have hi := (g3 _ e).mp hD
      show TT (if nI ii ≤ nI e then _ else _) _
      by_cases w2 : ii ≤ e
      · rw [if_pos ((nleI hii (by omega)).mpr w2), TT_bind]
        refine (r_wl0 n2.1.2.1 d2).mono ?_
        rintro M3 ⟨f3, L3⟩
        have hW : WCT M2 (mI M 49) y D := ⟨n2.1.2.1, nx2, g1, g2⟩
        have hkt := h.kth
        rw [TT_bv, show fI (some e) - 1 = nI e - 1 from rfl, TT_bind]
        refine (r_wl1 hkt (hW.fr f3) g3 r2 hD L3).mono ?_
        rintro M4 ⟨B, f4, L4, b4⟩
        rw [Option.bind_some, TT_bind]
        refine (r_wf0 hkt ((hW.fr f3).fr f4) g3 r1 r2 hD w2 L4 b4).mono ?_
        rintro x ⟨r, rfl, hr, hw⟩
        rw [dR_at hr, Option.bind_some, TT_some]
        have f34 : Fr S67 M2 M4 := f3.tr f4
        refine ⟨f2'.tr (f34.up (fun a k w => Or.inr w)), x2.e f34 (fun a k w => by unfold S67 at w; omega), Or.inr ⟨e, r, hi, w2, hr, hw, rfl⟩⟩
      · rw [if_neg (fun q => w2 ((nleI hii (by omega)).mp q)), TT_some]
        refine ⟨f2', x2, Or.inl ⟨rfl, fun e' he' => ?_⟩⟩
        have := isD_un hi he'
        omega
theorem both_way {c : Nat} (hc : c < 600) {M : Mem} (h : INV0 c M) (hP : PTH M) (hN : NXC M) (p1 p2 p3 : Int32) : PCALL c M (fun M => f_X11_way M 0 p1 p2 p3) (fun M => f_X12_way M 47 p1 p2 p3) := by
  obtain ⟨m1, s1⟩ := h.mid
  have h78 := m1.2.1
  rcases dn_or p1 with ⟨l1, d1, rfl⟩ | w1
  · have r1 := rank_lt d1
    rcases dn_or p2 with ⟨l2, d2, rfl⟩ | w2
    · have r2 := rank_lt d2
      by_cases w3 : 0 ≤ p3
      · obtain ⟨ii, rfl, hii⟩ := nat_of w3
        obtain ⟨y, hy, h54, e11⟩ := REL.mid h
        obtain ⟨ve, hv, hve⟩ := h.2.1.2.2.2.2
        obtain ⟨o1, o2, o3, o4, o5, o6, o7⟩ := lay0 m1
        obtain ⟨⟨M1, x⟩, ex, i, d, Q, D, ⟨t, k1, f1, pm⟩, ev, hlt, hd⟩ := c_stepsFrom m1 s1 (by omega) hy r2 r1 hP
        simp only at t k1 f1 pm ev
        obtain ⟨n1, op1, hT1, -, hP1⟩ := t.mid
        have c0 : f_X11_way M 0 (nI (num l1)) (nI (num l2)) (nI ii) = if x = (-1) then (some (M1, (-1))) else (if nI ii ≤ x then (Option.bind (mR M1 0 6) (fun r17 => Option.bind (mR M1 0 0) (fun r18 => grd (okO M1 10 r18) (grd (okO M1 4 r17) (Option.bind (f_X4_tableTo M1 r17 (nI (rank l2)) (mI M1 r18 11)) (fun q21 => Option.bind (loopO (wy0 0 (nI ii) q21.2) (q21.1, nI (rank l1), x, 0)) (fun (x33 : Mem × Int32) => Option.bind (f_X6_numberOf x33.2) (fun q49 => some (x33.1, q49))))))))) else (some (M1, (-1)))) := by
          rw [way11, p_rank_y d1, Option.bind_some, p_rank_y d2, Option.bind_some, if_neg (neg1_nI (by omega)), if_neg (neg1_nI (by omega)), if_pos w3, grd_y o1, o4, Option.bind_some, o2, Option.bind_some, grd_y (okLV m1).1, grd_y (okLP m1).1, e11, ex, Option.bind_some]
        -- the class's end
        have cend : ∃ M3 z B', f_X11_way M 0 (nI (num l1)) (nI (num l2)) (nI ii) = some (M3, z) ∧ MID M3 ∧ SCI B' M3 ∧ B' ≤ 300 * (c + 1) ∧ PTH M3 ∧ mI M3 49 = mI M 49 ∧ Fw (Spc M) Rpc M M3 ∧ PMN M M3 ∧ ((z = -1 ∧ ∀ e, isD (adjK (mI M 49) y) (rank l1) (rank l2) e → e < ii) ∨ ∃ e r, isD (adjK (mI M 49) y) (rank l1) (rank l2) e ∧ ii ≤ e ∧ r < 9331 ∧ wsq (mI M 49) y (rank l2) (rank l1) e ii r ∧ z = nI (num (dR r))) := by
          cases hDr : D (rank l1) with
          | none =>
            rw [hDr] at ev
            refine ⟨M1, -1, _, by rw [c0, if_pos (show x = -1 from ev)], n1, op1.sci, by omega, hP1, k1, f1, pm, Or.inl ⟨rfl, fun e he => ?_⟩⟩
            have := (hd e).mpr (isD_rk.mp he)
            rw [hDr] at this
            cases this
          | some e =>
            rw [hDr] at ev
            have he9 := hlt e hDr
            have hi := isD_rk.mpr ((hd e).mp hDr)
            have hne : ¬ x = -1 := by
              rw [ev]
              exact neg1_nI (by omega)
            by_cases w2 : ii ≤ e
            · have hle : nI ii ≤ x := by
                rw [ev]
                exact (nleI hii (by omega)).mpr w2
              rw [if_neg hne, if_pos hle] at c0
              obtain ⟨b1', b2, b3, b4, b5, b6, b7⟩ := lay0 n1
              have e11' : mI M1 1 11 = nI y := by rw [spc_1 h78 f1 (by omega)]; exact e11
              obtain ⟨⟨M2, d'⟩, et, hdd, t2, k2, f2, pm2⟩ := c_tableTo2 t (by omega) hy r2
              simp only at hdd t2 k2 f2 pm2
              subst hdd
              obtain ⟨⟨M3, x3⟩, el, M3', r, hz, hr, hw, f3, t3, k3⟩ := c_wy0 t2 (by omega) r1 hDr w2 he9
              cases hz
              obtain ⟨n3, op3, -, -, hP3⟩ := t3.mid
              rw [b4, Option.bind_some, b2, Option.bind_some, grd_y (okLV n1).1, grd_y (okLP n1).1, e11', et, Option.bind_some] at c0
              simp only at c0
              rw [ev, show oI (some e) = nI e from rfl, el, Option.bind_some] at c0
              simp only at c0
              rw [numR hr, Option.bind_some] at c0
              rw [k2, k1] at hw
              refine ⟨M3, _, _, c0, n3, op3.sci, by omega, hP3, by rw [k3, k2, k1], Spc.tr f1 (Spc.tr f2 ((f3.fw).up (fun a k w => ?_) (fun _ _ w => w))), (pm.tr pm2).tr (PMN.fr f3), Or.inr ⟨e, r, hi, w2, hr, hw, rfl⟩⟩
              unfold Sla Ssc at w
              exact Or.inr (Or.inl (by omega))
            · have hle : ¬ nI ii ≤ x := by
                rw [ev]
                exact fun q => w2 ((nleI hii (by omega)).mp q)
              refine ⟨M1, -1, _, by rw [c0, if_neg hne, if_neg hle], n1, op1.sci, by omega, hP1, k1, f1, pm, Or.inl ⟨rfl, fun e' he' => ?_⟩⟩
              have := isD_un hi he'
              omega
        obtain ⟨M3, z, B', hf, n3, s3, hB', hP3, k3, f3, pm3, hz⟩ := cend
        obtain ⟨⟨M4, z4⟩, hg, f4, x4, hz4⟩ := r_way n3 (hN.spc h78 f3 k3) hy (by rw [k3]; exact h54) (by rw [spc_47 h78 f3 (by omega) (by omega)]; exact hv) (by omega) d1 d2 hii
        simp only at f4 x4 hz4
        rw [k3] at hz4
        have ez : z4 = z := by
          rcases hz with ⟨a1, a2⟩ | ⟨e, r, a1, a2, a3, a4, a5⟩
          · rcases hz4 with ⟨b1', b2⟩ | ⟨e', r', b1', b2, b3, b4, b5⟩
            · rw [a1, b1']
            · have := a2 e' b1'
              omega
          · rcases hz4 with ⟨b1', b2⟩ | ⟨e', r', b1', b2, b3, b4, b5⟩
            · have := b2 e a1
              omega
            · have := isD_un a1 b1'
              subst this
              have := wsq_un _ _ _ a4 b4
              subst this
              rw [a5, b5]
        subst ez
        exact ⟨M3, M4, z4, hf, hg, PTQ.end (y := y) h f3 n3 s3 hB' hP3 pm3 k3 f4 x4⟩
      · refine PCALL.same h hP hN (-1) ?_ ?_
        · show f_X11_way M 0 _ _ _ = _
          rw [way11, p_rank_y d1, Option.bind_some, p_rank_y d2, Option.bind_some, if_neg (neg1_nI (by omega)), if_neg (neg1_nI (by omega)), if_neg w3]
        · show f_X12_way M 47 _ _ _ = _
          rw [way12, p_dish_y d1, Option.bind_some, if_neg (by decide), p_dish_y d2, Option.bind_some, if_neg (by decide), if_neg w3]
    · refine PCALL.same h hP hN (-1) ?_ ?_
      · show f_X11_way M 0 _ _ _ = _
        rw [way11, p_rank_y d1, Option.bind_some, p_rankOf_n w2, Option.bind_some, if_neg (neg1_nI (by omega)), if_pos rfl]
      · show f_X12_way M 47 _ _ _ = _
        rw [way12, p_dish_y d1, Option.bind_some, if_neg (by decide), p_isDish_n w2, Option.bind_some, if_pos rfl]
  · refine PCALL.same h hP hN (-1) ?_ ?_
    · show f_X11_way M 0 _ _ _ = _
      rw [way11, p_rankOf_n w1, Option.bind_some]
      rcases dn_or p2 with ⟨l2, d2, rfl⟩ | w2
      · rw [p_rank_y d2, Option.bind_some, if_pos rfl]
      · rw [p_rankOf_n w2, Option.bind_some, if_pos rfl]
    · show f_X12_way M 47 _ _ _ = _
      rw [way12, p_isDish_n w1, Option.bind_some, if_pos rfl]
