/-! steps() on both sides -/
theorem REL.mid {c : Nat} {M : Mem} (h : INV0 c M) : ∃ y, y ≤ 999 ∧ mI M 49 54 = nI y ∧ mI M 1 11 = nI y := by
  obtain ⟨y, hy, h54⟩ := h.1.2.2.1.2.1.1
  exact ⟨y, hy, h54, h.1.2.2.2.1.2.1.2.2.2.1.trans h54⟩
theorem steps11 {M : Mem} {p1 p2 : Int32} : f_X11_steps M 0 p1 p2 = Option.bind (f_X6_rankOf p1) (fun q1 => Option.bind (f_X6_rankOf p2) (fun q4 => if q1 = (-1) then (some (M, (-1))) else (if q4 = (-1) then (some (M, (-1))) else (grd (okO M 11 0) (Option.bind (mR M 0 6) (fun r8 => Option.bind (mR M 0 0) (fun r9 => grd (okO M 10 r9) (grd (okO M 4 r8) (Option.bind (f_X4_stepsFrom M r8 q1 q4 (mI M r9 11)) (fun q12 => some (q12.1, q12.2))))))))))) := rfl
theorem fI_val {o : Option Nat} (h : ∀ d, o = some d → d < 9331) {α : Type} (M : α) : (if fI o = (1000000 : Int32) then some (M, (-1 : Int32)) else some (M, fI o)) = some (M, oI o) := by
  by_cases w : o = none
  · rw [if_pos ((fI_eq h).mpr w), w]
    rfl
  · rw [if_neg (fun q => w ((fI_eq h).mp q))]
    cases o with
    | none => exact absurd rfl w
    | some d => rfl
theorem NXC.spc {M M1 : Mem} (h : NXC M) (h78 : 78 ≤ mn M) (hF : Fw (Spc M) Rpc M M1) (hK : mI M1 49 = mI M 49) : NXC M1 := by
  have e : ∀ a k, 47 ≤ a → a < 78 → mI M1 a k = mI M a k := fun a k w1 w2 => hF.i (by omega) (fun q => by
    rcases q with q | q | q | q <;> omega)
  rcases h with h | ⟨nb, ve, y, h1, h2, h3, h4, h5, h6, h7⟩
  · left
    rw [e 47 34 (by omega) (by omega)]
    exact h
  · right
    refine ⟨nb, ve, y, by rw [e 47 34 (by omega) (by omega)]; exact h1, by rw [e 47 1 (by omega) (by omega)]; exact h2, h3, h4, by rw [hK]; exact h5, h6, fun q p hp => ?_⟩
    obtain ⟨a1, a2⟩ := h7 q p hp
    rw [hK]
    exact ⟨by rw [e 64 p (by omega) (by omega)]; exact a1, fun i c hc => by rw [e 63 _ (by omega) (by omega)]; exact a2 i c hc⟩
theorem spc_47 {M M1 : Mem} (h78 : 78 ≤ mn M) (hF : Fw (Spc M) Rpc M M1) {a k : Nat} (h1 : 33 ≤ a) (h2 : a < 78) : mI M1 a k = mI M a k := hF.i (by omega) (fun q => by
    rcases q with q | q | q | q <;> omega)
theorem spc_1 {M M1 : Mem} (h78 : 78 ≤ mn M) (hF : Fw (Spc M) Rpc M M1) {a k : Nat} (h2 : a ≤ 20) : mI M1 a k = mI M a k := hF.i (by omega) (fun q => by
    rcases q with q | q | q | q <;> omega)
theorem both_steps {c : Nat} (hc : c < 600) {M : Mem} (h : INV0 c M) (hP : PTH M) (hN : NXC M) (p1 p2 : Int32) : PCALL c M (fun M => f_X11_steps M 0 p1 p2) (fun M => f_X12_steps M 47 p1 p2) := by
  obtain ⟨m1, s1⟩ := h.mid
  have h78 := m1.2.1
  rcases dn_or p1 with ⟨l1, d1, rfl⟩ | w1
  · rcases dn_or p2 with ⟨l2, d2, rfl⟩ | w2
    · obtain ⟨y, hy, h54, e11⟩ := REL.mid h
      obtain ⟨ve, hv, hve⟩ := h.2.1.2.2.2.2
      have r1 := rank_lt d1
      have r2 := rank_lt d2
      obtain ⟨o1, o2, o3, o4, o5, o6, o7⟩ := lay0 m1
      obtain ⟨⟨M1, x⟩, ex, i, d, Q, D, ⟨t, k1, f1, pm⟩, ev, hlt, hd⟩ := c_stepsFrom m1 s1 (by omega) hy r2 r1 hP
      simp only at t k1 f1 pm ev
      have hf : f_X11_steps M 0 (nI (num l1)) (nI (num l2)) = some (M1, x) := by
        rw [steps11, p_rank_y d1, Option.bind_some, p_rank_y d2, Option.bind_some, if_neg (neg1_nI (by omega)), if_neg (neg1_nI (by omega)), grd_y o1, o4, Option.bind_some, o2, Option.bind_some, grd_y (okLV m1).1, grd_y (okLP m1).1, e11, ex, Option.bind_some]
      obtain ⟨n1, op1, -, -, hP1⟩ := t.mid
      have hN1 := hN.spc h78 f1 k1
      have hT := r_measures n1 hN1 hy (by rw [k1]; exact h54) (by rw [spc_47 h78 f1 (by omega) (by omega)]; exact hv) (by omega) r1
      obtain ⟨M2, e2, f2, n2, k2, x2, -, D', d1', d2', d3'⟩ := hT
      obtain ⟨l0, la, lb, lc, -⟩ := lyF n2.1.2.1
      rw [k1] at d3'
      have hD : D' (rank l2) = D (rank l1) := opt_iff (fun d => by rw [d3', hd, isD_rk])
      have hg : f_X12_steps M1 47 (nI (num l1)) (nI (num l2)) = some (M2, x) := by
        unfold f_X12_steps
        rw [p_dish_y d1, Option.bind_some, if_neg (by decide), p_dish_y d2, Option.bind_some, if_neg (by decide), p_placeOf d1, Option.bind_some, grd_y (lyF n1.1.2.1).1, e2, Option.bind_some, la, Option.bind_some, p_placeOf d2, Option.bind_some, grd_y lb, lc, grd_y ((nvp (by omega)).mpr r2), nclampI (by omega), d1' _ r2, Option.bind_some, Option.bind_some, grd_y lb, lc, grd_y ((nvp (by omega)).mpr r2), nclampI (by omega), d1' _ r2]
        rw [fI_val (fun e q => d2' _ e q), hD, ev]
      have n1x := n1.2.1
      refine ⟨M1, M2, x, hf, hg, PTQ.mk h (Spw.tr (Spc.w f1) (Sms.w f2)) ?_ ?_ x2 ((pm.x h78 f1).tr (PMX.fr f2)) (by rw [k2, k1]), KF.mk h78 f1 f2 (fun a k w => by unfold Sms Snx Srv at w; omega)⟩
      · refine (SCI.fr2 op1.sci n1x f2 (fun a k w => ?_)).mono (by omega)
        unfold Sms Snx Srv at w
        omega
      · refine hP1.fr n1x f2 (fun a k w => ?_)
        unfold Sms Snx Srv at w
        omega
    · refine PCALL.same h hP hN (-1) ?_ ?_
      · show f_X11_steps M 0 _ _ = _
        rw [steps11, p_rank_y d1, Option.bind_some, p_rankOf_n w2, Option.bind_some, if_neg (neg1_nI (by have := rank_lt d1; omega)), if_pos rfl]
      · show f_X12_steps M 47 _ _ = _
        unfold f_X12_steps
        rw [p_dish_y d1, Option.bind_some, if_neg (by decide), p_isDish_n w2, Option.bind_some, if_pos rfl]
  · refine PCALL.same h hP hN (-1) ?_ ?_
    · show f_X11_steps M 0 _ _ = _
      rw [steps11, p_rankOf_n w1, Option.bind_some]
      rcases dn_or p2 with ⟨l2, d2, rfl⟩ | w2
      · rw [p_rank_y d2, Option.bind_some, if_pos rfl]
      · rw [p_rankOf_n w2, Option.bind_some, if_pos rfl]
    · show f_X12_steps M 47 _ _ = _
      unfold f_X12_steps
      rw [p_isDish_n w1, Option.bind_some, if_pos rfl]
