/-! at() on both sides -/
theorem sw6 {α : Type} {x : Int32} {A B C D E F G : Option α} {a b c d e f : Nat} : swO x (swC 0 [(a, A), (b, B), (c, C), (d, D), (e, E), (f, F)]) G = if x = 0 then A else if x = 1 then B else if x = 2 then C else if x = 3 then D else if x = 4 then E else if x = 5 then F else G := rfl
theorem lay1 {M : Mem} (h : MID M) : mR M 1 3 = some 5 ∧ mR M 1 4 = some 6 ∧ mR M 1 5 = some 7 ∧ okO M 14 5 ∧ okO M 14 6 ∧ okO M 14 7 ∧ mL M 5 = 12 ∧ mL M 6 = 12 ∧ mL M 7 = 12 := by
  have hL := h.1.1
  unfold LayC at hL
  simp only [hL, and_self]
theorem house_of {n : Nat} (hn : n ≤ 12) {p : Int32} (w : 0 ≤ p ∧ p < nI n) : ∃ j, j < n ∧ p = nI j := by
  obtain ⟨j, rfl, hj⟩ := nat_of w.1
  exact ⟨j, (nltI hj (by omega)).mp w.2, rfl⟩
theorem house_in {n j : Nat} (hn : n ≤ 12) (hj : j < n) : 0 ≤ nI j ∧ nI j < nI n := ⟨(nleI (a := 0) (by omega) (by omega)).mpr (by omega), (nltI (by omega) (by omega)).mpr hj⟩
theorem r_atE {M : Mem} (m1 : MID M) {n : Nat} {mo : Nat → Option Nat} {yr : Nat → Nat} {di : Nat → List Nat} (hv : HSV M n mo yr di) {j : Nat} (hj : j < n) (p2 : Int32) : f_X12_at M 47 (nI j) p2 = if p2 = 0 then some (M, oI (mo j)) else if p2 = 1 then some (M, nI (yr j)) else if p2 = 2 then some (M, nI (num (di j))) else if p2 = 3 then some (M, nI (dau mo (nI j) n)) else if p2 = 4 then (if oI (mo j) = (-1) then (some (M, (-1))) else (Option.bind (f_X12_fact M 47 (oI (mo j)) 2) (fun q21 => Option.bind (f_X12_stepsIn M 47 q21 (nI (num (di j))) (nI (yr j))) (fun q30 => some (q30.1, q30.2))))) else if p2 = 5 then some (M, cbk mo di (di j) 12 (mo j) 1) else some (M, -1) := by
  obtain ⟨hn, v1, v2, v3⟩ := id hv
  have hM := m1.1.2.1
  unfold f_X12_at
  rw [grd_y (lyF hM).1, r_isHouse hM hn v1, if_pos (house_in hn hj), Option.bind_some, if_neg (by decide)]
  simp only [bv]
  rw [sw6]
  by_cases w0 : p2 = 0
  · rw [if_pos w0, if_pos w0, w0, r_mo hM hv hj, Option.bind_some]
  rw [if_neg w0, if_neg w0]
  by_cases w1 : p2 = 1
  · rw [if_pos w1, if_pos w1, w1, r_yr hM hv hj, Option.bind_some]
  rw [if_neg w1, if_neg w1]
  by_cases w2 : p2 = 2
  · rw [if_pos w2, if_pos w2, w2, r_di hM hv hj, Option.bind_some]
  rw [if_neg w2, if_neg w2, r_dau hM hv, r_mo hM hv hj, r_di hM hv hj, r_yr hM hv hj, r_cbk hM hv hj]
  simp only [Option.bind_some]
theorem HSV.spc {M M1 : Mem} {n : Nat} {mo : Nat → Option Nat} {yr : Nat → Nat} {di : Nat → List Nat} (hv : HSV M n mo yr di) (h78 : 78 ≤ mn M) (hF : Fw (Spc M) Rpc M M1) : HSV M1 n mo yr di := by
  obtain ⟨hn, v1, v2, v3⟩ := hv
  refine ⟨hn, by rw [spc_47 h78 hF (by omega) (by omega)]; exact v1, by rw [spc_1 h78 hF (by omega)]; exact v2, fun j hj => ?_⟩
  have := v3 j hj
  rw [spc_47 h78 hF (by omega) (by omega), spc_47 h78 hF (by omega) (by omega), spc_47 h78 hF (by omega) (by omega), spc_1 h78 hF (by omega), spc_1 h78 hF (by omega), spc_1 h78 hF (by omega), spc_1 h78 hF (by omega)]
  exact this
theorem Ssi.w {M M1 : Mem} (h : Fr Ssi M M1) : Fw (Spw M) Rpx M M1 := (h.fw (R := Rpx)).up (fun a k w => by
  rcases w with w | w
  · exact Or.inr (Or.inr (Or.inl w))
  · exact Or.inr (Or.inr (Or.inr (Or.inl (by omega))))) (fun _ _ w => w)
theorem hh_m1 {n : Nat} {o : Option Nat} (hn : n ≤ 12) (ho : ∀ m, o = some m → m < n) {α : Type} {X Y : α} : (if (if 0 ≤ oI o ∧ oI o < nI n then (1 : Int32) else 0) = 0 then X else Y) = if oI o = -1 then X else Y := by
  cases o with
  | none => rw [if_neg (show ¬ (0 ≤ oI none ∧ oI none < nI n) from fun q => absurd q.1 (by decide)), if_pos rfl, if_pos (show oI none = -1 from rfl)]
  | some m =>
    have := ho m rfl
    rw [if_pos (show 0 ≤ oI (some m) ∧ oI (some m) < nI n from house_in hn this), if_neg (by decide), if_neg (show ¬ oI (some m) = -1 from neg1_nI (by omega))]
theorem both_at {c : Nat} (hc : c < 600) {M : Mem} (h : INV0 c M) (hP : PTH M) (hN : NXC M) (p1 p2 : Int32) : PCALL c M (fun M => f_X11_at M 0 p1 p2) (fun M => f_X12_at M 47 p1 p2) := by
  obtain ⟨m1, s1⟩ := h.mid
  have h78 := m1.2.1
  obtain ⟨n, mo, yr, di, hv⟩ := h.1.hsv
  obtain ⟨hn, v1, v2, v3⟩ := id hv
  obtain ⟨o1, o2, o3, o4, o5, o6, o7⟩ := lay0 m1
  obtain ⟨a1, a2, a3, a4, a5, a6, a7, a8, a9⟩ := lay1 m1
  have l0 := (lyF m1.1.2.1).1
  have k10 := (okLV m1).1
  by_cases w : 0 ≤ p1 ∧ p1 < nI n
  · obtain ⟨j, hj, rfl⟩ := house_of hn w
    obtain ⟨g1, g2, g3, g4, g5, g6, g7, g8, g9, -⟩ := v3 j hj
    have hf : f_X11_at M 0 (nI j) p2 = if p2 = 0 then some (M, oI (mo j)) else if p2 = 1 then some (M, nI (yr j)) else if p2 = 2 then some (M, nI (num (di j))) else if p2 = 3 then some (M, nI (dau mo (nI j) n)) else if p2 = 4 then (if oI (mo j) = (-1) then (some (M, (-1))) else (grd (vp_in (oI (mo j)) 12) (Option.bind (f_X4_stepsFrom M 32 (mI M 7 (oI (mo j)).toNatClampNeg) (nI (rank (di j))) (nI (yr j))) (fun q48 => some (q48.1, q48.2))))) else if p2 = 5 then some (M, cbk mo di (di j) 12 (mo j) 1) else some (M, -1) := by
      have hmn : ∀ m, mo j = some m → m < n := fun m hm => by
        have := g1 m hm
        omega
      unfold f_X11_at
      have hh : vp_in (nI j) 12 := (nvp (by omega)).mpr (by omega)
      rw [grd_y o1, o2, Option.bind_some, grd_y k10, c_hasHouse m1.1.1 hn v2, if_pos (house_in hn hj), Option.bind_some, if_neg (by decide), Option.bind_some, grd_y k10, a1, Option.bind_some, grd_y a4, a7, grd_y hh, nclampI (by omega), g7]
      simp only [bv]
      rw [sw6]
      simp only [Option.bind_some, a2, a3, o4, grd_y k10, grd_y a5, grd_y a6, a8, a9, grd_y hh, grd_y (okLP m1).1, g8, g9, p_numOf g3, c_dau m1.1.1 hv, c_cbk m1.1.1 hv hj, c_hasHouse m1.1.1 hn v2, hh_m1 hn hmn]
    by_cases w4 : p2 = 4
    · subst w4
      have hf4 : f_X11_at M 0 (nI j) 4 = if oI (mo j) = (-1) then (some (M, (-1))) else (grd (vp_in (oI (mo j)) 12) (Option.bind (f_X4_stepsFrom M 32 (mI M 7 (oI (mo j)).toNatClampNeg) (nI (rank (di j))) (nI (yr j))) (fun q48 => some (q48.1, q48.2)))) := by
        rw [hf, if_neg (by decide), if_neg (by decide), if_neg (by decide), if_neg (by decide), if_pos rfl]
      have hg4 : ∀ M', MID M' → HSV M' n mo yr di → f_X12_at M' 47 (nI j) 4 = if oI (mo j) = (-1) then (some (M', (-1))) else (Option.bind (f_X12_fact M' 47 (oI (mo j)) 2) (fun q21 => Option.bind (f_X12_stepsIn M' 47 q21 (nI (num (di j))) (nI (yr j))) (fun q30 => some (q30.1, q30.2)))) := fun M' hm' hv' => by
        rw [r_atE hm' hv' hj, if_neg (by decide), if_neg (by decide), if_neg (by decide), if_neg (by decide), if_pos rfl]
      clear hf
      cases hmo : mo j with
      | none =>
        rw [hmo] at hf4 hg4
        exact PCALL.same h hP hN (-1) (hf4.trans (if_pos rfl)) ((hg4 M m1 hv).trans (if_pos rfl))
      | some m =>
        rw [hmo] at hf4 hg4
        have hmj := g1 m hmo
        obtain ⟨_, _, e3, _, _, _, _, _, e9, -⟩ := v3 m (by omega)
        have hne : ¬ oI (some m) = -1 := neg1_nI (by omega)
        have r1 := rank_lt e3
        have r2 := rank_lt g3
        obtain ⟨⟨M1, x⟩, ex, i, d, Q, D, ⟨t, k1, f1, pm⟩, ev, hlt, hd⟩ := c_stepsFrom m1 s1 (by omega) g2 r2 r1 hP
        simp only at t k1 f1 pm ev
        rw [if_neg hne, show oI (some m) = nI m from rfl, grd_y (show vp_in (nI m) 12 from (nvp (by omega)).mpr (by omega)), nclampI (a := m) (by omega), e9, ex, Option.bind_some] at hf4
        obtain ⟨n1, op1, -, -, hP1⟩ := t.mid
        have hv1 := hv.spc h78 f1
        obtain ⟨⟨M2, x2⟩, e2, f2, o, ho, hd2⟩ := r_stepsIn n1 g2 e3 g3
        simp only at f2 ho
        have hg := hg4 M1 n1 hv1
        rw [if_neg hne, show oI (some m) = nI m from rfl, r_di n1.1.2.1 hv1 (show m < n by omega), Option.bind_some, e2, Option.bind_some] at hg
        rw [k1] at hd2
        have hD : o = D (rank (di m)) := opt_iff (fun d => by rw [hd2, hd, isD_rk])
        have hx : x2 = x := by rw [ho, ev, hD]
        simp only at hf4 hg
        rw [hx] at hg
        have n1x := n1.2.1
        obtain ⟨mm2, k2⟩ := n1.fr f2 (fun a k w => by unfold Ssi Srv at w; unfold Frl; omega)
        refine ⟨M1, M2, x, hf4, hg, PTQ.mk h (Spw.tr (Spc.w f1) (Ssi.w f2)) ?_ ?_ ((hN.spc h78 f1 k1).e f2 (fun a k w => by unfold Ssi Srv at w; omega)) ((pm.x h78 f1).tr (PMX.fr f2)) (by rw [k2, k1]), KF.mk h78 f1 f2 (fun a k w => by unfold Ssi Srv at w; omega)⟩
        · refine (SCI.fr2 op1.sci n1x f2 (fun a k w => ?_)).mono (by omega)
          unfold Ssi Srv at w
          omega
        · refine hP1.fr n1x f2 (fun a k w => ?_)
          unfold Ssi Srv at w
          omega
    · have hg := r_atE m1 hv hj p2
      rw [if_neg w4] at hf hg
      have : ∃ x, f_X11_at M 0 (nI j) p2 = some (M, x) ∧ f_X12_at M 47 (nI j) p2 = some (M, x) := by
        rw [hf, hg]
        by_cases w0 : p2 = 0
        · exact ⟨_, if_pos w0, if_pos w0⟩
        rw [if_neg w0]
        by_cases w1 : p2 = 1
        · exact ⟨_, if_pos w1, if_pos w1⟩
        rw [if_neg w1]
        by_cases w2 : p2 = 2
        · exact ⟨_, if_pos w2, if_pos w2⟩
        rw [if_neg w2]
        by_cases w3 : p2 = 3
        · exact ⟨_, if_pos w3, if_pos w3⟩
        rw [if_neg w3]
        by_cases w5 : p2 = 5
        · exact ⟨_, if_pos w5, if_pos w5⟩
        rw [if_neg w5]
        exact ⟨_, rfl, rfl⟩
      obtain ⟨x, e1, e2⟩ := this
      exact PCALL.same h hP hN x e1 e2
  · refine PCALL.same h hP hN (-1) ?_ ?_
    · show f_X11_at M 0 _ _ = _
      unfold f_X11_at
      rw [grd_y o1, o2, Option.bind_some, grd_y k10, c_hasHouse m1.1.1 hn v2, if_neg w, Option.bind_some, if_pos rfl]
    · show f_X12_at M 47 _ _ = _
      unfold f_X12_at
      rw [grd_y l0, r_isHouse m1.1.2.1 hn v1, if_neg w, Option.bind_some, if_pos rfl]
