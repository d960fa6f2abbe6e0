/-! LINES: the class -/
theorem tl_eq (b : Nat) : ∀ h k, (tl b (h + k)).length ≤ (tl b h).length → tl b (h + k) = tl b h
  | h, 0, _ => rfl
  | h, k + 1, hl => by
    have m1 := tl_mono b h k
    have m2 := tl_mono b (h + k) 1
    rw [show h + k + 1 = h + (k + 1) from by omega] at m2
    have ih := tl_eq b h k (by omega)
    rw [show h + (k + 1) = (h + k) + 1 from by omega, tl] at hl ⊢
    split at hl
    · rw [List.length_append, List.length_singleton] at hl
      omega
    · rename_i w
      rw [if_neg w]
      exact ih
noncomputable def tk0 (a0 : Nat) : Mem × Int32 → Option ((Mem × Int32) ⊕ (Mem)) := (fun s14 => if 12 ≤ s14.2 then (some (.inr s14.1)) else (if 6 ≤ (mI s14.1 a0 7) then (some (.inr s14.1)) else (bv (fun (s24 : Mem) => bv (s14.2 + 1 : Int32) (fun x28 => some (.inl (s24, x28)))) (fun j23 => if ((sr (mI s14.1 a0 8) s14.2) &&& 1) = 1 then (Option.bind (mR s14.1 a0 0) (fun r29 => grd (okO s14.1 14 r29) (grd (vp_in (mI s14.1 a0 7) (mL s14.1 r29)) (bv (wI s14.1 r29 (mI s14.1 a0 7).toNatClampNeg s14.2) (fun M32 => bv (wI M32 a0 7 ((mI M32 a0 7) + 1)) (fun M36 => j23 M36)))))) else (j23 s14.1)))))
theorem take_eq {M : Mem} {a0 : Nat} {p1 p2 : Int32} : f_X5_take M a0 p1 p2 = grd (okO M 5 a0) (bv (wI M a0 8 p1) (fun M2 => bv (wI M2 a0 9 p2) (fun M6 => bv (wI M6 a0 7 0) (fun M10 => Option.bind (loopO (tk0 a0) (M10, 0)) (fun (x21 : Mem) => some x21))))) := rfl
def Stk5 (a k : Nat) : Prop := a = 35 ∨ (a = 34 ∧ 7 ≤ k ∧ k ≤ 9)
theorem c_take5 {M : Mem} (hC : LayC M) {b : Nat} (hb : b < 4096) (h6 : (tl b 12).length ≤ 6) {v : Int32} : TT (f_X5_take M 34 (nI b) v) (fun M1 => Fr Stk5 M M1 ∧ mI M1 34 7 = nI (tl b 12).length ∧ mI M1 34 8 = nI b ∧ mI M1 34 9 = v ∧ TLD2 M1 35 (tl b 12)) := by
  rw [take_eq, grd_y (lyP hC).1, TT_bv, TT_bv, TT_bv]
  have f0 : Fr Stk5 M (wI (wI (wI M 34 8 (nI b)) 34 9 v) 34 7 0) := ((Fr.rf.wI (Or.inr ⟨rfl, by omega⟩)).wI (Or.inr ⟨rfl, by omega⟩)).wI (Or.inr ⟨rfl, by omega⟩)
  have e8 : mI (wI (wI (wI M 34 8 (nI b)) 34 9 v) 34 7 0) 34 8 = nI b := by rw [mI_wI_ne (by omega), mI_wI_ne (by omega), mI_wIs]
  have e9 : mI (wI (wI (wI M 34 8 (nI b)) 34 9 v) 34 7 0) 34 9 = v := by rw [mI_wI_ne (by omega), mI_wIs]
  have e7 : mI (wI (wI (wI M 34 8 (nI b)) 34 9 v) 34 7 0) 34 7 = nI 0 := mI_wIs
  generalize wI (wI (wI M 34 8 (nI b)) 34 9 v) 34 7 0 = M0 at f0 e8 e9 e7
  rw [TT_bind]
  refine (TT_for 12 (fun h s => ∃ M', s = (M', nI h) ∧ Fr Stk5 M M' ∧ mI M' 34 7 = nI (tl b h).length ∧ mI M' 34 8 = nI b ∧ mI M' 34 9 = v ∧ TLD2 M' 35 (tl b h)) (Q := fun M1 => Fr Stk5 M M1 ∧ mI M1 34 7 = nI (tl b 12).length ∧ mI M1 34 8 = nI b ∧ mI M1 34 9 = v ∧ TLD2 M1 35 (tl b 12)) ?_ (Nat.zero_le _) ⟨M0, rfl, f0, e7, e8, e9, fun j u e => by simp [tl] at e⟩).mono (fun x hx => TT_some.mpr hx)
  rintro h s hh ⟨M', rfl, hF, q7, q8, q9, hT⟩
  obtain ⟨p1, p2, p3, -⟩ := lyP2 (hC.fr hF)
  have hmono := tl_mono b h (12 - h)
  rw [show h + (12 - h) = 12 from by omega] at hmono
  unfold tk0
  simp only
  rw [q7, q8]
  have c12 : ((12 : Int32) ≤ nI h) ↔ 12 ≤ h := by
    rw [show (12 : Int32) = nI 12 from rfl, nleI (by omega) (by omega)]
  by_cases w : h = 12
  · rw [if_pos (c12.mpr (by omega)), TT_some]
    subst w
    exact ⟨hF, q7, q8, q9, hT⟩
  · rw [if_neg (fun q => w (by have := c12.mp q; omega))]
    by_cases w2 : 6 ≤ (tl b h).length
    · rw [if_pos (show (6 : Int32) ≤ nI (tl b h).length from show nI 6 ≤ nI (tl b h).length from (nleI (by omega) (by omega)).mpr w2), TT_some]
      have e := tl_eq b h (12 - h) (by rw [show h + (12 - h) = 12 from by omega]; omega)
      rw [show h + (12 - h) = 12 from by omega] at e
      rw [e]
      exact ⟨hF, q7, q8, q9, hT⟩
    · rw [if_neg (show ¬ (6 : Int32) ≤ nI (tl b h).length from fun q : nI 6 ≤ nI (tl b h).length => w2 ((nleI (by omega) (by omega)).mp q)), TT_bv]
      by_cases wb : b.testBit h = true
      · have e1 : tl b (h + 1) = tl b h ++ [h] := by rw [tl, if_pos wb]
        have hlen : (tl b (h + 1)).length = (tl b h).length + 1 := by rw [e1, List.length_append]; rfl
        rw [if_pos ((bit_n (by omega) (by omega)).mpr wb), p1, Option.bind_some, grd_y p2, p3, grd_y ((nvp (by omega)).mpr (by omega)), nclampI (by omega), TT_bv, mI_wI_row (by omega), q7, nsucc, TT_bv, TT_bv, TT_some]
        refine ⟨by omega, _, by rw [nsucc], (hF.wI (Or.inl rfl)).wI (Or.inr ⟨rfl, by omega⟩), by rw [mI_wIs, hlen], by rw [mI_wI_ne (by omega), mI_wI_row (by omega)]; exact q8, by rw [mI_wI_ne (by omega), mI_wI_row (by omega)]; exact q9, ?_⟩
        rw [e1]
        have := hT.add (v := h)
        intro j u e
        rw [mI_wI_row (by omega)]
        exact this j u e
      · have e1 : tl b (h + 1) = tl b h := by rw [tl, if_neg wb]
        rw [if_neg (fun q => wb ((bit_n (by omega) (by omega)).mp q)), TT_bv, TT_some]
        exact ⟨by omega, M', by rw [nsucc], hF, by rw [e1]; exact q7, q8, q9, by rw [e1]; exact hT⟩
theorem c_houseAt {M : Mem} (hC : LayC M) {L : List Nat} (hL : L.length ≤ 6) (h7 : mI M 34 7 = nI L.length) (hT : TLD2 M 35 L) {i u : Nat} (hi : L[i]? = some u) : f_X5_houseAt M 34 (nI i) = some (nI u) := by
  obtain ⟨l1, -⟩ := lyP hC
  obtain ⟨p1, p2, p3, -⟩ := lyP2 hC
  have hl := (List.getElem?_eq_some_iff.mp hi).1
  unfold f_X5_houseAt
  rw [if_neg (ltz (by omega)), grd_y l1, h7, if_neg (fun q => by have := (nleI (by omega) (by omega)).mp q; omega), p1, Option.bind_some, grd_y p2, p3, grd_y ((nvp (by omega)).mpr (by omega)), nclampI (by omega), hT i u hi]
theorem c_setSteps {M : Mem} (hC : LayC M) {i j : Nat} (hi : i < 6) (hj : j < 6) {o : Option Nat} (ho : ∀ d, o = some d → d < 9331) : f_X5_setSteps M 34 (nI i) (nI j) (oI o) = some (wI M 36 (i * 6 + j) (nI (fN o))) := by
  obtain ⟨l1, l2, l3, l4, -⟩ := lyP hC
  unfold f_X5_setSteps
  simp only [bv]
  rw [show nI i * 6 = nI (i * 6) from nmul i 6, nadd, if_neg (ltz (by omega)), grd_y l1, l2, Option.bind_some, grd_y l3, l4, if_neg (fun q => by have := (nleI (by omega) (by omega)).mp q; omega), Option.bind_some, grd_y l3, grd_y l3, grd_y ((nvp (by omega)).mpr (by omega)), grd_y ((nvp (by omega)).mpr (by omega)), nclampI (by omega)]
  cases o with
  | none =>
    rw [if_pos (show oI none = -1 from rfl)]
    rfl
  | some d =>
    have := ho d rfl
    rw [if_neg (show ¬ oI (some d) = -1 from neg1_nI (by omega))]
    rfl
noncomputable def lc0 (a0 : Nat) (q7 : Int32) : Mem × Int32 → Option ((Mem × Int32) ⊕ (Mem)) := (fun s42 => if (q7 * q7) ≤ s42.2 then (some (.inr s42.1)) else (Option.bind (mR s42.1 a0 0) (fun r51 => grd (okO s42.1 10 r51) (Option.bind (mR s42.1 r51 5) (fun r53 => Option.bind (mR s42.1 a0 7) (fun r54 => grd (¬ q7 = 0) (grd (okO s42.1 5 r54) (Option.bind (f_X5_houseAt s42.1 r54 (ir s42.2 q7)) (fun q57 => grd (okO s42.1 14 r53) (grd (vp_in q57 (mL s42.1 r53)) (bv (mI s42.1 r53 q57.toNatClampNeg : Int32) (fun x62 => Option.bind (mR s42.1 a0 0) (fun r63 => grd (okO s42.1 10 r63) (Option.bind (mR s42.1 r63 5) (fun r65 => Option.bind (mR s42.1 a0 7) (fun r66 => grd (¬ q7 = 0) (grd (okO s42.1 5 r66) (Option.bind (f_X5_houseAt s42.1 r66 (s42.2 / q7)) (fun q69 => grd (okO s42.1 14 r65) (grd (vp_in q69 (mL s42.1 r65)) (bv (mI s42.1 r65 q69.toNatClampNeg : Int32) (fun x74 => Option.bind (mR s42.1 a0 7) (fun r75 => grd (¬ q7 = 0) (grd (¬ q7 = 0) (Option.bind (mR s42.1 a0 6) (fun r78 => Option.bind (mR s42.1 a0 0) (fun r79 => grd (okO s42.1 10 r79) (grd (okO s42.1 4 r78) (Option.bind (f_X4_stepsFrom s42.1 r78 x62 x74 (mI s42.1 r79 11)) (fun q82 => grd (okO q82.1 5 r75) (Option.bind (f_X5_setSteps q82.1 r75 (ir s42.2 q7) (s42.2 / q7) q82.2) (fun q88 => bv (s42.2 + 1 : Int32) (fun x93 => some (.inl (q88, x93)))))))))))))))))))))))))))))))))))
/-- what the class's lines() leaves alone -/
def B42 (M M1 : Mem) : Prop := (∀ a k, 42 ≤ a → a < 78 → mI M1 a k = mI M a k) ∧ (∀ k, 4 ≤ k → mI M1 32 k = mI M 32 k) ∧ mR M1 32 4 = mR M 32 4 ∧ Fw (Spw M) Rpx M M1 ∧ PMX M M1 ∧ mI M1 49 = mI M 49
theorem B42.tr {M M1 M2 : Mem} (h : B42 M M1) (h2 : B42 M1 M2) : B42 M M2 := ⟨fun a k w1 w2 => (h2.1 a k w1 w2).trans (h.1 a k w1 w2), fun k hk => (h2.2.1 k hk).trans (h.2.1 k hk), h2.2.2.1.trans h.2.2.1, Spw.tr h.2.2.2.1 h2.2.2.2.1, h.2.2.2.2.1.tr h2.2.2.2.2.1, h2.2.2.2.2.2.trans h.2.2.2.2.2⟩
theorem B42.fr {S : Nat → Nat → Prop} {M M1 : Mem} (hF : Fr S M M1) (hs : ∀ a k, S a k → 34 ≤ a ∧ a ≤ 41) : B42 M M1 := ⟨fun a k w1 w2 => hF.i (fun q => by have := hs a k q; omega), fun k hk => hF.i (fun q => by have := hs 32 k q; omega), by rw [hF.2.2.2.2.1], (hF.fw (R := Rpx)).up (fun a k w => Or.inr (Or.inl (hs a k w))) (fun _ _ w => w), PMX.fr hF, funext (fun k => hF.i (fun q => by have := hs 49 k q; omega))⟩
theorem B42.spc {M M1 : Mem} (h78 : 78 ≤ mn M) (f1 : Fw (Spc M) Rpc M M1) (pm : PMN M M1) (k1 : mI M1 49 = mI M 49) : B42 M M1 := ⟨fun a k w1 w2 => spc_47 h78 f1 (by omega) w2, fun k hk => f1.i (by omega) (fun q => by rcases q with q | q | q | q <;> omega), f1.r (by omega) (fun q => by
      rcases q with q | q
      · have := q.1; omega
      · omega), Spc.w f1, pm.x h78 f1, k1⟩
def LCI (K : Nat → Int32) (B y n : Nat) (mo : Nat → Option Nat) (yr : Nat → Nat) (di : Nat → List Nat) (L : List Nat) (M : Mem) (q : Nat) (M' : Mem) : Prop := MID M' ∧ SCI (B + q) M' ∧ PTH M' ∧ HSV M' n mo yr di ∧ mI M' 34 7 = nI L.length ∧ TLD2 M' 35 L ∧ B42 M M' ∧ (mI M' 34 8 = mI M 34 8 ∧ mI M' 34 9 = mI M 34 9) ∧ ∀ i j, i < L.length → j < L.length → j * L.length + i < q → mI M' 36 (i * 6 + j) = nI (Wt K y di L i j)
theorem six_inj {i j a b : Nat} (h : i * 6 + j = a * 6 + b) (h1 : j < 6) (h2 : b < 6) : i = a ∧ j = b := by omega
theorem c_lc0 {B y n : Nat} {mo : Nat → Option Nat} {yr : Nat → Nat} {di : Nat → List Nat} {L : List Nat} {M : Mem} (hB : B + 36 < 16776000) (hy : y ≤ 999) (h54 : mI M 49 54 = nI y) (hL0 : 0 < L.length) (hL : L.length ≤ 6) (hLn : ∀ j v : Nat, L[j]? = some v → v < n) (hdl : ∀ g p e, g < 9331 → dst (mI M 49) y g p = some e → e < 9331) (h0 : LCI (mI M 49) B y n mo yr di L M 0 M) : TT (loopO (lc0 0 (nI L.length)) (M, 0)) (fun M1 => LCI (mI M 49) B y n mo yr di L M (L.length * L.length) M1) := by
  have hsq : L.length * L.length ≤ 36 := Nat.mul_le_mul hL hL
  refine TT_for (L.length * L.length) (fun q s => ∃ M', s = (M', nI q) ∧ LCI (mI M 49) B y n mo yr di L M q M') ?_ (Nat.zero_le _) ⟨M, rfl, h0⟩
  rintro q s hq ⟨M', rfl, hI⟩
  obtain ⟨m1, s1, hP, hv, h7, hT, hB42, ⟨c8, c9⟩, hW⟩ := id hI
  have h78 := m1.2.1
  obtain ⟨o1, o2, o3, o4, o5, o6, o7⟩ := lay0 m1
  obtain ⟨a1, a2, a3, a4, a5, a6, a7, a8, a9⟩ := lay1 m1
  have k10 := (okLV m1).1
  have k1 : mI M' 49 = mI M 49 := hB42.2.2.2.2.2
  unfold lc0
  simp only
  rw [nmul]
  by_cases w : q = L.length * L.length
  · rw [if_pos ((nleI (by omega) (by omega)).mpr (by omega)), TT_some]
    subst w
    exact hI
  · have hlt : q < L.length * L.length := by omega
    have hi : q % L.length < L.length := Nat.mod_lt _ hL0
    have hj : q / L.length < L.length := Nat.div_lt_of_lt_mul hlt
    have hqe : q / L.length * L.length + q % L.length = q := by rw [Nat.mul_comm]; exact Nat.div_add_mod q L.length
    have hci := List.getElem?_eq_getElem hi
    have hcj := List.getElem?_eq_getElem hj
    generalize L[q % L.length] = u at hci
    generalize L[q / L.length] = v at hcj
    have hun := hLn _ u hci
    have hvn := hLn _ v hcj
    have hn := hv.1
    obtain ⟨-, -, g3, -, -, -, -, -, g9, -⟩ := hv.2.2.2 u hun
    obtain ⟨-, -, e3, -, -, -, -, -, e9, -⟩ := hv.2.2.2 v hvn
    have r1 := rank_lt g3
    have r2 := rank_lt e3
    have e11 : mI M' 1 11 = nI y := by
      rw [m1.1.2.2.2.1.2.1.2.2.2.1, k1]
      exact h54
    have hne : ¬ nI L.length = 0 := fun z : nI L.length = nI 0 => by have := (neqI (by omega) (by omega)).mp z; omega
    rw [if_neg (fun z => w (by have := (nleI (by omega) (by omega)).mp z; omega)), o2, Option.bind_some, grd_y k10, a3, Option.bind_some, o5, Option.bind_some, grd_y hne, grd_y o7, nrem (by omega) (by omega) hL0, c_houseAt m1.1.1 hL h7 hT hci, Option.bind_some, grd_y a6, a9, grd_y ((nvp (by omega)).mpr (by omega)), nclampI (a := u) (by omega), g9, TT_bv, Option.bind_some, grd_y k10, a3, Option.bind_some, Option.bind_some, grd_y hne, grd_y o7, ndiv (by omega) (by omega) hL0, c_houseAt m1.1.1 hL h7 hT hcj, Option.bind_some, grd_y a6, a9, grd_y ((nvp (by omega)).mpr (by omega)), nclampI (a := v) (by omega), e9, TT_bv, Option.bind_some, grd_y hne, grd_y hne, o4, Option.bind_some, Option.bind_some, grd_y k10, grd_y (okLP m1).1, e11, TT_bind]
    refine (c_stepsFrom m1 s1 (by omega) hy r2 r1 hP).mono ?_
    rintro ⟨M1, z⟩ ⟨ii, d, Q, D, ⟨t, kk1, f1, pm⟩, ev, hdlt, hd⟩
    simp only at t kk1 f1 pm ev ⊢
    obtain ⟨n1, op1, -, -, hP1⟩ := t.mid
    obtain ⟨l1, l2, l3, l4, -⟩ := lyP n1.1.1
    rw [grd_y l1, ev, c_setSteps n1.1.1 (by omega) (by omega) hdlt, Option.bind_some, TT_bv, TT_some]
    have hWv : Wt (mI M 49) y di L (q % L.length) (q / L.length) = fN (D (rank (di u))) := by
      rw [Wt_v hci hcj (fun e he => hdl _ _ e r2 he)]
      congr 1
      refine opt_iff (fun e => ?_)
      rw [dst_iff, hd, k1]
    have f2 : Fr (fun a k => a = 36) M1 (wI M1 36 (q % L.length * 6 + q / L.length) (nI (fN (D (rank (di u)))))) := Fr.rf.wI rfl
    have v2 : ∀ k, mI (wI M1 36 (q % L.length * 6 + q / L.length) (nI (fN (D (rank (di u)))))) 36 k = if k = q % L.length * 6 + q / L.length then nI (fN (D (rank (di u)))) else mI M1 36 k := fun k => by
      rw [mI_wI]
      by_cases z : k = q % L.length * 6 + q / L.length
      · rw [if_pos ⟨rfl, z⟩, if_pos z]
      · rw [if_neg (fun y => z y.2), if_neg z]
    generalize wI M1 36 (q % L.length * 6 + q / L.length) (nI (fN (D (rank (di u))))) = M2 at f2 v2
    have n1x := n1.2.1
    obtain ⟨n2, k2⟩ := n1.fr f2 (fun a k w => by unfold Frl; omega)
    have b1' : B42 M' M1 := B42.spc h78 f1 pm kk1
    have b2 : B42 M1 M2 := B42.fr f2 (fun a k w => by omega)
    have i34 : ∀ a k, 34 ≤ a → a < 36 → mI M2 a k = mI M' a k := fun a k w1 w2 => by
      rw [f2.i (by omega)]
      exact spc_47 h78 f1 (by omega) (by omega)
    refine ⟨hlt, M2, by rw [nsucc], n2, (SCI.fr2 op1.sci n1x f2 (fun a k w => by omega)), hP1.fr n1x f2 (fun a k w => by omega), (hv.spc h78 f1).fr f2 (fun a k w => by omega), by rw [i34 34 7 (by omega) (by omega)]; exact h7, fun jj vv e => by rw [i34 35 jj (by omega) (by omega)]; exact hT jj vv e, hB42.tr (b1'.tr b2), ⟨by rw [i34 34 8 (by omega) (by omega)]; exact c8, by rw [i34 34 9 (by omega) (by omega)]; exact c9⟩, fun i j hi' hj' hlt' => ?_⟩
    rw [v2]
    by_cases zz : i * 6 + j = q % L.length * 6 + q / L.length
    · obtain ⟨y1, y2⟩ := six_inj zz (by omega) (by omega)
      rw [if_pos zz, ← hWv, y1, y2]
    · rw [if_neg zz, spc_47 h78 f1 (by omega) (by omega)]
      refine hW i j hi' hj' ?_
      refine Nat.lt_of_le_of_ne (by omega) (fun ee => zz ?_)
      have h1 : i = q % L.length := by rw [← ee, Nat.mul_comm, Nat.mul_add_mod, Nat.mod_eq_of_lt hi']
      have h2 : j = q / L.length := by rw [← ee, Nat.mul_comm, Nat.mul_add_div hL0, Nat.div_eq_of_lt hi', Nat.add_zero]
      rw [← h1, ← h2]
