/-! what the class's scale tells -/
noncomputable def wtJ (M : Mem) (p1 p2 p3 p4 p5 : Int32) : Option (Mem × Int32) := grd (okO M 8 21) (ncase (mR M 21 3) (some (M, 1)) (fun r6 => bv ((((((((p1 * 6) + p2) * 6) + p3) * 6) + p4) * 6) + p5 : Int32) (fun x7 => if x7 < 0 then (some (M, (-1))) else (if x7 < 6480 then (Option.bind (mR M 21 2) (fun r8 => grd (okO M 14 r8) (grd (vp_in x7 (mL M r8)) (bv (fun (s12 : Mem) => Option.bind (mR s12 21 2) (fun r16 => grd (okO s12 14 r16) (grd (vp_in x7 (mL s12 r16)) (some (s12, ((mI s12 r16 x7.toNatClampNeg) &&& 127) - 1))))) (fun j11 => if (sr (mI M r8 x7.toNatClampNeg) 7) = (mI M 21 4) then (j11 M) else (Option.bind (mR M 21 1) (fun r19 => grd (okO M 3 r19) (Option.bind (mR M r19 0) (fun r21 => grd (okO M 14 r21) (grd (vp_in 0 (mL M r21)) (bv (wI M r21 (0 : Int32).toNatClampNeg p1) (fun M24 => grd (vp_in 1 (mL M24 r21)) (bv (wI M24 r21 (1 : Int32).toNatClampNeg p2) (fun M30 => grd (vp_in 2 (mL M30 r21)) (bv (wI M30 r21 (2 : Int32).toNatClampNeg p3) (fun M36 => grd (vp_in 3 (mL M36 r21)) (bv (wI M36 r21 (3 : Int32).toNatClampNeg p4) (fun M42 => grd (vp_in 4 (mL M42 r21)) (bv (wI M42 r21 (4 : Int32).toNatClampNeg p5) (fun M48 => Option.bind (mR M48 21 0) (fun r53 => grd (okO M48 10 r53) (Option.bind (mR M48 r53 0) (fun r55 => grd (okO M48 14 r55) (grd (vp_in p2 (mL M48 r55)) (grd (vp_in 5 (mL M48 r21)) (bv (wI M48 r21 (5 : Int32).toNatClampNeg (mI M48 r55 p2.toNatClampNeg)) (fun M59 => grd (vp_in 6 (mL M59 r21)) (bv (wI M59 r21 (6 : Int32).toNatClampNeg (mI M59 21 6)) (fun M65 => Option.bind (mR M65 21 0) (fun r70 => grd (okO M65 10 r70) (grd (vp_in 7 (mL M65 r21)) (bv (wI M65 r21 (7 : Int32).toNatClampNeg (mI M65 r70 12)) (fun M73 => Option.bind (mR M73 21 2) (fun r78 => Option.bind (f_X8_askLaw M73 21) (fun q79 => grd (okO q79.1 14 r78) (grd (vp_in x7 (mL q79.1 r78)) (bv (wI q79.1 r78 x7.toNatClampNeg (((sl (mI M73 21 4) 7) + q79.2) + 1)) (fun M87 => j11 M87)))))))))))))))))))))))))))))))))))))) else (some (M, (-1)))))))
theorem weightOf_eq {M : Mem} {p1 p2 p3 p4 p5 : Int32} : f_X8_weightOf M 21 p1 p2 p3 p4 p5 = if p1 = 1 then (grd (okO M 8 21) (Option.bind (mR M 21 0) (fun r97 => grd (okO M 10 r97) (Option.bind (mR M r97 1) (fun r99 => grd (okO M 14 r99) (grd (vp_in p2 (mL M r99)) (if (mI M r99 p2.toNatClampNeg) = 0 then (some (M, (-1))) else (wtJ M p1 p2 p3 p4 p5)))))))) else (if p1 = 3 then (grd (okO M 8 21) (Option.bind (mR M 21 0) (fun r97 => grd (okO M 10 r97) (Option.bind (mR M r97 1) (fun r99 => grd (okO M 14 r99) (grd (vp_in p2 (mL M r99)) (if (mI M r99 p2.toNatClampNeg) = 0 then (some (M, (-1))) else (wtJ M p1 p2 p3 p4 p5)))))))) else wtJ M p1 p2 p3 p4 p5) := rfl
noncomputable def wtT (M87 : Mem) (x7 : Int32) : Option (Mem × Int32) := (Option.bind (mR M87 21 2) (fun r16 => grd (okO M87 14 r16) (grd (vp_in x7 (mL M87 r16)) (some (M87, ((mI M87 r16 x7.toNatClampNeg) &&& 127) - 1)))))
noncomputable def wtA (M : Mem) (p1 p2 p3 p4 p5 x7 : Int32) : Option (Mem × Int32) := (Option.bind (mR M 21 1) (fun r19 => grd (okO M 3 r19) (Option.bind (mR M r19 0) (fun r21 => grd (okO M 14 r21) (grd (vp_in 0 (mL M r21)) (bv (wI M r21 (0 : Int32).toNatClampNeg p1) (fun M24 => grd (vp_in 1 (mL M24 r21)) (bv (wI M24 r21 (1 : Int32).toNatClampNeg p2) (fun M30 => grd (vp_in 2 (mL M30 r21)) (bv (wI M30 r21 (2 : Int32).toNatClampNeg p3) (fun M36 => grd (vp_in 3 (mL M36 r21)) (bv (wI M36 r21 (3 : Int32).toNatClampNeg p4) (fun M42 => grd (vp_in 4 (mL M42 r21)) (bv (wI M42 r21 (4 : Int32).toNatClampNeg p5) (fun M48 => Option.bind (mR M48 21 0) (fun r53 => grd (okO M48 10 r53) (Option.bind (mR M48 r53 0) (fun r55 => grd (okO M48 14 r55) (grd (vp_in p2 (mL M48 r55)) (grd (vp_in 5 (mL M48 r21)) (bv (wI M48 r21 (5 : Int32).toNatClampNeg (mI M48 r55 p2.toNatClampNeg)) (fun M59 => grd (vp_in 6 (mL M59 r21)) (bv (wI M59 r21 (6 : Int32).toNatClampNeg (mI M59 21 6)) (fun M65 => Option.bind (mR M65 21 0) (fun r70 => grd (okO M65 10 r70) (grd (vp_in 7 (mL M65 r21)) (bv (wI M65 r21 (7 : Int32).toNatClampNeg (mI M65 r70 12)) (fun M73 => Option.bind (mR M73 21 2) (fun r78 => Option.bind (f_X8_askLaw M73 21) (fun q79 => grd (okO q79.1 14 r78) (grd (vp_in x7 (mL q79.1 r78)) (bv (wI q79.1 r78 x7.toNatClampNeg (((sl (mI M73 21 4) 7) + q79.2) + 1)) (fun M87 => wtT M87 x7)))))))))))))))))))))))))))))))))
theorem wtJ_eq {M : Mem} {p1 p2 p3 p4 p5 : Int32} : wtJ M p1 p2 p3 p4 p5 = grd (okO M 8 21) (ncase (mR M 21 3) (some (M, 1)) (fun r6 => bv ((((((((p1 * 6) + p2) * 6) + p3) * 6) + p4) * 6) + p5 : Int32) (fun x7 => if x7 < 0 then (some (M, (-1))) else (if x7 < 6480 then (Option.bind (mR M 21 2) (fun r8 => grd (okO M 14 r8) (grd (vp_in x7 (mL M r8)) ((if (sr (mI M r8 x7.toNatClampNeg) 7) = (mI M 21 4) then (wtT M x7) else (wtA M p1 p2 p3 p4 p5 x7)))))) else (some (M, (-1))))))) := rfl
def cix (s t p n h : Nat) : Nat := (((s * 6 + t) * 6 + p) * 6 + n) * 6 + h
def oN (o : Option Nat) : Nat := match o with
  | none => 0
  | some w => w + 1
/-- a LAW looks at no more than 8 words -/
def LOC8 (sms : List SM) : Prop := ∀ W W' : Nat → Int32, (∀ i, i < 8 → W i = W' i) → lawS sms W = lawS sms W'
/-- the weights that the scale keeps -/
def CLB (M : Mem) (tn : Nat) : Prop := ∀ s t p n h, s < 5 → t < 6 → p < 6 → n < 6 → h < 6 → ∃ v, mI M 25 (cix s t p n h) = nI v ∧ v < 2147483648 ∧ v / 128 ≤ tn
def CELLS (M : Mem) (tn : Nat) (lw : Nat → Nat → Nat → Nat → Nat → Option Nat) : Prop := ∀ s t p n h, s < 5 → t < 6 → p < 6 → n < 6 → h < 6 → ∃ v, mI M 25 (cix s t p n h) = nI v ∧ v < 2147483648 ∧ v / 128 ≤ tn ∧ (v / 128 = tn → v % 128 = oN (lw s t p n h))
theorem oN_I (o : Option Nat) : nI (oN o) - 1 = oI o := by
  cases o with
  | none => rfl
  | some w => rw [show (1 : Int32) = nI 1 from rfl, show oN (some w) = w + 1 from rfl, nsub (by omega)]; rfl
theorem oN_I1 (a : Nat) (o : Option Nat) : nI a + oI o + 1 = nI (a + oN o) := by
  cases o with
  | none =>
    rw [show oI none = -1 from rfl, show oN none = 0 from rfl, Int32.add_assoc, show (-1 : Int32) + 1 = 0 by decide, Int32.add_zero]
    rfl
  | some w => rw [show oI (some w) = nI w from rfl, nadd, nsucc]; rfl
theorem hit_v {v : Nat} {o : Option Nat} (h : v % 128 = oN o) : (nI v &&& 127) - 1 = oI o := by
  rw [show (127 : Int32) = nI 127 from rfl, and_n, show v &&& 127 = v % 128 from Nat.and_two_pow_sub_one_eq_mod v 7, h, oN_I]
theorem cix_lt {s t p n h : Nat} (hs : s < 5) (ht : t < 6) (hp : p < 6) (hn : n < 6) (hh : h < 6) : cix s t p n h < 6480 := by
  unfold cix
  omega
theorem cix_inj {s t p n h s' t' p' n' h' : Nat} (ht : t < 6) (hp : p < 6) (hn : n < 6) (hh : h < 6) (ht' : t' < 6) (hp' : p' < 6) (hn' : n' < 6) (hh' : h' < 6) (e : cix s t p n h = cix s' t' p' n' h') : s = s' ∧ t = t' ∧ p = p' ∧ n = n' ∧ h = h' := by
  unfold cix at e
  omega
/-- the scale, over a kept text -/
def SCT (tx cr ca : Nat) (cls : List CL) (C : Nat → Nat) (L : Nat) (sms : List SM) (K : Nat → Int32) (y tn : Nat) (gt : Nat → Bool) (M : Mem) : Prop := mR M 21 3 = some tx ∧ LTX M tx cr ca cls C L ∧ mI M 21 4 = nI tn ∧ mI M 21 6 = nI y ∧ (∀ t, t < 6 → mI M 2 t = K t ∧ (mI M 3 t = 0 ↔ gt t = false)) ∧ mI M 1 12 = K 55 ∧ CELLS M tn (fun s t p n h => lwL (some sms) K y s t p n h)
def S23 (a _k : Nat) : Prop := a = 23
theorem fr23 {M M' : Mem} (h : Fr S23 M M') (k : Nat) (v : Int32) : Fr S23 M (wI M' 23 k v) := h.wI (show S23 23 k from rfl)
noncomputable def M23 (M : Mem) (v0 v1 v2 v3 v4 v5 v6 v7 : Int32) : Mem := wI (wI (wI (wI (wI (wI (wI (wI M 23 0 v0) 23 1 v1) 23 2 v2) 23 3 v3) 23 4 v4) 23 5 v5) 23 6 v6) 23 7 v7
theorem M23_fr {M : Mem} {v0 v1 v2 v3 v4 v5 v6 v7 : Int32} : Fr S23 M (M23 M v0 v1 v2 v3 v4 v5 v6 v7) := by
  unfold M23
  exact fr23 (fr23 (fr23 (fr23 (fr23 (fr23 (fr23 (fr23 Fr.rf 0 _) 1 _) 2 _) 3 _) 4 _) 5 _) 6 _) 7 _
theorem M23_at {M : Mem} {v0 v1 v2 v3 v4 v5 v6 v7 : Int32} {i : Nat} (hi : i < 8) : mI (M23 M v0 v1 v2 v3 v4 v5 v6 v7) 23 i = if i = 0 then v0 else if i = 1 then v1 else if i = 2 then v2 else if i = 3 then v3 else if i = 4 then v4 else if i = 5 then v5 else if i = 6 then v6 else v7 := by
  unfold M23
  have hc : i = 0 ∨ i = 1 ∨ i = 2 ∨ i = 3 ∨ i = 4 ∨ i = 5 ∨ i = 6 ∨ i = 7 := by omega
  rcases hc with rfl | rfl | rfl | rfl | rfl | rfl | rfl | rfl <;> simp [mI_wI]
theorem w_step {M : Mem} (hL : LayC M) {C : Nat → Nat} {L : Nat} {K : Nat → Int32} {y s t p n h : Nat} (hs : s < 5) (ht : t < 6) (hp : p < 6) (hlt : cix s t p n h < 6480) (b4 : mI M 21 6 = nI y) (b5 : mI M 2 t = K t) (b6 : mI M 1 12 = K 55) : ∃ M8, Fr S23 M M8 ∧ (∀ i, i < 8 → mI M8 23 i = WRD K y s t p n h i) ∧ wtA M (nI s) (nI t) (nI p) (nI n) (nI h) (nI (cix s t p n h)) = Option.bind (f_X8_askLaw M8 21) (fun q79 => grd (okO q79.1 14 25) (grd (vp_in (nI (cix s t p n h)) (mL q79.1 25)) (wtT (wI q79.1 25 (cix s t p n h) (((sl (mI M8 21 4) 7) + q79.2) + 1)) (nI (cix s t p n h))))) := by
  have c0 : (0 : Int32).toNatClampNeg = 0 := by decide
  have c1 : (1 : Int32).toNatClampNeg = 1 := by decide
  have c2 : (2 : Int32).toNatClampNeg = 2 := by decide
  have c3 : (3 : Int32).toNatClampNeg = 3 := by decide
  have c4 : (4 : Int32).toNatClampNeg = 4 := by decide
  have c5 : (5 : Int32).toNatClampNeg = 5 := by decide
  have c6 : (6 : Int32).toNatClampNeg = 6 := by decide
  have c7 : (7 : Int32).toNatClampNeg = 7 := by decide
  have v88 : ∀ {k : Nat}, k < 88 → vp_in (nI k) 88 := fun hk => (nvp (by omega)).mpr hk
  refine ⟨M23 M (nI s) (nI t) (nI p) (nI n) (nI h) (mI M 2 t) (mI M 21 6) (mI M 1 12), M23_fr, fun i hi => ?_, ?_⟩
  · rw [M23_at hi, b4, b5, b6]
    rfl
  · rw [M23_fr.i (show ¬ S23 21 4 by unfold S23; omega)]
    unfold wtA
    unfold LayC at hL
    simp only [bv, hL, grd_T, Option.bind_some, mR_wI, ok_wI, mL_wI, c0, c1, c2, c3, c4, c5, c6, c7]
    simp only [mI_wI_row (a := 23) (b := 2) (by decide), mI_wI_row (a := 23) (b := 21) (by decide), mI_wI_row (a := 23) (b := 1) (by decide)]
    have w0 : vp_in 0 88 := v88 (k := 0) (by omega)
    have w1 : vp_in 1 88 := v88 (k := 1) (by omega)
    have w2 : vp_in 2 88 := v88 (k := 2) (by omega)
    have w3 : vp_in 3 88 := v88 (k := 3) (by omega)
    have w4 : vp_in 4 88 := v88 (k := 4) (by omega)
    have w5 : vp_in 5 88 := v88 (k := 5) (by omega)
    have w6 : vp_in 6 88 := v88 (k := 6) (by omega)
    have w7 : vp_in 7 88 := v88 (k := 7) (by omega)
    have wt : vp_in (nI t) 6 := (nvp (by omega)).mpr (by omega)
    rw [grd_y w0, grd_y w1, grd_y w2, grd_y w3, grd_y w4, grd_y wt, grd_y w5, grd_y w6, grd_y w7, nclampI (show cix s t p n h < 2147483648 by omega), nclampI (show t < 2147483648 by omega)]
    rfl
theorem WSp_text {tx cr ca L : Nat} {cls : List CL} {C : Nat → Nat} {sms : List SM} {K : Nat → Int32} {y tn : Nat} {gt : Nat → Bool} (hS : SMS C L cls sms) (hloc : LOC8 sms) (hne : 78 ≤ tx ∧ 78 ≤ cr ∧ 78 ≤ ca) (htn : tn < 16777216) : WSp (SCT tx cr ca cls C L sms K y tn gt) gt (fun s t p n h => lwL (some sms) K y s t p n h) := by
  refine ⟨fun M hL hSC s t p n h hs ht hp hn hh => ?_, fun s t p n h w e => lwL_le e, fun S M M1 hS1 hF hSC => ?_⟩
  · obtain ⟨b1', b2, b3, b4, b5, b6, b7⟩ := hSC
    have hL0 := hL
    have hgate : (s = 1 ∨ s = 3) → mI M 3 t = 0 → TT (some (M, (-1 : Int32))) (fun q => Fr Ssc M q.1 ∧ SCT tx cr ca cls C L sms K y tn gt q.1 ∧ q.2 = oI (wq gt (fun s t p n h => lwL (some sms) K y s t p n h) s t p n h)) := by
      intro w1 w2
      refine ⟨_, rfl, Fr.rf, ⟨b1', b2, b3, b4, b5, b6, b7⟩, ?_⟩
      unfold wq
      rw [if_pos ⟨w1, (b5 t ht).2.mp w2⟩]
      rfl
    have hx : (((nI s * 6 + nI t) * 6 + nI p) * 6 + nI n) * 6 + nI h = nI (cix s t p n h) := by
      rw [show (6 : Int32) = nI 6 from rfl, nmul, nadd, nmul, nadd, nmul, nadd, nmul, nadd]
      rfl
    have hlt := cix_lt hs ht hp (show n < 6 by omega) (show h < 6 by omega)
    have main : (s = 1 ∨ s = 3 → gt t = true) → TT (wtJ M (nI s) (nI t) (nI p) (nI n) (nI h)) (fun q => Fr Ssc M q.1 ∧ SCT tx cr ca cls C L sms K y tn gt q.1 ∧ q.2 = oI (wq gt (fun s t p n h => lwL (some sms) K y s t p n h) s t p n h)) := by
      intro hg
      have ew : wq gt (fun s t p n h => lwL (some sms) K y s t p n h) s t p n h = lwL (some sms) K y s t p n h := by
        unfold wq
        rw [if_neg (fun w => by rw [hg w.1] at w; cases w.2)]
      rw [ew]
      have hT : ∀ M1, Fr Ssc M M1 → SCT tx cr ca cls C L sms K y tn gt M1 → (∃ v, mI M1 25 (cix s t p n h) = nI v ∧ v % 128 = oN (lwL (some sms) K y s t p n h)) → TT (wtT M1 (nI (cix s t p n h))) (fun q => Fr Ssc M q.1 ∧ SCT tx cr ca cls C L sms K y tn gt q.1 ∧ q.2 = oI (lwL (some sms) K y s t p n h)) := by
        rintro M1 hF hSC1 ⟨v, v1, v2⟩
        have hL1 := hL0.fr hF
        unfold LayC at hL1
        unfold wtT
        simp only [hL1, grd_T, Option.bind_some]
        rw [grd_y ((nvp (by omega)).mpr (by omega)), nclampI (by omega), v1, TT_some, hit_v v2]
        exact ⟨hF, hSC1, rfl⟩
      obtain ⟨v, v1, v2, -, v3⟩ := b7 s t p n h hs ht hp (by omega) (by omega)
      have key : wtJ M (nI s) (nI t) (nI p) (nI n) (nI h) = if v / 128 = tn then wtT M (nI (cix s t p n h)) else wtA M (nI s) (nI t) (nI p) (nI n) (nI h) (nI (cix s t p n h)) := by
        rw [wtJ_eq]
        simp only [bv, b1', ncase, hx]
        have y0 : okO M 8 21 := by unfold LayC at hL; simp only [hL]
        have y1 : mR M 21 2 = some 25 := by unfold LayC at hL; simp only [hL]
        have y2 : okO M 14 25 := by unfold LayC at hL; simp only [hL]
        have y3 : mL M 25 = 6480 := by unfold LayC at hL; simp only [hL]
        rw [grd_y y0, if_neg (show ¬ nI (cix s t p n h) < 0 by rw [show (0 : Int32) = nI 0 from rfl, nltI (by omega) (by omega)]; omega), if_pos (show nI (cix s t p n h) < 6480 by rw [show (6480 : Int32) = nI 6480 from rfl, nltI (by omega) (by omega)]; omega), y1, Option.bind_some, grd_y y2, y3, grd_y ((nvp (by omega)).mpr (by omega)), nclampI (by omega), v1, show (7 : Int32) = nI 7 from rfl, sr_n v2 (by omega), b3]
        by_cases w : v / 128 = tn
        · rw [if_pos w, if_pos (show nI (v / 2 ^ 7) = nI tn by rw [← w])]
        · rw [if_neg w, if_neg (fun q => w ((neqI (by omega) (by omega)).mp q))]
      rw [key]
      by_cases w : v / 128 = tn
      · rw [if_pos w]
        exact hT M Fr.rf ⟨b1', b2, b3, b4, b5, b6, b7⟩ ⟨v, v1, v3 w⟩
      · rw [if_neg w]
        obtain ⟨M8, m1, m2, m3⟩ := w_step (C := C) (L := L) hL0 (K := K) (y := y) (n := n) (h := h) hs ht hp hlt b4 (b5 t ht).1 b6
        rw [m3, TT_bind]
        have F8 : Fr Ssc M M8 := m1.up (fun a k w => Or.inl w)
        have hX8 : LTX M8 tx cr ca cls C L := b2.fr m1 (by unfold S23; omega) (fun k => by unfold S23; omega) (fun k => by unfold S23; omega)
        refine (c_askLaw (W := fun i => mI M8 23 i) hS ⟨by omega, by omega, by omega⟩ (hL0.fr m1) (by rw [m1.2.2.2.2.1]; exact b1') hX8 (fun i _ => rfl)).mono ?_
        rintro ⟨M9, o⟩ ⟨n1, n2⟩
        simp only at n1 n2 ⊢
        have elaw : lawS sms (fun i => mI M8 23 i) = lwL (some sms) K y s t p n h := hloc _ _ m2
        rw [elaw] at n2
        generalize hO : lwL (some sms) K y s t p n h = O at n2 hT
        have hO99 : oN O ≤ 100 := by
          cases O with
          | none => exact Nat.zero_le _
          | some w => have := lwL_le hO; unfold oN; simp only; omega
        have F9 : Fr Ssc M M9 := F8.tr (n1.up (fun a k w => Or.inr (Or.inl w)))
        have hL9 := hL0.fr F9
        have y2 : okO M9 14 25 := by unfold LayC at hL9; simp only [hL9]
        have y3 : mL M9 25 = 6480 := by unfold LayC at hL9; simp only [hL9]
        have e4 : mI M8 21 4 = nI tn := by rw [m1.i (by unfold S23; omega)]; exact b3
        rw [grd_y y2, y3, grd_y ((nvp (by omega)).mpr (by omega)), e4, show (7 : Int32) = nI 7 from rfl, sl_n (by omega), n2, oN_I1]
        have FA : Fr Ssc M (wI M9 25 (cix s t p n h) (nI (tn * 2 ^ 7 + oN O))) := F9.wI (Or.inr (Or.inr rfl))
        have e : ∀ a k, a ≠ 23 → a ≠ 24 → a ≠ 25 → mI (wI M9 25 (cix s t p n h) (nI (tn * 2 ^ 7 + oN O))) a k = mI M a k := fun a k q1 q2 q3 => FA.i (by unfold Ssc; omega)
        have hmod : (tn * 2 ^ 7 + oN O) % 128 = oN O := by omega
        refine hT _ FA ?_ ⟨_, mI_wIs, hmod⟩
        refine ⟨by rw [FA.2.2.2.2.1]; exact b1', b2.fr FA (by unfold Ssc; omega) (fun k => by unfold Ssc; omega) (fun k => by unfold Ssc; omega), by rw [e 21 4 (by decide) (by decide) (by decide)]; exact b3, by rw [e 21 6 (by decide) (by decide) (by decide)]; exact b4, fun t ht => ?_, by rw [e 1 12 (by decide) (by decide) (by decide)]; exact b6, fun s' t' p' n' h' h1 h2 h3 h4 h5 => ?_⟩
        · rw [e 2 t (by decide) (by decide) (by decide), e 3 t (by decide) (by decide) (by decide)]
          exact b5 t ht
        · by_cases q : cix s' t' p' n' h' = cix s t p n h
          · obtain ⟨rfl, rfl, rfl, rfl, rfl⟩ := cix_inj h2 h3 h4 h5 ht hp (show n < 6 by omega) (show h < 6 by omega) q
            exact ⟨_, mI_wIs, by omega, by omega, fun _ => by simp only [hO]; exact hmod⟩
          · rw [mI_wI_ne q, n1.i (by unfold Ssk; omega), m1.i (by unfold S23; omega)]
            exact b7 s' t' p' n' h' h1 h2 h3 h4 h5
    have es1 : (nI s = 1) ↔ s = 1 := by rw [show (1 : Int32) = nI 1 from rfl]; exact neqI (by omega) (by omega)
    have es3 : (nI s = 3) ↔ s = 3 := by rw [show (3 : Int32) = nI 3 from rfl]; exact neqI (by omega) (by omega)
    have gate : (s = 1 ∨ s = 3) → TT (grd (okO M 8 21) (Option.bind (mR M 21 0) (fun r97 => grd (okO M 10 r97) (Option.bind (mR M r97 1) (fun r99 => grd (okO M 14 r99) (grd (vp_in (nI t) (mL M r99)) (if (mI M r99 (nI t).toNatClampNeg) = 0 then (some (M, (-1 : Int32))) else (wtJ M (nI s) (nI t) (nI p) (nI n) (nI h))))))))) (fun q => Fr Ssc M q.1 ∧ SCT tx cr ca cls C L sms K y tn gt q.1 ∧ q.2 = oI (wq gt (fun s t p n h => lwL (some sms) K y s t p n h) s t p n h)) := by
      intro w
      unfold LayC at hL
      simp only [hL, grd_T, Option.bind_some]
      rw [grd_y ((nvp (by omega)).mpr (by omega)), nclampI (by omega)]
      by_cases w2 : mI M 3 t = 0
      · rw [if_pos w2]
        exact hgate w w2
      · rw [if_neg w2]
        refine main (fun _ => ?_)
        cases hgt : gt t with
        | true => rfl
        | false => exact absurd ((b5 t ht).2.mpr hgt) w2
    rw [weightOf_eq]
    by_cases w1 : s = 1
    · rw [if_pos (es1.mpr w1)]
      exact gate (Or.inl w1)
    · rw [if_neg (fun q => w1 (es1.mp q))]
      by_cases w3 : s = 3
      · rw [if_pos (es3.mpr w3)]
        exact gate (Or.inr w3)
      · rw [if_neg (fun q => w3 (es3.mp q))]
        exact main (fun q => by omega)
  · obtain ⟨b1', b2, b3, b4, b5, b6, b7⟩ := hSC
    have e : ∀ a k, ¬ (26 ≤ a ∧ a ≤ 31) → mI M1 a k = mI M a k := fun a k w => hF.i (fun q => w (hS1 a k q))
    refine ⟨by rw [hF.2.2.2.2.1]; exact b1', b2.fr hF (fun w => by have := hS1 _ _ w; omega) (fun k w => by have := hS1 _ _ w; omega) (fun k w => by have := hS1 _ _ w; omega), by rw [e 21 4 (by omega)]; exact b3, by rw [e 21 6 (by omega)]; exact b4, fun t ht => ?_, by rw [e 1 12 (by omega)]; exact b6, fun s t p n h h1 h2 h3 h4 h5 => ?_⟩
    · rw [e 2 t (by omega), e 3 t (by omega)]
      exact b5 t ht
    · rw [e 25 _ (by omega)]
      exact b7 s t p n h h1 h2 h3 h4 h5
