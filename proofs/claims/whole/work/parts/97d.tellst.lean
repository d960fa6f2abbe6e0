/-! the reference's tells, over its kept LAW in force -/
theorem tells_eq {M : Mem} {p1 p2 : Int32} : f_X12_tells M 47 p1 p2 = grd (okO M 12 47) (Option.bind (mR M 47 3) (fun r2 => grd (okO M 14 r2) (grd (vp_in 58 (mL M r2)) (if (mI M r2 (58 : Int32).toNatClampNeg) = (-1) then (some (M, p2)) else (bv (wI M 47 29 0) (fun M5 => Option.bind (mR M5 47 3) (fun r9 => grd (okO M5 14 r9) (grd (vp_in 58 (mL M5 r9)) (bv (wI M5 47 26 (400 * (mI M5 r9 (58 : Int32).toNatClampNeg))) (fun M12 => Option.bind (mR M12 47 3) (fun r16 => Option.bind (mR M12 47 3) (fun r17 => grd (okO M12 14 r17) (grd (vp_in 58 (mL M12 r17)) (grd (okO M12 14 r16) (grd (vp_in (59 + (mI M12 r17 (58 : Int32).toNatClampNeg)) (mL M12 r16)) (bv (wI M12 47 27 ((mI M12 47 26) + (mI M12 r16 (59 + (mI M12 r17 (58 : Int32).toNatClampNeg)).toNatClampNeg))) (fun M22 => Option.bind (loopO (tlB p1) (M22, p2.toInt64)) (fun (x33 : Mem × Int64) => some (x33.1, x33.2.toInt32))))))))))))))))))) := rfl
/-- what is kept of a LAW's text in place f -/
def LAWP (K : Nat → Int32) (T : Nat → Nat) (len f : Nat) : Prop := K (59 + f) = nI len ∧ ∀ j, j < len → K (66 + 400 * f + j) = nI (rc (T j)) ∧ (1000 ≤ T j → T j ≤ 2000 → K (2866 + 400 * f + j) = nI (T j - 1000))
theorem jj_32 {n : Nat} (h : n < 2147483648) : (jj (n : Int)).toInt32 = nI n := by
  have e : jj (n : Int) = (nI n).toInt64 := by
    rw [jj_i, nI_tI h]
  rw [e]
  exact Int32.toInt32_toInt64 (nI n)
theorem r_tells {T : Nat → Nat} {len : Nat} (hT : ∀ j, len ≤ j → T j = 256) (hT2 : ∀ j, j < len → T j ≠ 256) (hlen : len ≤ 400) {M : Mem} (hM : LayM M) {f : Nat} (hf : f < 7) (h58 : mI M 49 58 = nI f) (hK : LAWP (mI M 49) T len f) {W : Nat → Int32} (hW : ∀ i, i < 8 → mI M 61 i = W i) {sms : List SM} (hs : RTX T len 0 sms) {hd p2 : Nat} (hhd : hd = 1 ∨ hd = 2) (hp2 : p2 ≤ 1) : TT (f_X12_tells M 47 (nI hd) (nI p2)) (fun q => Fr Stl M q.1 ∧ q.2 = (jj (sms.foldl (tstp hd W) (p2 : Int))).toInt32) := by
  have hM0 := hM
  obtain ⟨k1, k2⟩ := hK
  have hF1 : Fr Stl M (wI M 47 29 0) := Fr.rf.wI (by unfold Stl; omega)
  have hF2 : Fr Stl M (wI (wI M 47 29 0) 47 26 (nI (400 * f))) := hF1.wI (by unfold Stl; omega)
  have hF3 : Fr Stl M (wI (wI (wI M 47 29 0) 47 26 (nI (400 * f))) 47 27 (nI (400 * f + len))) := hF2.wI (by unfold Stl; omega)
  have c58 : (58 : Int32).toNatClampNeg = 58 := by decide
  have ne1 : ¬ nI f = -1 := by
    intro w
    have := congrArg Int32.toInt w
    rw [nI_tI (by omega)] at this
    have h2 : (-1 : Int32).toInt = -1 := by decide
    omega
  have body : f_X12_tells M 47 (nI hd) (nI p2) = Option.bind (loopO (tlB (nI hd)) (wI (wI (wI M 47 29 0) 47 26 (nI (400 * f))) 47 27 (nI (400 * f + len)), (nI p2).toInt64)) (fun (x33 : Mem × Int64) => some (x33.1, x33.2.toInt32)) := by
    rw [tells_eq]
    unfold LayM at hM
    simp only [bv, hM, grd_T, Option.bind_some, mR_wI, ok_wI, mL_wI, c58]
    have v58 : vp_in 58 5666 := (nvp (a := 58) (by omega)).mpr (by omega)
    simp only [mI_wI_row (a := 47) (b := 49) (by decide), h58]
    rw [grd_y v58, if_neg ne1, grd_y v58, grd_y v58, show (400 : Int32) = nI 400 from rfl, nmul, show (59 : Int32) = nI 59 from rfl, nadd, grd_y ((nvp (by omega)).mpr (by omega)), nclampI (by omega), k1, mI_wIs, nadd]
  rw [body, TT_bind]
  have ep : (nI p2).toInt64 = jj (p2 : Int) := by rw [jj_i, nI_tI (by omega)]
  rw [ep]
  have hE : RE (wI (wI (wI M 47 29 0) 47 26 (nI (400 * f))) 47 27 (nI (400 * f + len))) T len false (400 * f) W := by
    refine ⟨hM0.fr hF3, by omega, mI_wIs, fun j hj => ?_, ?_, ?_⟩
    · rw [hF3.i (by unfold Stl; omega), hF3.i (by unfold Stl; omega)]
      exact k2 j hj
    · rw [mI_wI_ne (by decide), mI_wI_ne (by decide), mI_wIs]
      rfl
    · show ∀ i, i < 8 → _
      intro i hi
      rw [hF3.i (by unfold Stl; omega)]
      exact hW i hi
  have hgo : mI (wI (wI (wI M 47 29 0) 47 26 (nI (400 * f))) 47 27 (nI (400 * f + len))) 47 26 = nI (400 * f + 0) := by
    rw [mI_wI_ne (by decide), mI_wIs]
    rfl
  refine (tl_L hT hT2 hhd sms 0 _ (p2 : Int) hs hE hgo).mono ?_
  rintro ⟨M2, v⟩ ⟨a1, a2⟩
  simp only at a1 a2 ⊢
  rw [TT_some, a1]
  exact ⟨hF3.tr (a2.up (fun a k w => by unfold Sgo at w; unfold Stl; omega)), rfl⟩
/-- a LAW with such CLAUSES: a bar, or a weight -/
theorem r_tells_bar {T : Nat → Nat} {len : Nat} (hT : ∀ j, len ≤ j → T j = 256) (hT2 : ∀ j, j < len → T j ≠ 256) (hlen : len ≤ 400) {M : Mem} (hM : LayM M) {f : Nat} (hf : f < 7) (h58 : mI M 49 58 = nI f) (hK : LAWP (mI M 49) T len f) {W : Nat → Int32} (hW : ∀ i, i < 8 → mI M 61 i = W i) {sms : List SM} (hs : RTX T len 0 sms) : TT (f_X12_tells M 47 2 0) (fun q => Fr Stl M q.1 ∧ q.2 = (if lawS sms W = none then 1 else 0)) := by
  refine (show TT (f_X12_tells M 47 (nI 2) (nI 0)) _ from r_tells hT hT2 hlen hM hf h58 hK hW hs (Or.inr rfl) (by omega)).mono ?_
  rintro ⟨M2, v⟩ ⟨a1, a2⟩
  refine ⟨a1, ?_⟩
  simp only at a2 ⊢
  rw [a2, show ((0 : Nat) : Int) = 0 from rfl, tl_bar sms _ (Or.inl rfl)]
  unfold lawS
  cases barS sms W <;> rfl
theorem r_tells_wei {T : Nat → Nat} {len : Nat} (hT : ∀ j, len ≤ j → T j = 256) (hT2 : ∀ j, j < len → T j ≠ 256) (hlen : len ≤ 400) {M : Mem} (hM : LayM M) {f : Nat} (hf : f < 7) (h58 : mI M 49 58 = nI f) (hK : LAWP (mI M 49) T len f) {W : Nat → Int32} (hW : ∀ i, i < 8 → mI M 61 i = W i) {sms : List SM} (hs : RTX T len 0 sms) {w : Nat} (hw : lawS sms W = some w) : TT (f_X12_tells M 47 1 1) (fun q => Fr Stl M q.1 ∧ q.2 = nI w) := by
  refine (show TT (f_X12_tells M 47 (nI 1) (nI 1)) _ from r_tells hT hT2 hlen hM hf h58 hK hW hs (Or.inl rfl) (by omega)).mono ?_
  rintro ⟨M2, v⟩ ⟨a1, a2⟩
  refine ⟨a1, ?_⟩
  simp only at a2 ⊢
  unfold lawS at hw
  cases hb : barS sms W with
  | true => rw [hb] at hw; cases hw
  | false =>
    rw [hb] at hw
    cases hw
    have := fold_le (W := W) sms 1 (by omega)
    rw [a2, tl_wei, jj_32 (by omega)]
theorem r_tells_no {M : Mem} (hM : LayM M) (h58 : mI M 49 58 = -1) (p1 p2 : Int32) : f_X12_tells M 47 p1 p2 = some (M, p2) := by
  unfold f_X12_tells
  unfold LayM at hM
  have c58 : (58 : Int32).toNatClampNeg = 58 := by decide
  simp only [hM, grd_T, Option.bind_some, c58]
  rw [grd_y (show vp_in 58 5666 from (nvp (a := 58) (by omega)).mpr (by omega)), h58, if_pos rfl]
/-- the words that a LAW asks for -/
def WRD (K : Nat → Int32) (y s t p n h : Nat) (i : Nat) : Int32 := if i = 0 then nI s else if i = 1 then nI t else if i = 2 then nI p else if i = 3 then nI n else if i = 4 then nI h else if i = 5 then K t else if i = 6 then nI y else K 55
/-- what the LAW in force tells, if there is one -/
def lwL (o : Option (List SM)) (K : Nat → Int32) (y s t p n h : Nat) : Option Nat := match o with
  | none => some 1
  | some sms => lawS sms (WRD K y s t p n h)
/-- the kept LAW in force tells that -/
def LAWF (K : Nat → Int32) (o : Option (List SM)) : Prop := (o = none ∧ K 58 = -1) ∨ ∃ sms T len f, o = some sms ∧ f < 7 ∧ K 58 = nI f ∧ LAWP K T len f ∧ len ≤ 400 ∧ (∀ j, len ≤ j → T j = 256) ∧ (∀ j, j < len → T j ≠ 256) ∧ RTX T len 0 sms
theorem lawS_le {sms : List SM} {W : Nat → Int32} {w : Nat} (h : lawS sms W = some w) : w ≤ 99 := by
  unfold lawS at h
  cases hb : barS sms W with
  | true => rw [hb] at h; cases h
  | false =>
    rw [hb] at h
    cases h
    exact fold_le sms 1 (by omega)
theorem lwL_le {o : Option (List SM)} {K : Nat → Int32} {y s t p n h w : Nat} (e : lwL o K y s t p n h = some w) : w ≤ 99 := by
  cases o with
  | none => cases e; omega
  | some sms => exact lawS_le e
theorem TSp_of {K : Nat → Int32} {o : Option (List SM)} (h : LAWF K o) : TSp K (lwL o K) := by
  refine ⟨fun M hM hK y s t p n hh _ _ _ _ _ _ hA => ?_, fun y s t p n hh w e => lwL_le e⟩
  have eK : mI M 49 = K := funext hK
  rcases h with ⟨rfl, h58⟩ | ⟨sms, T, len, f, rfl, hf, h58, hP, hlen, hT, hT2, hR⟩
  · rw [r_tells_no hM (by rw [hK]; exact h58), r_tells_no hM (by rw [hK]; exact h58)]
    refine ⟨⟨_, rfl, Fr.rf, rfl⟩, fun w e => ⟨_, rfl, Fr.rf, ?_⟩⟩
    cases e
    rfl
  · have hW : ∀ i, i < 8 → mI M 61 i = WRD K y s t p n hh i := by
      obtain ⟨a0, a1, a2, a3, a4, a5, a6, a7⟩ := hA
      intro i hi
      have hc : i = 0 ∨ i = 1 ∨ i = 2 ∨ i = 3 ∨ i = 4 ∨ i = 5 ∨ i = 6 ∨ i = 7 := by omega
      rcases hc with rfl | rfl | rfl | rfl | rfl | rfl | rfl | rfl <;> first | exact a0 | exact a1 | exact a2 | exact a3 | exact a4 | exact a5 | exact a6 | exact a7
    have h58' : mI M 49 58 = nI f := by rw [hK]; exact h58
    rw [← eK] at hP
    exact ⟨r_tells_bar hT hT2 hlen hM hf h58' hP hW hR, fun w e => r_tells_wei hT hT2 hlen hM hf h58' hP hW hR e⟩
