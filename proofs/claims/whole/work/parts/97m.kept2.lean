/-! what kept() tells -/
theorem cpI_e {M : Mem} {a b : Nat} {sp dp n : Int32} : mn (cpI M a sp b dp n) = mn M ∧ mz (cpI M a sp b dp n) = mz M ∧ mK (cpI M a sp b dp n) = mK M ∧ mL (cpI M a sp b dp n) = mL M ∧ mR (cpI M a sp b dp n) = mR M := ⟨rfl, rfl, rfl, rfl, rfl⟩
theorem w3_e {M : Mem} {a k1 k2 k3 : Nat} {v1 v2 v3 : Int32} : mn (wI (wI (wI M a k1 v1) a k2 v2) a k3 v3) = mn M ∧ mz (wI (wI (wI M a k1 v1) a k2 v2) a k3 v3) = mz M ∧ mK (wI (wI (wI M a k1 v1) a k2 v2) a k3 v3) = mK M ∧ mL (wI (wI (wI M a k1 v1) a k2 v2) a k3 v3) = mL M ∧ mR (wI (wI (wI M a k1 v1) a k2 v2) a k3 v3) = mR M ∧ mJ (wI (wI (wI M a k1 v1) a k2 v2) a k3 v3) = mJ M := ⟨rfl, rfl, rfl, rfl, rfl, rfl⟩
theorem cpI_J {M : Mem} {a b : Nat} {sp dp n : Int32} : mJ (cpI M a sp b dp n) = mJ M := rfl
theorem KPT_J {M : Mem} {c u a k : Nat} (ha : a < mn M) : mJ (KPT M c u) a k = mJ M a k := by
  show va_up (α := Nat → Int64) (va_up (α := Nat → Int64) (mJ M) (mn M + 1) _) (mn M + 2) _ a k = _
  rw [vu, if_neg (by omega), vu, if_neg (by omega)]
theorem c_kept {M : Mem} (hL : LayC M) (h78 : 78 ≤ mn M) {cls : List CL} {code : List Nat} {ay : Bool} (hc : cls.length ≤ 12) (hu : code.length ≤ 400) (h2 : mI M 15 2 = nI cls.length) (h3 : mI M 15 3 = nI code.length) (h4 : mI M 15 4 = b1 ay) (hT : TXT M 0 0 cls code) (h8 : ∀ i, i < code.length → cdF code i < 2147483648) : TT (f_X9_kept M 15) (fun q => q.2 = mn M ∧ Fw (fun _ _ => False) (fun _ _ => False) M q.1 ∧ mn q.1 = mn M + 3 ∧ mz q.1 = mz M + 5 + cls.length * 6 + code.length ∧ mI q.1 (mn M) 4 = b1 ay ∧ LTX q.1 (mn M) (mn M + 1) (mn M + 2) cls (cdF code) code.length) := by
  have hL0 := hL
  have nf : 15 < mn M ∧ 16 < mn M ∧ 17 < mn M := by omega
  -- the row of the draft is as it was
  have i15 : ∀ a k, a < mn M → mI (KPT M cls.length code.length) a k = mI M a k := by
    intro a k ha
    rw [KPT_I, if_neg (by omega), if_neg (by omega), if_neg (by omega)]
  have i15' : ∀ k, mI (nO M 9 5) 15 k = mI M 15 k := by
    intro k
    show va_up (mI M) (mn M) (fun _ => 0) 15 k = _
    rw [vu, if_neg (by omega)]
  have o15 : okO (nO M 9 5) 9 15 := by
    have : okO M 9 15 := by unfold LayC at hL; simp only [hL]
    exact (Fw_nO (S := fun _ _ => False) (R := fun _ _ => False)).ok this
  generalize hK : KPT M cls.length code.length = M6 at i15
  have n6 : mn M6 = mn M + 3 := by rw [← hK]; exact KPT_n.1
  have z6 : mz M6 = mz M + 5 + cls.length * 6 + code.length := by rw [← hK]; exact KPT_n.2
  have k6 : ∀ a, mK M6 a = if a = mn M + 2 then 14 else if a = mn M + 1 then 14 else if a = mn M then 9 else mK M a := fun a => by rw [← hK]; exact KPT_K
  have l6 : ∀ a, mL M6 a = if a = mn M + 2 then code.length else if a = mn M + 1 then cls.length * 6 else mL M a := fun a => by rw [← hK]; exact KPT_L
  have r6 : ∀ a k, a < mn M → mR M6 a k = mR M a k := by
    intro a k ha
    rw [← hK, KPT_R, if_neg (by omega), if_neg (by omega)]
  have r60 : mR M6 (mn M) 0 = some (mn M + 1) := by rw [← hK, KPT_R, if_pos rfl, if_neg (by decide), if_pos rfl]
  have r61 : mR M6 (mn M) 1 = some (mn M + 2) := by rw [← hK, KPT_R, if_pos rfl, if_pos rfl]
  have rd0 : mR M 15 0 = some 16 := by unfold LayC at hL; simp only [hL]
  have rd1 : mR M 15 1 = some 17 := by unfold LayC at hL; simp only [hL]
  have ld0 : mL M 16 = 72 := by unfold LayC at hL; simp only [hL]
  have ld1 : mL M 17 = 800 := by unfold LayC at hL; simp only [hL]
  have okd0 : okO M 14 16 := by unfold LayC at hL; simp only [hL]
  have okd1 : okO M 14 17 := by unfold LayC at hL; simp only [hL]
  have kd0 : mK M 16 = 14 := okd0.2
  have kd1 : mK M 17 = 14 := okd1.2
  have ok16 : okO M6 14 16 := ⟨by omega, by rw [k6, if_neg (by omega), if_neg (by omega), if_neg (by omega)]; exact kd0⟩
  have ok17 : okO M6 14 17 := ⟨by omega, by rw [k6, if_neg (by omega), if_neg (by omega), if_neg (by omega)]; exact kd1⟩
  have okt : okO M6 9 (mn M) := ⟨by omega, by rw [k6, if_neg (by omega), if_neg (by omega), if_pos rfl]⟩
  have okc : okO M6 14 (mn M + 1) := ⟨by omega, by rw [k6, if_neg (by omega), if_pos rfl]⟩
  have oka : okO M6 14 (mn M + 2) := ⟨by omega, by rw [k6, if_pos rfl]⟩
  have lc : mL M6 (mn M + 1) = cls.length * 6 := by rw [l6, if_neg (by omega), if_pos rfl]
  have la : mL M6 (mn M + 2) = code.length := by rw [l6, if_pos rfl]
  have l16 : mL M6 16 = 72 := by rw [l6, if_neg (by omega), if_neg (by omega)]; exact ld0
  have l17 : mL M6 17 = 800 := by rw [l6, if_neg (by omega), if_neg (by omega)]; exact ld1
  -- both copies, then three fields
  generalize hA : cpI M6 16 0 (mn M + 1) 0 (nI (cls.length * 6)) = MA
  generalize hB : cpI MA 17 0 (mn M + 2) 0 (nI code.length) = MB
  have iA : ∀ a, mI MA a = if a = mn M + 1 then (fun k => if k < cls.length * 6 then mI M6 16 k else mI M6 (mn M + 1) k) else mI M6 a := fun a => by rw [← hA]; exact cpI_I (by omega)
  have iB : ∀ a, mI MB a = if a = mn M + 2 then (fun k => if k < code.length then mI MA 17 k else mI MA (mn M + 2) k) else mI MA a := fun a => by rw [← hB]; exact cpI_I (by omega)
  have eA : mn MA = mn M6 ∧ mz MA = mz M6 ∧ mK MA = mK M6 ∧ mL MA = mL M6 ∧ mR MA = mR M6 := by rw [← hA]; exact cpI_e
  have eB : mn MB = mn M6 ∧ mz MB = mz M6 ∧ mK MB = mK M6 ∧ mL MB = mL M6 ∧ mR MB = mR M6 := by
    have e := cpI_e (M := MA) (a := 17) (b := mn M + 2) (sp := 0) (dp := 0) (n := nI code.length)
    rw [hB] at e
    exact ⟨e.1.trans eA.1, e.2.1.trans eA.2.1, e.2.2.1.trans eA.2.2.1, e.2.2.2.1.trans eA.2.2.2.1, e.2.2.2.2.trans eA.2.2.2.2⟩
  have i2 : ∀ a k, a < mn M → mI MB a k = mI M a k := by
    intro a k ha
    rw [iB, if_neg (by omega), iA, if_neg (by omega)]
    exact i15 a k ha
  have j2 : ∀ k, mI MB 15 k = mI M 15 k := fun k => i2 15 k (by omega)
  have j2A : ∀ k, mI MA 15 k = mI M 15 k := fun k => by rw [iA, if_neg (by omega)]; exact i15 15 k (by omega)
  have key : f_X9_kept M 15 = some (wI (wI (wI MB (mn M) 2 (nI cls.length)) (mn M) 3 (nI code.length)) (mn M) 4 (b1 ay), mn M) := by
    unfold f_X9_kept
    simp only [bv]
    rw [grd_y o15, i15', i15', h2, h3, c_init9 hc (by omega), hK, Option.bind_some, r6 15 0 (by omega), rd0, Option.bind_some, r60, Option.bind_some, grd_y ok16, grd_y okc, i15 15 2 (by omega), h2, show (6 : Int32) = nI 6 from rfl, nmul, l16, lc, grd_y (cpok_n (by omega) (by omega)), grd_y (cpok_n (by omega) (by omega)), hA]
    rw [eA.2.2.2.2, r6 15 1 (by omega), rd1, Option.bind_some, r61, Option.bind_some]
    have okA17 : okO MA 14 17 := ⟨by rw [eA.1]; exact ok17.1, by rw [eA.2.2.1]; exact ok17.2⟩
    have okAa : okO MA 14 (mn M + 2) := ⟨by rw [eA.1]; exact oka.1, by rw [eA.2.2.1]; exact oka.2⟩
    rw [grd_y okA17, grd_y okAa, j2A, h3, eA.2.2.2.1, l17, la, grd_y (cpok_n (by omega) (by omega)), grd_y (cpok_n (by omega) (by omega)), hB]
    have w1 : ∀ (k v), mI (wI MB (mn M) k v) 15 = mI MB 15 := fun k v => mI_wI_row (by omega)
    have w2 : ∀ (k v k' v'), mI (wI (wI MB (mn M) k v) (mn M) k' v') 15 = mI MB 15 := fun k v k' v' => by rw [mI_wI_row (by omega), mI_wI_row (by omega)]
    rw [j2, h2, w1, j2, h3, w2, j2, h4, grd_y (b1_pb ay)]
  rw [key, TT_some]
  have wr : ∀ a, a ≠ mn M → mI (wI (wI (wI MB (mn M) 2 (nI cls.length)) (mn M) 3 (nI code.length)) (mn M) 4 (b1 ay)) a = mI MB a := by
    intro a ha
    rw [mI_wI_row ha, mI_wI_row ha, mI_wI_row ha]
  have f4 : mI (wI (wI (wI MB (mn M) 2 (nI cls.length)) (mn M) 3 (nI code.length)) (mn M) 4 (b1 ay)) (mn M) 4 = b1 ay := mI_wIs
  have f2 : mI (wI (wI (wI MB (mn M) 2 (nI cls.length)) (mn M) 3 (nI code.length)) (mn M) 4 (b1 ay)) (mn M) 2 = nI cls.length := by rw [mI_wI_ne (by decide), mI_wI_ne (by decide), mI_wIs]
  have eF := w3_e (M := MB) (a := mn M) (k1 := 2) (k2 := 3) (k3 := 4) (v1 := nI cls.length) (v2 := nI code.length) (v3 := b1 ay)
  have jB : mJ MB = mJ MA := by rw [← hB]; exact cpI_J
  have jA : mJ MA = mJ M6 := by rw [← hA]; exact cpI_J
  generalize wI (wI (wI MB (mn M) 2 (nI cls.length)) (mn M) 3 (nI code.length)) (mn M) 4 (b1 ay) = MF at wr f4 f2 eF ⊢
  obtain ⟨y1, y2, y3, y4, y5, y6⟩ := eF
  have e1 := y1.trans eB.1
  have e2 := y2.trans eB.2.1
  have e3 := y3.trans eB.2.2.1
  have e4 := y4.trans eB.2.2.2.1
  have e5 := y5.trans eB.2.2.2.2
  have jF := y6.trans (jB.trans jA)
  have j6 : ∀ a k, a < mn M → mJ M6 a k = mJ M a k := by
    intro a k ha
    rw [← hK]
    exact KPT_J ha
  refine ⟨rfl, ⟨by simp only; omega, by simp only; omega, fun a ha => ⟨?_, ?_⟩, fun a k ha _ => ?_, fun a k ha _ => ⟨?_, ?_⟩⟩, by simp only; omega, by simp only; omega, f4, ?_⟩
  · simp only
    rw [e3, k6, if_neg (by omega), if_neg (by omega), if_neg (by omega)]
  · simp only
    rw [e4, l6, if_neg (by omega), if_neg (by omega)]
  · simp only
    rw [e5]
    exact r6 a k ha
  · simp only
    rw [wr a (by omega)]
    exact i2 a k ha
  · simp only
    rw [jF]
    exact j6 a k ha
  · have okF : ∀ {c a : Nat}, okO M6 c a → okO MF c a := fun h => ⟨by rw [e1]; exact h.1, by rw [e3]; exact h.2⟩
    refine ⟨okF okt, by rw [e5]; exact r60, by rw [e5]; exact r61, f2, hc, okF okc, by rw [e4, lc]; omega, by rw [e4, lc]; omega, okF oka, by rw [e4]; exact la, by omega, fun i hi => ⟨?_, h8 i hi⟩, fun i cl hcl f hf => ?_⟩
    · simp only
      have hv : code[i]? = some code[i] := List.getElem?_eq_getElem hi
      have ev : cdF code i = code[i] := by
        unfold cdF
        rw [List.getD_eq_getElem?_getD, hv]
        rfl
      have e := hT.2 i _ hv
      rw [Nat.zero_add] at e
      rw [wr _ (by omega), iB, if_pos rfl]
      rw [if_pos hi, iA, if_neg (by omega), i15 17 i (by omega), e, ev]
    · simp only
      have hi : i < cls.length := (List.getElem?_eq_some_iff.mp hcl).1
      have e := hT.1 i cl hcl f hf
      rw [Nat.zero_add] at e
      rw [wr _ (by omega), iB, if_neg (by omega), iA, if_pos rfl]
      rw [if_pos (by omega), i15 16 _ (by omega)]
      exact e
