/-! the class's machine -/
def JB : Int64 := -4611686018427387904
def jO (r : Option Int) : Int64 := match r with
  | some v => jj v
  | none => JB
theorem sw_at3 {α : Type} {x : Int32} {l : List (Nat × Option α)} {d : Option α} {i : Nat} {q : Nat × Option α} (h : l[i]? = some q) (hx : x.toInt = 3 + i) (hl : l.length ≤ 1000) : swO x (swC 3 l) d = q.2 := swC_in l 3 i q (by decide) (by omega) h (by omega)
theorem sw_no3 {α : Type} {x : Int32} {l : List (Nat × Option α)} {d : Option α} (hl : l.length ≤ 1000) (h : x.toInt < 3 ∨ (3 + l.length : Int) ≤ x.toInt) : swO x (swC 3 l) d = d := swC_out l 3 (by decide) (by omega) (by omega)
theorem JB_jj : JB = jj (-4611686018427387904) := rfl
theorem R64_B : R64 (-4611686018427387904) := ⟨by decide, by decide⟩
theorem bnd_fin {z : Int} (hz : R64 z) : (if 0 < (lg_cmp (jj z) 1000000000) then (some (-4611686018427387904)) else (if 0 ≤ (lg_cmp (jj z) (-1000000000)) then (some (jj z)) else (some (-4611686018427387904)))) = some (jO (bnd z)) := by
  have e1 := lgc1 hz R64_G
  have e2 := lgc2 hz R64_g
  rw [show (-1000000000 : Int64) = jj (-1000000000) from rfl, show (1000000000 : Int64) = jj 1000000000 from rfl]
  unfold bnd
  by_cases q1 : 1000000000 < z
  · rw [if_pos (e1.mpr q1), if_pos (Or.inl q1)]
    rfl
  · rw [if_neg (fun w => q1 (e1.mp w))]
    by_cases q2 : -1000000000 ≤ z
    · rw [if_pos (e2.mpr q2), if_neg (by omega)]
      rfl
    · rw [if_neg (fun w => q2 (e2.mp w)), if_pos (Or.inr (by omega))]
      rfl
theorem c_apply {op : Nat} (ho : 3 ≤ op ∧ op ≤ 15) {a b : Int} (ha : S32 a) (hb : S32 b) : f_X3_apply (nI op) (jj a) (jj b) = some (jO (ap op a b)) := by
  have tI : (nI op).toInt = op := nI_tI (by omega)
  have z0 := bnd_fin R64_0
  have z1 := bnd_fin (z := 1) ⟨by decide, by decide⟩
  have zB := bnd_fin R64_B
  have e0 := lgc0 hb.r R64_0
  have bn0 : bnd 0 = some 0 := by decide
  have bn1 : bnd 1 = some 1 := by decide
  unfold f_X3_apply
  simp only [bv]
  have ops : op = 3 ∨ op = 4 ∨ op = 5 ∨ op = 6 ∨ op = 7 ∨ op = 8 ∨ op = 9 ∨ 10 ≤ op := by omega
  rcases ops with h | h | h | h | h | h | h | h
  · subst h
    rw [sw_at3 (i := 0) rfl (by rw [tI]; rfl) (by simp), jj_add, bnd_fin (R64_add ha hb).1, ap3]
  · subst h
    rw [sw_at3 (i := 1) rfl (by rw [tI]; rfl) (by simp), jj_sub, bnd_fin (R64_add ha hb).2, ap4]
  · subst h
    rw [sw_at3 (i := 2) rfl (by rw [tI]; rfl) (by simp), jj_mul, bnd_fin (mul_S ha hb), ap5]
  · subst h
    rw [sw_at3 (i := 3) rfl (by rw [tI]; rfl) (by simp), ap6]
    by_cases q : b = 0
    · rw [if_pos q, show (0 : Int64) = jj 0 from rfl, if_pos (e0.mpr q)]
      exact zB
    · rw [if_neg q, show (0 : Int64) = jj 0 from rfl, if_neg (fun w => q (e0.mp w)), grd_y (fun w => q ((jj_inj hb.r R64_0).mp w)), jj_div ha hb, bnd_fin (tdiv_abs a b ha).r]
  · subst h
    rw [sw_at3 (i := 4) rfl (by rw [tI]; rfl) (by simp), ap7]
    by_cases q : b = 0
    · rw [if_pos q, show (0 : Int64) = jj 0 from rfl, if_pos (e0.mpr q)]
      exact zB
    · rw [if_neg q, show (0 : Int64) = jj 0 from rfl, if_neg (fun w => q (e0.mp w)), grd_y (fun w => q ((jj_inj hb.r R64_0).mp w)), jj_rem ha hb, bnd_fin (tmod_abs a b ha).r]
  · subst h
    rw [sw_at3 (i := 5) rfl (by rw [tI]; rfl) (by simp), ap_cm (Or.inl rfl)]
    by_cases q : b ≤ a
    · rw [if_pos ((lgc2 ha.r hb.r).mpr q), show (0 : Int64) = jj 0 from rfl, z0, bn0]
      unfold cmB bi
      rw [if_pos rfl, decide_eq_false (by omega)]
      rfl
    · rw [if_neg (fun w => q ((lgc2 ha.r hb.r).mp w)), show (1 : Int64) = jj 1 from rfl, z1, bn1]
      unfold cmB bi
      rw [if_pos rfl, decide_eq_true (by omega)]
      rfl
  · subst h
    rw [sw_at3 (i := 6) rfl (by rw [tI]; rfl) (by simp), ap_cm (Or.inr (Or.inl rfl))]
    by_cases q : a ≤ b
    · rw [if_pos ((lgc3 ha.r hb.r).mpr q), show (0 : Int64) = jj 0 from rfl, z0, bn0]
      unfold cmB bi
      rw [if_neg (show ¬ (9 : Nat) = 8 by decide), if_pos rfl, decide_eq_false (by omega)]
      rfl
    · rw [if_neg (fun w => q ((lgc3 ha.r hb.r).mp w)), show (1 : Int64) = jj 1 from rfl, z1, bn1]
      unfold cmB bi
      rw [if_neg (show ¬ (9 : Nat) = 8 by decide), if_pos rfl, decide_eq_true (by omega)]
      rfl
  · have e : ap op a b = some (bi (decide (a = b))) := by
      rw [← show ap 10 a b = some (bi (decide (a = b))) from ap_cm (Or.inr (Or.inr rfl)) a b]
      unfold ap
      simp only [show ¬ op = 3 by omega, show ¬ op = 4 by omega, show ¬ op = 5 by omega, show ¬ op = 6 by omega, show ¬ op = 7 by omega, show ¬ op = 8 by omega, show ¬ op = 9 by omega, if_false]
      rfl
    rw [sw_no3 (by simp) (Or.inr (by rw [tI]; simp; omega)), e]
    by_cases q : a = b
    · rw [if_pos ((lgc0 ha.r hb.r).mpr q), show (1 : Int64) = jj 1 from rfl, z1, bn1, decide_eq_true q]
      rfl
    · rw [if_neg (fun w => q ((lgc0 ha.r hb.r).mp w)), show (0 : Int64) = jj 0 from rfl, z0, bn0, decide_eq_false q]
      rfl
noncomputable def rnB (a0 a1 : Nat) : Mem × Int32 × Int32 → Option ((Mem × Int32 × Int32) ⊕ (Mem ⊕ (Mem ⊕ (Mem ⊕ (Mem ⊕ Mem))))) := (fun s2 => grd (okO s2.1 14 a1) (if (nI (mL s2.1 a1)) ≤ s2.2.2 then (some (.inr (.inl s2.1))) else (grd (vp_in s2.2.2 (mL s2.1 a1)) (bv ((mI s2.1 a1 s2.2.2.toNatClampNeg) &&& 15 : Int32) (fun x28 => bv (sr (mI s2.1 a1 s2.2.2.toNatClampNeg) 4 : Int32) (fun x29 => bv (fun (s31 : Mem × Int32 × Int32) => bv (s31.2.2 + 1 : Int32) (fun x35 => some (.inl (s31.1, s31.2.1, x35)))) (fun j30 => bv (fun (s37 : Unit) => grd (okO s2.1 3 a0) (Option.bind (mR s2.1 a0 1) (fun r41 => grd (okO s2.1 15 r41) (if (nI (mL s2.1 r41)) ≤ s2.2.1 then (some (.inr (.inr (.inr (.inr (.inr s2.1)))))) else (bv (fun (s44 : Unit) => Option.bind (mR s2.1 a0 1) (fun r47 => bv (fun (s49 : Int64) => grd (okO s2.1 15 r47) (grd (vp_in s2.2.1 (mL s2.1 r47)) (bv (wJ s2.1 r47 s2.2.1.toNatClampNeg s49) (fun M54 => bv (s2.2.1 + 1 : Int32) (fun x59 => j30 (M54, x59, s2.2.2)))))) (fun j48 => if x28 = 1 then (j48 x29.toInt64) else (Option.bind (mR s2.1 a0 0) (fun r60 => grd (okO s2.1 14 r60) (grd (vp_in x29 (mL s2.1 r60)) (j48 ((mI s2.1 r60 x29.toNatClampNeg).toInt64)))))))) (fun j43 => if x28 = 2 then (if x29 < 88 then (j43 ()) else (some (.inr (.inr (.inr (.inr (.inr s2.1))))))) else (j43 ()))))))) (fun j36 => if x28 = 1 then (j36 ()) else (if x28 = 2 then (j36 ()) else (if 1 ≤ s2.2.1 then (if x28 = 0 then (some (.inr (.inr (.inr (.inl s2.1))))) else (if x28 = 11 then (grd (okO s2.1 3 a0) (Option.bind (mR s2.1 a0 1) (fun r116 => Option.bind (mR s2.1 a0 1) (fun r117 => grd (okO s2.1 15 r117) (grd (vp_in (s2.2.1 - 1) (mL s2.1 r117)) (grd (okO s2.1 15 r116) (grd (vp_in (s2.2.1 - 1) (mL s2.1 r116)) (bv (wJ s2.1 r116 (s2.2.1 - 1).toNatClampNeg (1 - (mJ s2.1 r117 (s2.2.1 - 1).toNatClampNeg))) (fun M122 => j30 (M122, s2.2.1, s2.2.2)))))))))) else (bv (fun (s64 : Unit) => grd (okO s2.1 3 a0) (Option.bind (mR s2.1 a0 1) (fun r68 => grd (okO s2.1 15 r68) (grd (vp_in (s2.2.1 - 1) (mL s2.1 r68)) (bv (fun (s72 : Int32) => bv (fun (s76 : Int32) => bv (fun (s80 : Int32) => bv (fun (s84 : Int32) => bv (fun (s88 : Int32) => j30 (s2.1, s88, s84)) (fun j87 => if s80 = 0 then (j87 (s2.2.1 - 1)) else (j87 s2.2.1))) (fun j83 => if s80 = 0 then (j83 s2.2.2) else (j83 (mmax s2.2.2 (x29 - 1))))) (fun j79 => if s72 = s76 then (j79 1) else (j79 0))) (fun j75 => if x28 = 12 then (j75 1) else (j75 0))) (fun j71 => if (lg_cmp (mJ s2.1 r68 (s2.2.1 - 1).toNatClampNeg) 1) = 0 then (j71 1) else (j71 0))))))) (fun j63 => if x28 = 12 then (j63 ()) else (if x28 = 13 then (j63 ()) else (bv (fun (s92 : Int64) => if (lg_cmp s92 (-4611686018427387904)) = 0 then (some (.inr (.inr (.inr (.inr (.inl s2.1)))))) else (bv (s2.2.1 + (-1) : Int32) (fun x95 => grd (okO s2.1 3 a0) (Option.bind (mR s2.1 a0 1) (fun r97 => grd (okO s2.1 15 r97) (grd (vp_in (x95 - 1) (mL s2.1 r97)) (bv (wJ s2.1 r97 (x95 - 1).toNatClampNeg s92) (fun M100 => j30 (M100, x95, s2.2.2))))))))) (fun j91 => if 2 ≤ s2.2.1 then (grd (okO s2.1 3 a0) (Option.bind (mR s2.1 a0 1) (fun r106 => grd (okO s2.1 15 r106) (grd (vp_in (s2.2.1 - 2) (mL s2.1 r106)) (Option.bind (mR s2.1 a0 1) (fun r109 => grd (okO s2.1 15 r109) (grd (vp_in (s2.2.1 - 1) (mL s2.1 r109)) (Option.bind (f_X3_apply x28 (mJ s2.1 r106 (s2.2.1 - 2).toNatClampNeg) (mJ s2.1 r109 (s2.2.1 - 1).toNatClampNeg)) (fun q112 => j91 q112))))))))) else (j91 (-4611686018427387904))))))))) else (some (.inr (.inr (.inl s2.1))))))))))))))
theorem rn_eq {M : Mem} {a0 a1 : Nat} {p : Int32} : f_X3_run M a0 a1 p = Option.bind (loopO (rnB a0 a1) (M, 0, mmax p 0)) (Sum.elim (fun (x16 : Mem) => some (x16, JB)) (Sum.elim (fun (x18 : Mem) => some (x18, JB)) (Sum.elim (fun (x20 : Mem) => grd (okO x20 3 a0) (Option.bind (mR x20 a0 1) (fun r128 => grd (okO x20 15 r128) (grd (vp_in 0 (mL x20 r128)) (some (x20, mJ x20 r128 (0 : Int32).toNatClampNeg)))))) (Sum.elim (fun (x22 : Mem) => some (x22, JB)) (fun (x24 : Mem) => some (x24, JB)))))) := rfl
/-- where a Machine of the class and a code lie -/
def MCH (M : Mem) (a0 wr sk a1 L : Nat) (C : Nat → Nat) (W : Nat → Int32) : Prop := okO M 3 a0 ∧ mR M a0 0 = some wr ∧ mR M a0 1 = some sk ∧ okO M 14 wr ∧ mL M wr = 88 ∧ okO M 15 sk ∧ mL M sk = 64 ∧ okO M 14 a1 ∧ mL M a1 = L ∧ L ≤ 800 ∧ (∀ i, i < L → mI M a1 i = nI (C i) ∧ C i < 2147483648) ∧ (∀ i, i < 88 → mI M wr i = W i) ∧ sk ≠ wr ∧ sk ≠ a1
def Ssk (sk a _k : Nat) : Prop := a = sk
theorem MCH.fr {M M1 : Mem} {a0 wr sk a1 L : Nat} {C : Nat → Nat} {W : Nat → Int32} (h : MCH M a0 wr sk a1 L C W) (hF : Fr (Ssk sk) M M1) : MCH M1 a0 wr sk a1 L C W := by
  obtain ⟨h1, h2, h3, h4, h5, h6, h7, h8, h9, h10, h11, h12, h13, h14⟩ := h
  have e1 : ∀ k, mI M1 a1 k = mI M a1 k := fun k => hF.i (fun q => h14 q.symm)
  have e2 : ∀ k, mI M1 wr k = mI M wr k := fun k => hF.i (fun q => h13 q.symm)
  obtain ⟨f1, f2, f3, f4, f5, -⟩ := hF
  unfold okO at h1 h4 h6 h8
  unfold MCH okO
  rw [f1, f3, f4, f5]
  exact ⟨h1, h2, h3, h4, h5, h6, h7, h8, h9, h10, fun i hi => by rw [e1]; exact h11 i hi, fun i hi => by rw [e2]; exact h12 i hi, h13, h14⟩
/-- the stack's cells, its top last -/
def STK (M : Mem) (sk : Nat) (st : List Int) : Prop := (∀ v ∈ st, S32 v) ∧ ∀ i, i < st.length → mJ M sk i = jj (st.reverse.getD i 0)
theorem STK.push {M : Mem} {sk : Nat} {st : List Int} {v : Int} (h : STK M sk st) (hv : S32 v) : STK (wJ M sk st.length (jj v)) sk (v :: st) := by
  refine ⟨fun x hx => ?_, fun i hi => ?_⟩
  · rcases List.mem_cons.mp hx with q | q
    · rw [q]; exact hv
    · exact h.1 x q
  · rw [mJ_wJ, List.reverse_cons]
    rw [List.length_cons] at hi
    by_cases q : i = st.length
    · rw [if_pos ⟨rfl, q⟩, q]
      congr 1
      simp [List.getD_eq_getElem?_getD]
    · rw [if_neg (fun w => q w.2), h.2 i (by omega)]
      congr 1
      simp only [List.getD_eq_getElem?_getD]
      rw [List.getElem?_append_left (by rw [List.length_reverse]; omega)]
theorem STK.pop {M : Mem} {sk : Nat} {st : List Int} {v : Int} (h : STK M sk (v :: st)) : STK M sk st ∧ S32 v ∧ mJ M sk st.length = jj v := by
  refine ⟨⟨fun x hx => h.1 x (List.mem_cons_of_mem _ hx), fun i hi => ?_⟩, h.1 v List.mem_cons_self, ?_⟩
  · rw [h.2 i (by rw [List.length_cons]; omega), List.reverse_cons]
    congr 1
    simp only [List.getD_eq_getElem?_getD]
    rw [List.getElem?_append_left (by rw [List.length_reverse]; omega)]
  · rw [h.2 st.length (by simp), List.reverse_cons]
    congr 1
    simp [List.getD_eq_getElem?_getD]
theorem sub1_S {a : Int} (h : a = 0 ∨ a = 1 ∨ S32 (1 - a)) (h2 : S32 a) : R64 (1 - a) := by
  have := h2.1
  have := h2.2
  exact ⟨by omega, by omega⟩
def RNX (M1 : Mem) (y : Option ((Mem × Int32 × Int32) ⊕ (Mem ⊕ (Mem ⊕ (Mem ⊕ (Mem ⊕ Mem)))))) : Prop := y = some (.inr (.inl M1)) ∨ y = some (.inr (.inr (.inl M1))) ∨ y = some (.inr (.inr (.inr (.inr (.inl M1))))) ∨ y = some (.inr (.inr (.inr (.inr (.inr M1)))))
def RNQ (sk : Nat) (M1 : Mem) (a : Nat) (st : List Int) (x : (Nat × List Int) ⊕ Option Int) (y : Option ((Mem × Int32 × Int32) ⊕ (Mem ⊕ (Mem ⊕ (Mem ⊕ (Mem ⊕ Mem)))))) : Prop := match x with
  | .inr none => RNX M1 y
  | .inr (some v) => y = some (.inr (.inr (.inr (.inl M1)))) ∧ ∃ z r, st = z :: r ∧ v = (z :: r).getLastD 0
  | .inl s => (s = (a, st)) ∨ ∃ M2, y = some (.inl (M2, nI s.2.length, nI s.1)) ∧ Fr (Ssk sk) M1 M2 ∧ STK M2 sk s.2 ∧ s.2.length ≤ 64 ∧ s.1 < 1000000000
/-- a step, its operation and its argument told -/
def mst2 (W : Nat → Int) (op ar a : Nat) (st : List Int) : (Nat × List Int) ⊕ Option Int :=
  if op = 1 ∨ op = 2 then
    (if 64 ≤ st.length ∨ (op = 2 ∧ 88 ≤ ar) then .inr none else .inl (a + 1, (if op = 1 then ((ar : Nat) : Int) else W ar) :: st))
  else match st with
    | [] => .inr none
    | z :: r =>
      if op = 0 then .inr (some ((z :: r).getLastD 0))
      else if op = 11 then (if z = 0 ∨ z = 1 then .inl (a + 1, (1 - z) :: r) else .inl (a, z :: r))
      else if op = 12 ∨ op = 13 then (if (z = 1 ↔ op = 12) then .inl (max a (ar - 1) + 1, z :: r) else .inl (a + 1, r))
      else match r with
        | [] => .inr none
        | b :: r2 => match ap op b z with
          | none => .inr none
          | some v => .inl (a + 1, v :: r2)
theorem mst2_eq {C : Nat → Nat} {L : Nat} {W : Nat → Int} {a : Nat} {st : List Int} (h : a < L) : mstep C L W a st = mst2 W (C a % 16) (C a / 16) a st := by
  unfold mstep mst2
  rw [if_neg (by omega)]
  rfl
noncomputable def rnC (a0 : Nat) (x28 x29 : Int32) (s2 : Mem × Int32 × Int32) : Option ((Mem × Int32 × Int32) ⊕ (Mem ⊕ (Mem ⊕ (Mem ⊕ (Mem ⊕ Mem))))) := bv (fun (s31 : Mem × Int32 × Int32) => bv (s31.2.2 + 1 : Int32) (fun x35 => some (.inl (s31.1, s31.2.1, x35)))) (fun j30 => bv (fun (s37 : Unit) => grd (okO s2.1 3 a0) (Option.bind (mR s2.1 a0 1) (fun r41 => grd (okO s2.1 15 r41) (if (nI (mL s2.1 r41)) ≤ s2.2.1 then (some (.inr (.inr (.inr (.inr (.inr s2.1)))))) else (bv (fun (s44 : Unit) => Option.bind (mR s2.1 a0 1) (fun r47 => bv (fun (s49 : Int64) => grd (okO s2.1 15 r47) (grd (vp_in s2.2.1 (mL s2.1 r47)) (bv (wJ s2.1 r47 s2.2.1.toNatClampNeg s49) (fun M54 => bv (s2.2.1 + 1 : Int32) (fun x59 => j30 (M54, x59, s2.2.2)))))) (fun j48 => if x28 = 1 then (j48 x29.toInt64) else (Option.bind (mR s2.1 a0 0) (fun r60 => grd (okO s2.1 14 r60) (grd (vp_in x29 (mL s2.1 r60)) (j48 ((mI s2.1 r60 x29.toNatClampNeg).toInt64)))))))) (fun j43 => if x28 = 2 then (if x29 < 88 then (j43 ()) else (some (.inr (.inr (.inr (.inr (.inr s2.1))))))) else (j43 ()))))))) (fun j36 => if x28 = 1 then (j36 ()) else (if x28 = 2 then (j36 ()) else (if 1 ≤ s2.2.1 then (if x28 = 0 then (some (.inr (.inr (.inr (.inl s2.1))))) else (if x28 = 11 then (grd (okO s2.1 3 a0) (Option.bind (mR s2.1 a0 1) (fun r116 => Option.bind (mR s2.1 a0 1) (fun r117 => grd (okO s2.1 15 r117) (grd (vp_in (s2.2.1 - 1) (mL s2.1 r117)) (grd (okO s2.1 15 r116) (grd (vp_in (s2.2.1 - 1) (mL s2.1 r116)) (bv (wJ s2.1 r116 (s2.2.1 - 1).toNatClampNeg (1 - (mJ s2.1 r117 (s2.2.1 - 1).toNatClampNeg))) (fun M122 => j30 (M122, s2.2.1, s2.2.2)))))))))) else (bv (fun (s64 : Unit) => grd (okO s2.1 3 a0) (Option.bind (mR s2.1 a0 1) (fun r68 => grd (okO s2.1 15 r68) (grd (vp_in (s2.2.1 - 1) (mL s2.1 r68)) (bv (fun (s72 : Int32) => bv (fun (s76 : Int32) => bv (fun (s80 : Int32) => bv (fun (s84 : Int32) => bv (fun (s88 : Int32) => j30 (s2.1, s88, s84)) (fun j87 => if s80 = 0 then (j87 (s2.2.1 - 1)) else (j87 s2.2.1))) (fun j83 => if s80 = 0 then (j83 s2.2.2) else (j83 (mmax s2.2.2 (x29 - 1))))) (fun j79 => if s72 = s76 then (j79 1) else (j79 0))) (fun j75 => if x28 = 12 then (j75 1) else (j75 0))) (fun j71 => if (lg_cmp (mJ s2.1 r68 (s2.2.1 - 1).toNatClampNeg) 1) = 0 then (j71 1) else (j71 0))))))) (fun j63 => if x28 = 12 then (j63 ()) else (if x28 = 13 then (j63 ()) else (bv (fun (s92 : Int64) => if (lg_cmp s92 (-4611686018427387904)) = 0 then (some (.inr (.inr (.inr (.inr (.inl s2.1)))))) else (bv (s2.2.1 + (-1) : Int32) (fun x95 => grd (okO s2.1 3 a0) (Option.bind (mR s2.1 a0 1) (fun r97 => grd (okO s2.1 15 r97) (grd (vp_in (x95 - 1) (mL s2.1 r97)) (bv (wJ s2.1 r97 (x95 - 1).toNatClampNeg s92) (fun M100 => j30 (M100, x95, s2.2.2))))))))) (fun j91 => if 2 ≤ s2.2.1 then (grd (okO s2.1 3 a0) (Option.bind (mR s2.1 a0 1) (fun r106 => grd (okO s2.1 15 r106) (grd (vp_in (s2.2.1 - 2) (mL s2.1 r106)) (Option.bind (mR s2.1 a0 1) (fun r109 => grd (okO s2.1 15 r109) (grd (vp_in (s2.2.1 - 1) (mL s2.1 r109)) (Option.bind (f_X3_apply x28 (mJ s2.1 r106 (s2.2.1 - 2).toNatClampNeg) (mJ s2.1 r109 (s2.2.1 - 1).toNatClampNeg)) (fun q112 => j91 q112))))))))) else (j91 (-4611686018427387904))))))))) else (some (.inr (.inr (.inl s2.1))))))))
theorem rnB_eq {a0 a1 : Nat} {s2 : Mem × Int32 × Int32} : rnB a0 a1 s2 = grd (okO s2.1 14 a1) (if (nI (mL s2.1 a1)) ≤ s2.2.2 then (some (.inr (.inl s2.1))) else (grd (vp_in s2.2.2 (mL s2.1 a1)) (rnC a0 ((mI s2.1 a1 s2.2.2.toNatClampNeg) &&& 15) (sr (mI s2.1 a1 s2.2.2.toNatClampNeg) 4) s2))) := rfl
theorem rn_C {a0 wr sk a1 L : Nat} {C : Nat → Nat} {W : Nat → Int32} {M1 : Mem} {a op ar : Nat} {st : List Int} (hm : MCH M1 a0 wr sk a1 L C W) (hst : STK M1 sk st) (h64 : st.length ≤ 64) (ha : a < 1000) (hop : op < 16) (har : ar < 134217728) : RNQ sk M1 a st (mst2 (tI W) op ar a st) (rnC a0 (nI op) (nI ar) (M1, nI st.length, nI a)) := by
  obtain ⟨h1, h2, h3, h4, h5, h6, h7, -, -, -, -, h12, h13, h14⟩ := hm
  have eo : ∀ c : Nat, c < 16 → ((nI op = nI c) ↔ op = c) := fun c hc => neqI (by omega) (by omega)
  have eo0 : (nI op = 0) ↔ op = 0 := eo 0 (by omega)
  have eo1 : (nI op = 1) ↔ op = 1 := eo 1 (by omega)
  have eo2 : (nI op = 2) ↔ op = 2 := eo 2 (by omega)
  have eo11 : (nI op = 11) ↔ op = 11 := eo 11 (by omega)
  have eo12 : (nI op = 12) ↔ op = 12 := eo 12 (by omega)
  have eo13 : (nI op = 13) ↔ op = 13 := eo 13 (by omega)
  have fk : ∀ (i : Nat) (v : Int64), Fr (Ssk sk) M1 (wJ M1 sk i v) := fun i v => Fr.rf.wJ rfl
  unfold rnC
  simp only [bv, h1, h2, h3, h4, h5, h6, h7, grd_T, Option.bind_some, nsucc]
  unfold mst2
  by_cases p12 : op = 1 ∨ op = 2
  · rw [if_pos p12]
    have e0 : ∀ (A B : Option ((Mem × Int32 × Int32) ⊕ (Mem ⊕ (Mem ⊕ (Mem ⊕ (Mem ⊕ Mem)))))), (if nI op = 1 then A else if nI op = 2 then A else B) = A := by
      intro A B
      by_cases q : op = 1
      · rw [if_pos (eo1.mpr q)]
      · rw [if_neg (fun w => q (eo1.mp w)), if_pos (eo2.mpr (by omega))]
    rw [e0]
    by_cases q64 : 64 ≤ st.length
    · rw [if_pos (Or.inl q64), if_pos ((nleI (by omega) (by omega)).mpr q64)]
      exact Or.inr (Or.inr (Or.inr rfl))
    rw [if_neg (fun w => q64 ((nleI (by omega) (by omega)).mp w)), grd_y ((nvp (by omega)).mpr (by omega)), nclampI (a := st.length) (by omega)]
    by_cases q1 : op = 1
    · rw [if_neg (by omega), if_pos q1, if_neg (fun w => by have := eo2.mp w; omega), if_pos (eo1.mpr q1), jj_i, nI_tI (by omega)]
      refine Or.inr ⟨_, rfl, fk _ _, hst.push ⟨by omega, by omega⟩, ?_, ?_⟩
      · simp only [List.length_cons]; omega
      · show a + 1 < _
        omega
    · have q2 : op = 2 := by omega
      rw [if_pos (eo2.mpr q2), if_neg (fun w => q1 (eo1.mp w))]
      by_cases q88 : 88 ≤ ar
      · rw [if_pos (Or.inr ⟨q2, q88⟩), if_neg (show ¬ nI ar < 88 from fun w => by rw [show (88 : Int32) = nI 88 from rfl, nltI (by omega) (by omega)] at w; omega)]
        exact Or.inr (Or.inr (Or.inr rfl))
      · rw [if_neg (by omega), if_pos (show nI ar < 88 by rw [show (88 : Int32) = nI 88 from rfl, nltI (by omega) (by omega)]; omega), if_neg q1, grd_y ((nvp (by omega)).mpr (by omega)), nclampI (a := ar) (by omega), h12 ar (by omega), jj_i, grd_y ((nvp (by omega)).mpr (show st.length < 64 by omega))]
        refine Or.inr ⟨_, rfl, fk _ _, hst.push (S32_i _), ?_, ?_⟩
        · simp only [List.length_cons]; omega
        · show a + 1 < _
          omega
  · rw [if_neg p12, if_neg (fun w => p12 (Or.inl (eo1.mp w))), if_neg (fun w => p12 (Or.inr (eo2.mp w)))]
    cases st with
    | nil =>
      rw [if_neg (by decide)]
      exact Or.inr (Or.inl rfl)
    | cons z r =>
      obtain ⟨p1, p2, p3⟩ := hst.pop
      rw [List.length_cons] at h64 ⊢
      have e1 : nI (r.length + 1) - 1 = nI r.length := by
        rw [show (1 : Int32) = nI 1 from rfl, nsub (by omega), Nat.add_sub_cancel]
      rw [if_pos (show (1 : Int32) ≤ nI (r.length + 1) by rw [show (1 : Int32) = nI 1 from rfl, nleI (by omega) (by omega)]; omega), e1, grd_y ((nvp (by omega)).mpr (show r.length < 64 by omega)), grd_y ((nvp (by omega)).mpr (show r.length < 64 by omega)), nclampI (a := r.length) (by omega), p3]
      simp only
      by_cases q0 : op = 0
      · rw [if_pos q0, if_pos (eo0.mpr q0)]
        exact ⟨rfl, z, r, rfl, rfl⟩
      rw [if_neg q0, if_neg (fun w => q0 (eo0.mp w))]
      by_cases q11 : op = 11
      · rw [if_pos q11, if_pos (eo11.mpr q11)]
        by_cases qz : z = 0 ∨ z = 1
        · rw [if_pos qz, show (1 : Int64) = jj 1 from rfl, jj_sub]
          have := p1.push (v := 1 - z) ⟨by omega, by omega⟩
          refine Or.inr ⟨_, rfl, fk _ _, this, ?_, ?_⟩
          · simp only [List.length_cons]; omega
          · show a + 1 < _
            omega
        · rw [if_neg qz]
          exact Or.inl rfl
      rw [if_neg q11, if_neg (fun w => q11 (eo11.mp w))]
      by_cases qj : op = 12 ∨ op = 13
      · rw [if_pos qj]
        have eA : ∀ (A B : Option ((Mem × Int32 × Int32) ⊕ (Mem ⊕ (Mem ⊕ (Mem ⊕ (Mem ⊕ Mem)))))), (if nI op = 12 then A else if nI op = 13 then A else B) = A := by
          intro A B
          by_cases q : op = 12
          · rw [if_pos (eo12.mpr q)]
          · rw [if_neg (fun w => q (eo12.mp w)), if_pos (eo13.mpr (by omega))]
        rw [eA]
        have ez := lgc0 p2.r (show R64 1 from ⟨by decide, by decide⟩)
        have em : mmax (nI a) (nI ar - 1) = nI (max a (ar - 1)) := by
          unfold mmax
          by_cases w0 : ar = 0
          · subst w0
            rw [if_neg (show ¬ nI a < nI 0 - 1 by rw [Int32.lt_iff_toInt_lt, nI_tI (by omega)]; show ¬ (a : Int) < -1; omega), show max a (0 - 1) = a by omega]
          · rw [npred1 (by omega)]
            by_cases w1 : a < ar - 1
            · rw [if_pos ((nltI (by omega) (by omega)).mpr w1), show max a (ar - 1) = ar - 1 by omega]
            · rw [if_neg (fun w => w1 ((nltI (by omega) (by omega)).mp w)), show max a (ar - 1) = a by omega]
        have yes : RNQ sk M1 a (z :: r) (.inl (max a (ar - 1) + 1, z :: r)) (some (.inl (M1, nI (r.length + 1), mmax (nI a) (nI ar - 1) + 1))) := by
          rw [em, nsucc]
          exact Or.inr ⟨M1, rfl, Fr.rf, hst, by simp only [List.length_cons]; omega, by show max a (ar - 1) + 1 < _; omega⟩
        have no : RNQ sk M1 a (z :: r) (.inl (a + 1, r)) (some (.inl (M1, nI r.length, nI (a + 1)))) := Or.inr ⟨M1, rfl, Fr.rf, p1, by show r.length ≤ 64; omega, by show a + 1 < _; omega⟩
        have n10 : ¬ (1 : Int32) = 0 := by decide
        have n01 : ¬ (0 : Int32) = 1 := by decide
        rw [show (1 : Int64) = jj 1 from rfl]
        by_cases z1 : z = 1
        · rw [if_pos (ez.mpr z1)]
          by_cases o12 : op = 12
          · rw [if_pos ⟨fun _ => o12, fun _ => z1⟩, if_pos (eo12.mpr o12)]
            simp only [if_true, n10, if_false]
            rw [grd_y ((nvp (by omega)).mpr (show r.length < 64 by omega))]
            exact yes
          · rw [if_neg (fun w => o12 (w.mp z1)), if_neg (fun w => o12 (eo12.mp w))]
            simp only [n10, if_false, if_true]
            rw [grd_y ((nvp (by omega)).mpr (show r.length < 64 by omega))]
            exact no
        · rw [if_neg (fun w => z1 (ez.mp w))]
          by_cases o12 : op = 12
          · rw [if_neg (fun w => z1 (w.mpr o12)), if_pos (eo12.mpr o12)]
            simp only [n01, if_false, if_true]
            rw [grd_y ((nvp (by omega)).mpr (show r.length < 64 by omega))]
            exact no
          · rw [if_pos ⟨fun w => absurd w z1, fun w => absurd w o12⟩, if_neg (fun w => o12 (eo12.mp w))]
            simp only [if_true, n10, if_false]
            rw [grd_y ((nvp (by omega)).mpr (show r.length < 64 by omega))]
            exact yes
      rw [if_neg qj, if_neg (fun w => qj (Or.inl (eo12.mp w))), if_neg (fun w => qj (Or.inr (eo13.mp w)))]
      have eB := lgc0 R64_B R64_B
      cases r with
      | nil =>
        rw [if_neg (by decide), if_pos (show lg_cmp (-4611686018427387904) (-4611686018427387904) = 0 from eB.mpr rfl)]
        exact Or.inr (Or.inr (Or.inl rfl))
      | cons b r2 =>
        obtain ⟨s1, s2, s3⟩ := p1.pop
        rw [List.length_cons] at h64 ⊢
        have e2 : nI (r2.length + 1 + 1) - 2 = nI r2.length := by
          rw [show (2 : Int32) = nI 2 from rfl, nsub (by omega)]
          congr 1
        rw [if_pos (show (2 : Int32) ≤ nI (r2.length + 1 + 1) by rw [show (2 : Int32) = nI 2 from rfl, nleI (by omega) (by omega)]; omega), e2, grd_y ((nvp (by omega)).mpr (show r2.length < 64 by omega)), nclampI (a := r2.length) (by omega), s3, c_apply ⟨by omega, by omega⟩ s2 p2, Option.bind_some, grd_y ((nvp (by omega)).mpr (show r2.length + 1 < 64 by omega))]
        simp only
        cases hap : ap op b z with
        | none =>
          rw [show jO none = JB from rfl, if_pos (show lg_cmp JB (-4611686018427387904) = 0 from eB.mpr rfl)]
          exact Or.inr (Or.inr (Or.inl rfl))
        | some v =>
          have hv := ap_S hap
          have e3 : nI (r2.length + 1 + 1) + -1 = nI (r2.length + 1) := by
            have := npred (k := r2.length + 1 + 1) (by omega)
            rw [show (1 : Int32) = nI 1 from rfl, this]
            congr 1
          have e4 : nI (r2.length + 1) - 1 = nI r2.length := by
            rw [show (1 : Int32) = nI 1 from rfl, nsub (by omega), Nat.add_sub_cancel]
          rw [show jO (some v) = jj v from rfl, if_neg (show ¬ lg_cmp (jj v) (-4611686018427387904) = 0 from fun w => by
            have := (lgc0 hv.r R64_B).mp w
            have := hv.1
            omega), e3, e4, grd_y ((nvp (by omega)).mpr (show r2.length < 64 by omega)), nclampI (a := r2.length) (by omega)]
          exact Or.inr ⟨_, rfl, fk _ _, s1.push hv, by simp only [List.length_cons]; omega, by show a + 1 < _; omega⟩
theorem c_runL {a0 wr sk a1 L : Nat} {C : Nat → Nat} {W : Nat → Int32} {M : Mem} {r : Option Int} : ∀ n a st M1, MCH M1 a0 wr sk a1 L C W → Fr (Ssk sk) M M1 → STK M1 sk st → st.length ≤ 64 → a < 1000000000 → mrunN C L (tI W) n a st = some r → TT (loopO (rnB a0 a1) (M1, nI st.length, nI a)) (fun x => TT (Sum.elim (fun (x16 : Mem) => some (x16, JB)) (Sum.elim (fun (x18 : Mem) => some (x18, JB)) (Sum.elim (fun (x20 : Mem) => grd (okO x20 3 a0) (Option.bind (mR x20 a0 1) (fun r128 => grd (okO x20 15 r128) (grd (vp_in 0 (mL x20 r128)) (some (x20, mJ x20 r128 (0 : Int32).toNatClampNeg)))))) (Sum.elim (fun (x22 : Mem) => some (x22, JB)) (fun (x24 : Mem) => some (x24, JB))))) x) (fun q => Fr (Ssk sk) M q.1 ∧ q.2 = jO r)) := by
  intro n
  induction n with
  | zero => intro a st M1 _ _ _ _ _ h; cases h
  | succ n ih =>
    intro a st M1 hm hF hst h64 ha hr
    rw [mrunN] at hr
    obtain ⟨h1, h2, h3, h4, h5, h6, h7, h8, h9, h10, h11, -⟩ := id hm
    by_cases hL : L ≤ a
    · have e : mstep C L (tI W) a st = .inr none := by
        unfold mstep
        rw [if_pos hL]
      rw [e] at hr
      cases hr
      rw [loopO_eq, rnB_eq]
      simp only
      rw [grd_y h8, h9, if_pos ((nleI (by omega) (by omega)).mpr hL)]
      refine ⟨Sum.inl M1, rfl, ?_⟩
      refine ⟨(M1, JB), rfl, hF, rfl⟩
    · obtain ⟨hC, hC2⟩ := h11 a (by omega)
      have eop : nI (C a) &&& 15 = nI (C a % 16) := by
        rw [show (15 : Int32) = nI 15 from rfl, and_n]
        congr 1
        have := Nat.and_two_pow_sub_one_eq_mod (C a) 4
        simpa using this
      have ear : sr (nI (C a)) 4 = nI (C a / 16) := by
        rw [show (4 : Int32) = nI 4 from rfl, sr_n hC2 (by omega)]
      have key := rn_C hm hst h64 (show a < 1000 by omega) (Nat.mod_lt (C a) (by decide)) (show C a / 16 < 134217728 by omega)
      have eB : rnB a0 a1 (M1, nI st.length, nI a) = rnC a0 (nI (C a % 16)) (nI (C a / 16)) (M1, nI st.length, nI a) := by
        rw [rnB_eq]
        simp only
        rw [grd_y h8, h9, if_neg (fun w => hL ((nleI (by omega) (by omega)).mp w)), grd_y ((nvp (by omega)).mpr (by omega)), nclampI (by omega), hC, eop, ear]
      rw [← eB, ← mst2_eq (C := C) (L := L) (by omega)] at key
      cases hs : mstep C L (tI W) a st with
      | inr o =>
        rw [hs] at hr key
        rw [loopO_eq]
        generalize rnB a0 a1 (M1, nI st.length, nI a) = y at key ⊢
        cases hr
        cases r with
        | none =>
          rcases key with k | k | k | k
          · rw [k]; exact ⟨_, rfl, _, rfl, hF, rfl⟩
          · rw [k]; exact ⟨_, rfl, _, rfl, hF, rfl⟩
          · rw [k]; exact ⟨_, rfl, _, rfl, hF, rfl⟩
          · rw [k]; exact ⟨_, rfl, _, rfl, hF, rfl⟩
        | some v =>
          obtain ⟨k, z, r2, e, hv⟩ := key
          subst e
          rw [k]
          refine ⟨_, rfl, ?_⟩
          show TT (grd (okO M1 3 a0) _) _
          rw [grd_y h1, h3]
          simp only [Option.bind_some]
          rw [grd_y h6, h7, grd_y (show vp_in 0 64 from (nvp (a := 0) (by omega)).mpr (by omega)), TT_some]
          refine ⟨hF, ?_⟩
          show mJ M1 sk (nI 0).toNatClampNeg = jj v
          rw [nclampI (by omega), hst.2 0 (by simp), hv]
          congr 1
          rw [List.getD_eq_getElem?_getD, ← List.head?_eq_getElem?, List.head?_reverse]
          cases r2 with
          | nil => rfl
          | cons b r3 => simp [List.getLastD, List.getLast?]
      | inl s =>
        rw [hs] at hr key
        simp only at hr
        rcases key with k | ⟨M2, k, k2, k3, k4, k5⟩
        · subst k
          exact ih a st M1 hm hF hst h64 ha hr
        · rw [loopO_eq, k]
          exact ih s.1 s.2 M2 (hm.fr k2) (hF.tr k2) k3 k4 k5 hr
theorem mmax_n0 {n : Nat} (hn : n < 2147483648) : mmax (nI n) 0 = nI n := by
  unfold mmax
  rw [if_neg (show ¬ nI n < 0 by rw [show (0 : Int32) = nI 0 from rfl, nltI (by omega) (by omega)]; omega)]
/-- the class's machine tells what the machine told -/
theorem c_run {a0 wr sk a1 L : Nat} {C : Nat → Nat} {W : Nat → Int32} {M : Mem} {r : Option Int} {u : Nat} (hm : MCH M a0 wr sk a1 L C W) (hu : u < 1000000000) (hr : RUN C L (tI W) u [] r) : TT (f_X3_run M a0 a1 (nI u)) (fun q => Fr (Ssk sk) M q.1 ∧ q.2 = jO r) := by
  obtain ⟨n, hn⟩ := hr
  rw [rn_eq, TT_bind, mmax_n0 (by omega)]
  exact c_runL n u [] M hm Fr.rf ⟨fun v hv => (by cases hv), fun i hi => (by cases hi)⟩ (by simp) hu hn
