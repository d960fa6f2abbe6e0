/-! MEMORY: references into arrays, new cells -/
def nok (n : Int32) : Prop := ¬ n < 0 ∧ n.toNatClampNeg ≤ 60000000
theorem Le.newO {M : Mem} {c n : Nat} : Le M (nO M c n) := by
  refine ⟨Nat.le_succ _, Nat.le_add_right _ _, fun b hb => ⟨?_, rfl⟩⟩
  exact if_neg (Nat.ne_of_lt hb)
theorem Le.newA {M : Mem} {c n : Nat} : Le M (nA M c n) := by
  refine ⟨Nat.le_succ _, Nat.le_add_right _ _, fun b hb => ⟨?_, ?_⟩⟩
  · exact if_neg (Nat.ne_of_lt hb)
  · exact if_neg (Nat.ne_of_lt hb)
theorem cE_nO_ne {G : Gh} {M : Mem} {c n b : Nat} (h : b ≠ mn M) : cE G (nO M c n) b = cE G M b := by
  have e1 : mI (nO M c n) b = mI M b := if_neg h
  have e2 : mK (nO M c n) b = mK M b := if_neg h
  have e3 : mL (nO M c n) = mL M := rfl
  have e4 : mJ (nO M c n) = mJ M := rfl
  have e5 : mR (nO M c n) b = mR M b := if_neg h
  unfold cE cO cA cF
  simp only [e1, e2, e3, e4, e5]
theorem cE_nA_ne {G : Gh} {M : Mem} {c n b : Nat} (h : b ≠ mn M) : cE G (nA M c n) b = cE G M b := by
  have e1 : mI (nA M c n) b = mI M b := if_neg h
  have e2 : mK (nA M c n) b = mK M b := if_neg h
  have e3 : mL (nA M c n) b = mL M b := if_neg h
  have e4 : mJ (nA M c n) b = mJ M b := if_neg h
  have e5 : mR (nA M c n) b = mR M b := if_neg h
  unfold cE cO cA cF
  simp only [e1, e2, e3, e4, e5]
section
variable {X : Ctx} {Y : Sta} {M M1 : Mem} {pc pc' : Nat} {L L' : List (Option Value)} {st st' : List Value} {t : Option (Mem × Option Value)}
variable {ci idx a : Nat} {C : String} {T : u_T} {N : Nat} {ty : Nat → FieldType}
variable {α : Type} {F : α → Option (Mem × Option Value)}
theorem s_aast {i : Int32} {v k t0 : Nat} {r : vw_C} {kt : Mem → Option α} (hk : ¬ k < 18) (ht : ∀ G : Gh, (tysOf G)[t0]? = some (gy G k, .object r.1)) (hc : vwCl[ci]? = some r) (hci : ci < 13) (ho : okO M k a) (hi : vp_in i (mL M a)) (hv : okO M ci v) (hd : decode (yc Y) pc = .ok (.aastore, 1)) (kk : ∀ M1, M1 = wR M a i.toNatClampNeg (some v) → S0 X Y M1 (pc + 1) L st (Option.bind (kt M1) F)) : S0 X Y M pc L (.ref (gh (xG X) + v) :: .int i :: .ref (gh (xG X) + a) :: st) (Option.bind (bv (wR M a i.toNatClampNeg (some v)) kt) F) := by
  refine S0.liftW (M1 := wR M a i.toNatClampNeg (some v)) rfl rfl rfl rfl (fun CX H locs cs ss Q ls hH hS hl w9 => ?_) (kk _ rfl)
  have hlt : i.toNatClampNeg < mL M a := Nat.not_le.mp fun q => hi (Or.inr q)
  have h0 : ¬ i < 0 := fun q => hi (Or.inl q)
  have hK := CX.2.2.2.2.1
  obtain ⟨r', hr', cellV, g1, g2, g3, -⟩ := hH.obj hv hci 0 _ rfl
  have hcls := (hK.1 ci r hc).2
  obtain ⟨kA, comp, k1, k2, k3, -⟩ := (hK.2 t0 _ (ht _)).2
  have hcomp : comp = (gD (xG X)).1 ci := Option.some.inj (k3.symm.trans hcls.1)
  subst hcomp
  obtain ⟨kC, hkC, -⟩ := hcls.2
  have hp : H[gh (xG X) + a]? = some (vp_cell (gy (xG X) k) (cA (xG X) M a k)) := hH.arr ho (by omega) 0 _ rfl
  have hcA : cA (xG X) M a k = (mL M a, .inr (.inr (.inr (.inr (fun j => (mR M a j).map (gh (xG X) + ·)))))) := by
    unfold cA
    rw [if_neg (by omega), if_neg hk]
  rw [hcA] at hp
  refine W.aast CX.1 CX.2.1 hp (fun q h => by cases h) (fun h => by cases h) k1 k2 rfl hkC ⟨h0, by show _ < (arrV _ _ _).slots.size; rw [arrV_size]; exact hlt⟩ g1 (fun q h => by rw [g3] at h; cases h) (by rw [g2]; exact hkC) (by rw [g2]; exact va_assign hcls) rfl rfl hd fun H1 e z oq => ?_
  refine w9 H1 _ (hH.set (a := a) rfl z (fun b hb => cE_rR_ne hb) oq ?_) (hS.put z oq (Nat.le_add_right _ _))
  show va_at (gD (xG X)) vwCl (gh (xG X) + a, cE (xG X) (rR M a _) a) H1
  rw [cE_arrR ho hk]
  show H1[gh (xG X) + a]? = some (vp_cell _ _)
  rw [e, vp_cell_q, vp_cell_q, arrV_store]
  congr 2
  funext q
  by_cases hq : q = i.toNatClampNeg
  · subst hq
    simp [updV, va_up, va_rf]
  · simp [updV, va_up, hq]
theorem s_new (Fc : FCls ci C T N ty) {kt : Mem → Option α} (hcl : Cond.classLink (yo Y) idx C ∈ lw_good) (hd : decode (yc Y) pc = .ok (.new idx, 3)) (kk : ∀ M1, M1 = nO M ci N → S0 X Y M1 (pc + 3) L (.ref (gh (xG X) + mn M) :: st) (Option.bind (kt M1) F)) : S0 X Y M pc L st (Option.bind (bv (nO M ci N) kt) F) := by
  intro M' r e
  obtain ⟨a1, a2⟩ := kk (nO M ci N) rfl M' r e
  refine ⟨Le.newO.tr a1, fun CX b1 b2 H locs ls g1 g2 g3 g4 => ?_⟩
  have l1 : mn M + 1 ≤ mn M' := a1.1
  have l2 : mz M + N ≤ mz M' := a1.2.1
  have hsz := g1.1
  have h0 := g3.1
  rw [CX.2.2.2.2.2.2.1] at h0
  have hKn := CX.2.2.2.2.1.1 ci _ Fc.2.1
  refine W.newcK CX.1 CX.2.1 CX.2.2.1 (CX.2.2.2.1 _ hcl) (CX.2.2.2.1 _ Fc.2.2.2.2.2.2.2.1) (CX.2.2.2.1 _ Fc.2.2.2.2.2.2.2.2.1) rfl hd (by omega) (by omega) hKn.2.1 hsz fun H1 kC hkC e1 z1 o1 => ?_
  have hHP : HP (xG X) (nO M ci N) H1 := by
    refine g1.push rfl z1 (fun b hb => cE_nO_ne hb) o1 ?_
    have hk1 : mK (nO M ci N) (mn M) = ci := if_pos rfl
    rw [cE_obj hk1 Fc.1]
    refine ⟨_, Fc.2.1, (u_born ty CX.2.2.2.1 Fc.2.2.1 hKn hkC e1 Fc.2.2.2.1).to (fun j hj => ?_)⟩
    rw [Fc.2.2.2.2.2.2.2.2.2 j hj]
    have hlt : j < (fkd ci).length := by rw [Fc.2.2.2.2.2.1]; exact hj
    have hg : (fkd ci)[j]? = some ((fkd ci)[j]) := List.getElem?_eq_getElem hlt
    have hI : mI (nO M ci N) (mn M) = fun _ => 0 := if_pos rfl
    have hR : mR (nO M ci N) (mn M) = fun _ => none := if_pos rfl
    unfold vp_V
    rw [List.getD_eq_getElem?_getD, cO_at hg, hg]
    simp only [Option.some.injEq, Option.getD_some, cF, hI, hR]
    rfl
  have hS1 : va_S (AA (xG X)) (xs X).heap H1 locs := ⟨Nat.le_trans g3.1 (by omega), fun x h1 h2 => (o1 x (by rw [← hsz]; exact Nat.lt_of_lt_of_le h1 g3.1)).trans (g3.2.1 x h1 h2), g3.2.2⟩
  have h3 := a2 CX b1 b2 H1 locs ls hHP (Nat.le_trans g2 (Nat.le_add_right _ _)) hS1 g4
  have q1 : mn (nO M ci N) - xn X = mn M - xn X + 1 := by show mn M + 1 - xn X = _; omega
  have q2 : mz (nO M ci N) - xz X = mz M - xz X + N := by show mz M + N - xz X = _; omega
  rw [q1, q2] at h3
  exact h3
theorem s_newa_byte {n : Int32} {kt : Mem → Option α} (hn : nok n) (hd : decode (yc Y) pc = .ok (.newarray .byte, 2)) (hw : Cond.arrayClass .byte ∈ lw_good) (kk : ∀ M1, M1 = nA M 13 n.toNatClampNeg → S0 X Y M1 (pc + 2) L (.ref (gh (xG X) + mn M) :: st) (Option.bind (kt M1) F)) : S0 X Y M pc L (.int n :: st) (Option.bind (bv (nA M 13 n.toNatClampNeg) kt) F) := by
  intro M' r e
  obtain ⟨a1, a2⟩ := kk _ rfl M' r e
  refine ⟨Le.newA.tr a1, fun CX b1 b2 H locs ls g1 g2 g3 g4 => ?_⟩
  have l1 : mn M + 1 ≤ mn M' := a1.1
  have l2 : mz M + n.toNatClampNeg ≤ mz M' := a1.2.1
  have hsz := g1.1
  have h0 := g3.1
  rw [CX.2.2.2.2.2.2.1] at h0
  have hbt : n.toNatClampNeg * componentBytes .byte ≤ 536870912 := by
    have := hn.2
    simp only [componentBytes]
    omega
  refine va_newaK CX.1 CX.2.1 (atype := .byte) (CX.2.2.2.1 _ hw) rfl hd rfl hn.1 rfl hbt (by omega) (by omega) hsz fun H1 cA1 e1 z1 o1 hAr hNm => ?_
  have hcls : cA1 = gy (xG X) 13 := by
    have h9 : (xs X).vm.findClass ("[" ++ (FieldType.toString .byte)) = some (gy (xG X) 13) := (CX.2.2.2.2.1.2 0 _ rfl).2
    exact Option.some.inj (hNm.symm.trans h9)
  subst hcls
  have hHP : HP (xG X) (nA M 13 n.toNatClampNeg) H1 := by
    refine g1.push rfl z1 (fun b hb => cE_nA_ne hb) o1 ?_
    have hk1 : mK (nA M 13 n.toNatClampNeg) (mn M) = 13 := if_pos rfl
    have hL1 : mL (nA M 13 n.toNatClampNeg) (mn M) = n.toNatClampNeg := if_pos rfl
    have hI1 : mI (nA M 13 n.toNatClampNeg) (mn M) = fun _ => 0 := if_pos rfl
    have hJ1 : mJ (nA M 13 n.toNatClampNeg) (mn M) = fun _ => 0 := if_pos rfl
    unfold cE cA
    rw [hk1, if_neg (by decide), hL1]
    simp only [hI1, hJ1]
    exact e1
  have hS1 : va_S (AA (xG X)) (xs X).heap H1 locs := ⟨Nat.le_trans g3.1 (by omega), fun x h1 h2 => (o1 x (by rw [← hsz]; exact Nat.lt_of_lt_of_le h1 g3.1)).trans (g3.2.1 x h1 h2), g3.2.2⟩
  have h3 := a2 CX b1 b2 H1 locs ls hHP (Nat.le_trans g2 (Nat.le_add_right _ _)) hS1 g4
  have q1 : mn (nA M 13 n.toNatClampNeg) - xn X = mn M - xn X + 1 := by show mn M + 1 - xn X = _; omega
  have q2 : mz (nA M 13 n.toNatClampNeg) - xz X = mz M - xz X + n.toNatClampNeg := by show mz M + n.toNatClampNeg - xz X = _; omega
  rw [q1, q2] at h3
  exact h3
theorem s_newa_int {n : Int32} {kt : Mem → Option α} (hn : nok n) (hd : decode (yc Y) pc = .ok (.newarray .int, 2)) (hw : Cond.arrayClass .int ∈ lw_good) (kk : ∀ M1, M1 = nA M 14 n.toNatClampNeg → S0 X Y M1 (pc + 2) L (.ref (gh (xG X) + mn M) :: st) (Option.bind (kt M1) F)) : S0 X Y M pc L (.int n :: st) (Option.bind (bv (nA M 14 n.toNatClampNeg) kt) F) := by
  intro M' r e
  obtain ⟨a1, a2⟩ := kk _ rfl M' r e
  refine ⟨Le.newA.tr a1, fun CX b1 b2 H locs ls g1 g2 g3 g4 => ?_⟩
  have l1 : mn M + 1 ≤ mn M' := a1.1
  have l2 : mz M + n.toNatClampNeg ≤ mz M' := a1.2.1
  have hsz := g1.1
  have h0 := g3.1
  rw [CX.2.2.2.2.2.2.1] at h0
  have hbt : n.toNatClampNeg * componentBytes .int ≤ 536870912 := by
    have := hn.2
    simp only [componentBytes]
    omega
  refine va_newaK CX.1 CX.2.1 (atype := .int) (CX.2.2.2.1 _ hw) rfl hd rfl hn.1 rfl hbt (by omega) (by omega) hsz fun H1 cA1 e1 z1 o1 hAr hNm => ?_
  have hcls : cA1 = gy (xG X) 14 := by
    have h9 : (xs X).vm.findClass ("[" ++ (FieldType.toString .int)) = some (gy (xG X) 14) := (CX.2.2.2.2.1.2 1 _ rfl).2
    exact Option.some.inj (hNm.symm.trans h9)
  subst hcls
  have hHP : HP (xG X) (nA M 14 n.toNatClampNeg) H1 := by
    refine g1.push rfl z1 (fun b hb => cE_nA_ne hb) o1 ?_
    have hk1 : mK (nA M 14 n.toNatClampNeg) (mn M) = 14 := if_pos rfl
    have hL1 : mL (nA M 14 n.toNatClampNeg) (mn M) = n.toNatClampNeg := if_pos rfl
    have hI1 : mI (nA M 14 n.toNatClampNeg) (mn M) = fun _ => 0 := if_pos rfl
    have hJ1 : mJ (nA M 14 n.toNatClampNeg) (mn M) = fun _ => 0 := if_pos rfl
    unfold cE cA
    rw [hk1, if_neg (by decide), hL1]
    simp only [hI1, hJ1]
    exact e1
  have hS1 : va_S (AA (xG X)) (xs X).heap H1 locs := ⟨Nat.le_trans g3.1 (by omega), fun x h1 h2 => (o1 x (by rw [← hsz]; exact Nat.lt_of_lt_of_le h1 g3.1)).trans (g3.2.1 x h1 h2), g3.2.2⟩
  have h3 := a2 CX b1 b2 H1 locs ls hHP (Nat.le_trans g2 (Nat.le_add_right _ _)) hS1 g4
  have q1 : mn (nA M 14 n.toNatClampNeg) - xn X = mn M - xn X + 1 := by show mn M + 1 - xn X = _; omega
  have q2 : mz (nA M 14 n.toNatClampNeg) - xz X = mz M - xz X + n.toNatClampNeg := by show mz M + n.toNatClampNeg - xz X = _; omega
  rw [q1, q2] at h3
  exact h3
theorem s_newa_long {n : Int32} {kt : Mem → Option α} (hn : nok n) (hd : decode (yc Y) pc = .ok (.newarray .long, 2)) (hw : Cond.arrayClass .long ∈ lw_good) (kk : ∀ M1, M1 = nA M 15 n.toNatClampNeg → S0 X Y M1 (pc + 2) L (.ref (gh (xG X) + mn M) :: st) (Option.bind (kt M1) F)) : S0 X Y M pc L (.int n :: st) (Option.bind (bv (nA M 15 n.toNatClampNeg) kt) F) := by
  intro M' r e
  obtain ⟨a1, a2⟩ := kk _ rfl M' r e
  refine ⟨Le.newA.tr a1, fun CX b1 b2 H locs ls g1 g2 g3 g4 => ?_⟩
  have l1 : mn M + 1 ≤ mn M' := a1.1
  have l2 : mz M + n.toNatClampNeg ≤ mz M' := a1.2.1
  have hsz := g1.1
  have h0 := g3.1
  rw [CX.2.2.2.2.2.2.1] at h0
  have hbt : n.toNatClampNeg * componentBytes .long ≤ 536870912 := by
    have := hn.2
    simp only [componentBytes]
    omega
  refine va_newaK CX.1 CX.2.1 (atype := .long) (CX.2.2.2.1 _ hw) rfl hd rfl hn.1 rfl hbt (by omega) (by omega) hsz fun H1 cA1 e1 z1 o1 hAr hNm => ?_
  have hcls : cA1 = gy (xG X) 15 := by
    have h9 : (xs X).vm.findClass ("[" ++ (FieldType.toString .long)) = some (gy (xG X) 15) := (CX.2.2.2.2.1.2 2 _ rfl).2
    exact Option.some.inj (hNm.symm.trans h9)
  subst hcls
  have hHP : HP (xG X) (nA M 15 n.toNatClampNeg) H1 := by
    refine g1.push rfl z1 (fun b hb => cE_nA_ne hb) o1 ?_
    have hk1 : mK (nA M 15 n.toNatClampNeg) (mn M) = 15 := if_pos rfl
    have hL1 : mL (nA M 15 n.toNatClampNeg) (mn M) = n.toNatClampNeg := if_pos rfl
    have hI1 : mI (nA M 15 n.toNatClampNeg) (mn M) = fun _ => 0 := if_pos rfl
    have hJ1 : mJ (nA M 15 n.toNatClampNeg) (mn M) = fun _ => 0 := if_pos rfl
    unfold cE cA
    rw [hk1, if_neg (by decide), hL1]
    simp only [hI1, hJ1]
    exact e1
  have hS1 : va_S (AA (xG X)) (xs X).heap H1 locs := ⟨Nat.le_trans g3.1 (by omega), fun x h1 h2 => (o1 x (by rw [← hsz]; exact Nat.lt_of_lt_of_le h1 g3.1)).trans (g3.2.1 x h1 h2), g3.2.2⟩
  have h3 := a2 CX b1 b2 H1 locs ls hHP (Nat.le_trans g2 (Nat.le_add_right _ _)) hS1 g4
  have q1 : mn (nA M 15 n.toNatClampNeg) - xn X = mn M - xn X + 1 := by show mn M + 1 - xn X = _; omega
  have q2 : mz (nA M 15 n.toNatClampNeg) - xz X = mz M - xz X + n.toNatClampNeg := by show mz M + n.toNatClampNeg - xz X = _; omega
  rw [q1, q2] at h3
  exact h3
theorem s_newa_short {n : Int32} {kt : Mem → Option α} (hn : nok n) (hd : decode (yc Y) pc = .ok (.newarray .short, 2)) (hw : Cond.arrayClass .short ∈ lw_good) (kk : ∀ M1, M1 = nA M 16 n.toNatClampNeg → S0 X Y M1 (pc + 2) L (.ref (gh (xG X) + mn M) :: st) (Option.bind (kt M1) F)) : S0 X Y M pc L (.int n :: st) (Option.bind (bv (nA M 16 n.toNatClampNeg) kt) F) := by
  intro M' r e
  obtain ⟨a1, a2⟩ := kk _ rfl M' r e
  refine ⟨Le.newA.tr a1, fun CX b1 b2 H locs ls g1 g2 g3 g4 => ?_⟩
  have l1 : mn M + 1 ≤ mn M' := a1.1
  have l2 : mz M + n.toNatClampNeg ≤ mz M' := a1.2.1
  have hsz := g1.1
  have h0 := g3.1
  rw [CX.2.2.2.2.2.2.1] at h0
  have hbt : n.toNatClampNeg * componentBytes .short ≤ 536870912 := by
    have := hn.2
    simp only [componentBytes]
    omega
  refine va_newaK CX.1 CX.2.1 (atype := .short) (CX.2.2.2.1 _ hw) rfl hd rfl hn.1 rfl hbt (by omega) (by omega) hsz fun H1 cA1 e1 z1 o1 hAr hNm => ?_
  have hcls : cA1 = gy (xG X) 16 := by
    have h9 : (xs X).vm.findClass ("[" ++ (FieldType.toString .short)) = some (gy (xG X) 16) := (CX.2.2.2.2.1.2 3 _ rfl).2
    exact Option.some.inj (hNm.symm.trans h9)
  subst hcls
  have hHP : HP (xG X) (nA M 16 n.toNatClampNeg) H1 := by
    refine g1.push rfl z1 (fun b hb => cE_nA_ne hb) o1 ?_
    have hk1 : mK (nA M 16 n.toNatClampNeg) (mn M) = 16 := if_pos rfl
    have hL1 : mL (nA M 16 n.toNatClampNeg) (mn M) = n.toNatClampNeg := if_pos rfl
    have hI1 : mI (nA M 16 n.toNatClampNeg) (mn M) = fun _ => 0 := if_pos rfl
    have hJ1 : mJ (nA M 16 n.toNatClampNeg) (mn M) = fun _ => 0 := if_pos rfl
    unfold cE cA
    rw [hk1, if_neg (by decide), hL1]
    simp only [hI1, hJ1]
    exact e1
  have hS1 : va_S (AA (xG X)) (xs X).heap H1 locs := ⟨Nat.le_trans g3.1 (by omega), fun x h1 h2 => (o1 x (by rw [← hsz]; exact Nat.lt_of_lt_of_le h1 g3.1)).trans (g3.2.1 x h1 h2), g3.2.2⟩
  have h3 := a2 CX b1 b2 H1 locs ls hHP (Nat.le_trans g2 (Nat.le_add_right _ _)) hS1 g4
  have q1 : mn (nA M 16 n.toNatClampNeg) - xn X = mn M - xn X + 1 := by show mn M + 1 - xn X = _; omega
  have q2 : mz (nA M 16 n.toNatClampNeg) - xz X = mz M - xz X + n.toNatClampNeg := by show mz M + n.toNatClampNeg - xz X = _; omega
  rw [q1, q2] at h3
  exact h3
theorem s_newa_bool {n : Int32} {kt : Mem → Option α} (hn : nok n) (hd : decode (yc Y) pc = .ok (.newarray .boolean, 2)) (hw : Cond.arrayClass .boolean ∈ lw_good) (kk : ∀ M1, M1 = nA M 17 n.toNatClampNeg → S0 X Y M1 (pc + 2) L (.ref (gh (xG X) + mn M) :: st) (Option.bind (kt M1) F)) : S0 X Y M pc L (.int n :: st) (Option.bind (bv (nA M 17 n.toNatClampNeg) kt) F) := by
  intro M' r e
  obtain ⟨a1, a2⟩ := kk _ rfl M' r e
  refine ⟨Le.newA.tr a1, fun CX b1 b2 H locs ls g1 g2 g3 g4 => ?_⟩
  have l1 : mn M + 1 ≤ mn M' := a1.1
  have l2 : mz M + n.toNatClampNeg ≤ mz M' := a1.2.1
  have hsz := g1.1
  have h0 := g3.1
  rw [CX.2.2.2.2.2.2.1] at h0
  have hbt : n.toNatClampNeg * componentBytes .boolean ≤ 536870912 := by
    have := hn.2
    simp only [componentBytes]
    omega
  refine va_newaK CX.1 CX.2.1 (atype := .boolean) (CX.2.2.2.1 _ hw) rfl hd rfl hn.1 rfl hbt (by omega) (by omega) hsz fun H1 cA1 e1 z1 o1 hAr hNm => ?_
  have hcls : cA1 = gy (xG X) 17 := by
    have h9 : (xs X).vm.findClass ("[" ++ (FieldType.toString .boolean)) = some (gy (xG X) 17) := (CX.2.2.2.2.1.2 4 _ rfl).2
    exact Option.some.inj (hNm.symm.trans h9)
  subst hcls
  have hHP : HP (xG X) (nA M 17 n.toNatClampNeg) H1 := by
    refine g1.push rfl z1 (fun b hb => cE_nA_ne hb) o1 ?_
    have hk1 : mK (nA M 17 n.toNatClampNeg) (mn M) = 17 := if_pos rfl
    have hL1 : mL (nA M 17 n.toNatClampNeg) (mn M) = n.toNatClampNeg := if_pos rfl
    have hI1 : mI (nA M 17 n.toNatClampNeg) (mn M) = fun _ => 0 := if_pos rfl
    have hJ1 : mJ (nA M 17 n.toNatClampNeg) (mn M) = fun _ => 0 := if_pos rfl
    unfold cE cA
    rw [hk1, if_neg (by decide), hL1]
    simp only [hI1, hJ1]
    exact e1
  have hS1 : va_S (AA (xG X)) (xs X).heap H1 locs := ⟨Nat.le_trans g3.1 (by omega), fun x h1 h2 => (o1 x (by rw [← hsz]; exact Nat.lt_of_lt_of_le h1 g3.1)).trans (g3.2.1 x h1 h2), g3.2.2⟩
  have h3 := a2 CX b1 b2 H1 locs ls hHP (Nat.le_trans g2 (Nat.le_add_right _ _)) hS1 g4
  have q1 : mn (nA M 17 n.toNatClampNeg) - xn X = mn M - xn X + 1 := by show mn M + 1 - xn X = _; omega
  have q2 : mz (nA M 17 n.toNatClampNeg) - xz X = mz M - xz X + n.toNatClampNeg := by show mz M + n.toNatClampNeg - xz X = _; omega
  rw [q1, q2] at h3
  exact h3
theorem s_anewD {n : Int32} {kt : Mem → Option α} (hn : nok n) (hd : decode (yc Y) pc = .ok (.anewarray idx, 3)) (hw : Cond.classLink (yo Y) idx RX2 ∈ lw_good) (kk : ∀ M1, M1 = nA M 18 n.toNatClampNeg → S0 X Y M1 (pc + 3) L (.ref (gh (xG X) + mn M) :: st) (Option.bind (kt M1) F)) : S0 X Y M pc L (.int n :: st) (Option.bind (bv (nA M 18 n.toNatClampNeg) kt) F) := by
  intro M' r e
  obtain ⟨a1, a2⟩ := kk _ rfl M' r e
  refine ⟨Le.newA.tr a1, fun CX b1 b2 H locs ls g1 g2 g3 g4 => ?_⟩
  have l1 : mn M + 1 ≤ mn M' := a1.1
  have l2 : mz M + n.toNatClampNeg ≤ mz M' := a1.2.1
  have hsz := g1.1
  have h0 := g3.1
  rw [CX.2.2.2.2.2.2.1] at h0
  have hbt : n.toNatClampNeg * 4 ≤ 536870912 := by
    have := hn.2
    omega
  refine W.anew CX.1 CX.2.1 CX.2.2.1 (CX.2.2.2.1 _ hw) (va_AO.use CX.2.2.2.2.2.1.2.2.2.2.1.1) rfl hd rfl hn.1 hbt (by omega) (by omega) fun cA1 kA comp f1 f2 f3 f4 => ?_
  have hcls : cA1 = gy (xG X) 18 := by
    obtain ⟨kA9, comp9, -, -, -, h9⟩ := (CX.2.2.2.2.1.2 5 _ rfl).2
    exact Option.some.inj (f1.symm.trans h9)
  subst hcls
  generalize hH1 : H.push ({ cls := gy (xG X) 18, slots := Array.replicate n.toNatClampNeg .null, vm := .none } : Cell) = H1
  have z1 : H1.size = gh (xG X) + mn M + 1 := by rw [← hH1, Array.size_push, hsz]
  have e1 : H1[gh (xG X) + mn M]? = some (arrV (gy (xG X) 18) n.toNatClampNeg (fun _ => .null)) := by rw [← hH1, ← hsz, Array.getElem?_push_size, ← arrV_new]
  have o1 : ∀ q : Nat, q < gh (xG X) + mn M → H1[q]? = H[q]? := fun q hq => by rw [← hH1, Array.getElem?_push, if_neg (by omega)]
  have hHP : HP (xG X) (nA M 18 n.toNatClampNeg) H1 := by
    refine g1.push rfl z1 (fun b hb => cE_nA_ne hb) o1 ?_
    have hk1 : mK (nA M 18 n.toNatClampNeg) (mn M) = 18 := if_pos rfl
    have hL1 : mL (nA M 18 n.toNatClampNeg) (mn M) = n.toNatClampNeg := if_pos rfl
    have hR1 : mR (nA M 18 n.toNatClampNeg) (mn M) = fun _ => none := if_pos rfl
    unfold cE cA
    rw [hk1, if_neg (by decide), hL1]
    simp only [hR1]
    exact e1
  have hS1 : va_S (AA (xG X)) (xs X).heap H1 locs := ⟨Nat.le_trans g3.1 (by omega), fun x h1 h2 => (o1 x (by rw [← hsz]; exact Nat.lt_of_lt_of_le h1 g3.1)).trans (g3.2.1 x h1 h2), g3.2.2⟩
  have h3 := a2 CX b1 b2 H1 locs ls hHP (Nat.le_trans g2 (Nat.le_add_right _ _)) hS1 g4
  have q1 : mn (nA M 18 n.toNatClampNeg) - xn X = mn M - xn X + 1 := by show mn M + 1 - xn X = _; omega
  have q2 : mz (nA M 18 n.toNatClampNeg) - xz X = mz M - xz X + n.toNatClampNeg := by show mz M + n.toNatClampNeg - xz X = _; omega
  rw [q1, q2] at h3
  rw [hsz]
  exact h3
theorem s_anewT {n : Int32} {kt : Mem → Option α} (hn : nok n) (hd : decode (yc Y) pc = .ok (.anewarray idx, 3)) (hw : Cond.classLink (yo Y) idx RX9 ∈ lw_good) (kk : ∀ M1, M1 = nA M 19 n.toNatClampNeg → S0 X Y M1 (pc + 3) L (.ref (gh (xG X) + mn M) :: st) (Option.bind (kt M1) F)) : S0 X Y M pc L (.int n :: st) (Option.bind (bv (nA M 19 n.toNatClampNeg) kt) F) := by
  intro M' r e
  obtain ⟨a1, a2⟩ := kk _ rfl M' r e
  refine ⟨Le.newA.tr a1, fun CX b1 b2 H locs ls g1 g2 g3 g4 => ?_⟩
  have l1 : mn M + 1 ≤ mn M' := a1.1
  have l2 : mz M + n.toNatClampNeg ≤ mz M' := a1.2.1
  have hsz := g1.1
  have h0 := g3.1
  rw [CX.2.2.2.2.2.2.1] at h0
  have hbt : n.toNatClampNeg * 4 ≤ 536870912 := by
    have := hn.2
    omega
  refine W.anew CX.1 CX.2.1 CX.2.2.1 (CX.2.2.2.1 _ hw) (va_AO.use CX.2.2.2.2.2.1.2.2.2.2.1.2.1) rfl hd rfl hn.1 hbt (by omega) (by omega) fun cA1 kA comp f1 f2 f3 f4 => ?_
  have hcls : cA1 = gy (xG X) 19 := by
    obtain ⟨kA9, comp9, -, -, -, h9⟩ := (CX.2.2.2.2.1.2 6 _ rfl).2
    exact Option.some.inj (f1.symm.trans h9)
  subst hcls
  generalize hH1 : H.push ({ cls := gy (xG X) 19, slots := Array.replicate n.toNatClampNeg .null, vm := .none } : Cell) = H1
  have z1 : H1.size = gh (xG X) + mn M + 1 := by rw [← hH1, Array.size_push, hsz]
  have e1 : H1[gh (xG X) + mn M]? = some (arrV (gy (xG X) 19) n.toNatClampNeg (fun _ => .null)) := by rw [← hH1, ← hsz, Array.getElem?_push_size, ← arrV_new]
  have o1 : ∀ q : Nat, q < gh (xG X) + mn M → H1[q]? = H[q]? := fun q hq => by rw [← hH1, Array.getElem?_push, if_neg (by omega)]
  have hHP : HP (xG X) (nA M 19 n.toNatClampNeg) H1 := by
    refine g1.push rfl z1 (fun b hb => cE_nA_ne hb) o1 ?_
    have hk1 : mK (nA M 19 n.toNatClampNeg) (mn M) = 19 := if_pos rfl
    have hL1 : mL (nA M 19 n.toNatClampNeg) (mn M) = n.toNatClampNeg := if_pos rfl
    have hR1 : mR (nA M 19 n.toNatClampNeg) (mn M) = fun _ => none := if_pos rfl
    unfold cE cA
    rw [hk1, if_neg (by decide), hL1]
    simp only [hR1]
    exact e1
  have hS1 : va_S (AA (xG X)) (xs X).heap H1 locs := ⟨Nat.le_trans g3.1 (by omega), fun x h1 h2 => (o1 x (by rw [← hsz]; exact Nat.lt_of_lt_of_le h1 g3.1)).trans (g3.2.1 x h1 h2), g3.2.2⟩
  have h3 := a2 CX b1 b2 H1 locs ls hHP (Nat.le_trans g2 (Nat.le_add_right _ _)) hS1 g4
  have q1 : mn (nA M 19 n.toNatClampNeg) - xn X = mn M - xn X + 1 := by show mn M + 1 - xn X = _; omega
  have q2 : mz (nA M 19 n.toNatClampNeg) - xz X = mz M - xz X + n.toNatClampNeg := by show mz M + n.toNatClampNeg - xz X = _; omega
  rw [q1, q2] at h3
  rw [hsz]
  exact h3
theorem s_anewV {n : Int32} {kt : Mem → Option α} (hn : nok n) (hd : decode (yc Y) pc = .ok (.anewarray idx, 3)) (hw : Cond.classLink (yo Y) idx RX10 ∈ lw_good) (kk : ∀ M1, M1 = nA M 20 n.toNatClampNeg → S0 X Y M1 (pc + 3) L (.ref (gh (xG X) + mn M) :: st) (Option.bind (kt M1) F)) : S0 X Y M pc L (.int n :: st) (Option.bind (bv (nA M 20 n.toNatClampNeg) kt) F) := by
  intro M' r e
  obtain ⟨a1, a2⟩ := kk _ rfl M' r e
  refine ⟨Le.newA.tr a1, fun CX b1 b2 H locs ls g1 g2 g3 g4 => ?_⟩
  have l1 : mn M + 1 ≤ mn M' := a1.1
  have l2 : mz M + n.toNatClampNeg ≤ mz M' := a1.2.1
  have hsz := g1.1
  have h0 := g3.1
  rw [CX.2.2.2.2.2.2.1] at h0
  have hbt : n.toNatClampNeg * 4 ≤ 536870912 := by
    have := hn.2
    omega
  refine W.anew CX.1 CX.2.1 CX.2.2.1 (CX.2.2.2.1 _ hw) (va_AO.use CX.2.2.2.2.2.1.2.2.2.2.1.2.2) rfl hd rfl hn.1 hbt (by omega) (by omega) fun cA1 kA comp f1 f2 f3 f4 => ?_
  have hcls : cA1 = gy (xG X) 20 := by
    obtain ⟨kA9, comp9, -, -, -, h9⟩ := (CX.2.2.2.2.1.2 7 _ rfl).2
    exact Option.some.inj (f1.symm.trans h9)
  subst hcls
  generalize hH1 : H.push ({ cls := gy (xG X) 20, slots := Array.replicate n.toNatClampNeg .null, vm := .none } : Cell) = H1
  have z1 : H1.size = gh (xG X) + mn M + 1 := by rw [← hH1, Array.size_push, hsz]
  have e1 : H1[gh (xG X) + mn M]? = some (arrV (gy (xG X) 20) n.toNatClampNeg (fun _ => .null)) := by rw [← hH1, ← hsz, Array.getElem?_push_size, ← arrV_new]
  have o1 : ∀ q : Nat, q < gh (xG X) + mn M → H1[q]? = H[q]? := fun q hq => by rw [← hH1, Array.getElem?_push, if_neg (by omega)]
  have hHP : HP (xG X) (nA M 20 n.toNatClampNeg) H1 := by
    refine g1.push rfl z1 (fun b hb => cE_nA_ne hb) o1 ?_
    have hk1 : mK (nA M 20 n.toNatClampNeg) (mn M) = 20 := if_pos rfl
    have hL1 : mL (nA M 20 n.toNatClampNeg) (mn M) = n.toNatClampNeg := if_pos rfl
    have hR1 : mR (nA M 20 n.toNatClampNeg) (mn M) = fun _ => none := if_pos rfl
    unfold cE cA
    rw [hk1, if_neg (by decide), hL1]
    simp only [hR1]
    exact e1
  have hS1 : va_S (AA (xG X)) (xs X).heap H1 locs := ⟨Nat.le_trans g3.1 (by omega), fun x h1 h2 => (o1 x (by rw [← hsz]; exact Nat.lt_of_lt_of_le h1 g3.1)).trans (g3.2.1 x h1 h2), g3.2.2⟩
  have h3 := a2 CX b1 b2 H1 locs ls hHP (Nat.le_trans g2 (Nat.le_add_right _ _)) hS1 g4
  have q1 : mn (nA M 20 n.toNatClampNeg) - xn X = mn M - xn X + 1 := by show mn M + 1 - xn X = _; omega
  have q2 : mz (nA M 20 n.toNatClampNeg) - xz X = mz M - xz X + n.toNatClampNeg := by show mz M + n.toNatClampNeg - xz X = _; omega
  rw [q1, q2] at h3
  rw [hsz]
  exact h3
end
