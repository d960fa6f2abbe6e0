/-! MEMORY: writes -/
theorem cE_rI_ne {G : Gh} {M : Mem} {a b : Nat} {f : Nat → Int32} (h : b ≠ a) : cE G (rI M a f) b = cE G M b := by
  have e1 : mI (rI M a f) b = mI M b := if_neg h
  have e2 : mK (rI M a f) = mK M := rfl
  have e3 : mL (rI M a f) = mL M := rfl
  have e4 : mJ (rI M a f) = mJ M := rfl
  have e5 : mR (rI M a f) = mR M := rfl
  unfold cE cO cA cF
  simp only [e1, e2, e3, e4, e5]
theorem cE_rJ_ne {G : Gh} {M : Mem} {a b : Nat} {f : Nat → Int64} (h : b ≠ a) : cE G (rJ M a f) b = cE G M b := by
  have e1 : mJ (rJ M a f) b = mJ M b := if_neg h
  have e2 : mK (rJ M a f) = mK M := rfl
  have e3 : mL (rJ M a f) = mL M := rfl
  have e4 : mI (rJ M a f) = mI M := rfl
  have e5 : mR (rJ M a f) = mR M := rfl
  unfold cE cO cA cF
  simp only [e1, e2, e3, e4, e5]
theorem cE_rR_ne {G : Gh} {M : Mem} {a b : Nat} {f : Nat → Option Nat} (h : b ≠ a) : cE G (rR M a f) b = cE G M b := by
  have e1 : mR (rR M a f) b = mR M b := if_neg h
  have e2 : mK (rR M a f) = mK M := rfl
  have e3 : mL (rR M a f) = mL M := rfl
  have e4 : mI (rR M a f) = mI M := rfl
  have e5 : mJ (rR M a f) = mJ M := rfl
  unfold cE cO cA cF
  simp only [e1, e2, e3, e4, e5]
theorem cE_arrI {G : Gh} {M : Mem} {a k : Nat} {f : Nat → Int32} (ho : okO M k a) (hk : ¬ k < 13 ∧ k < 18 ∧ k ≠ 15) : cE G (rI M a f) a = .inl (gy G k, mL M a, .inl f) := by
  have e1 : mI (rI M a f) a = f := if_pos rfl
  have e2 : mK (rI M a f) a = k := ho.2
  unfold cE cA
  rw [e2, if_neg hk.1, if_neg hk.2.2, if_pos hk.2.1, e1]
  rfl
theorem cE_arrJ {G : Gh} {M : Mem} {a : Nat} {f : Nat → Int64} (ho : okO M 15 a) : cE G (rJ M a f) a = .inl (gy G 15, mL M a, .inr (.inl f)) := by
  have e1 : mJ (rJ M a f) a = f := if_pos rfl
  have e2 : mK (rJ M a f) a = 15 := ho.2
  unfold cE cA
  rw [e2, if_neg (by decide), if_pos rfl, e1]
  rfl
theorem cE_arrR {G : Gh} {M : Mem} {a k : Nat} {f : Nat → Option Nat} (ho : okO M k a) (hk : ¬ k < 18) : cE G (rR M a f) a = .inl (gy G k, mL M a, .inr (.inr (.inr (.inr (fun i => (f i).map (gh G + ·)))))) := by
  have e1 : mR (rR M a f) a = f := if_pos rfl
  have e2 : mK (rR M a f) a = k := ho.2
  unfold cE cA
  rw [e2, if_neg (by omega), if_neg (by omega), if_neg hk, e1]
  rfl
theorem cO_setI {G : Gh} {M : Mem} {a k : Nat} {l : List Nat} {x : Int32} (h : l[k]? = some 0) : cO G (wI M a k x) a l = (cO G M a l).set k (.int x) := by
  have hI : mI (wI M a k x) a = upd (mI M a) k x := if_pos rfl
  have hR : mR (wI M a k x) = mR M := rfl
  apply List.ext_getElem?
  intro j
  rw [List.getElem?_set]
  unfold cO
  simp only [List.getElem?_mapIdx, List.length_mapIdx]
  by_cases hjk : k = j
  · subst hjk
    have hlt := (List.getElem?_eq_some_iff.mp h).1
    rw [if_pos rfl, if_pos hlt, h]
    simp [cF, hI, upd]
  · rw [if_neg hjk]
    congr 1
    funext tt
    have hne : ¬ j = k := fun e => hjk e.symm
    simp only [cF, hI, hR, upd, if_neg hne]
theorem cO_setR {G : Gh} {M : Mem} {a k : Nat} {l : List Nat} {x : Option Nat} (h : l[k]? = some 1) : cO G (wR M a k x) a l = (cO G M a l).set k (va_rf (x.map (gh G + ·))) := by
  have hR : mR (wR M a k x) a = va_up (mR M a) k x := if_pos rfl
  have hI : mI (wR M a k x) = mI M := rfl
  apply List.ext_getElem?
  intro j
  rw [List.getElem?_set]
  unfold cO
  simp only [List.getElem?_mapIdx, List.length_mapIdx]
  by_cases hjk : k = j
  · subst hjk
    have hlt := (List.getElem?_eq_some_iff.mp h).1
    rw [if_pos rfl, if_pos hlt, h]
    simp [cF, hR, va_up]
  · rw [if_neg hjk]
    congr 1
    funext tt
    have hne : ¬ j = k := fun e => hjk e.symm
    simp only [cF, hI, hR, va_up, if_neg hne]
theorem cE_obj {G : Gh} {M : Mem} {a c : Nat} (h : mK M a = c) (hc : c < 13) : cE G M a = .inr (c, cO G M a (fkd c)) := by
  unfold cE
  rw [h, if_pos hc]
theorem cAi {G : Gh} {M : Mem} {b k : Nat} (h : k ≠ 15 ∧ k < 18) : cA G M b k = (mL M b, .inl (mI M b)) := by
  unfold cA
  rw [if_neg h.1, if_pos h.2]
theorem cAj {G : Gh} {M : Mem} {b : Nat} : cA G M b 15 = (mL M b, .inr (.inl (mJ M b))) := by
  unfold cA
  rw [if_pos rfl]
theorem vcI {c : ClassId} {n : Nat} {f : Nat → Int32} : vp_cell c (n, .inl f) = arrV c n (fun j => .int (f j)) := rfl
theorem vcJ {c : ClassId} {n : Nat} {f : Nat → Int64} : vp_cell c (n, .inr (.inl f)) = arrV c n (fun j => .long (f j)) := rfl
section
variable {X : Ctx} {Y : Sta} {M M1 : Mem} {pc pc' : Nat} {L L' : List (Option Value)} {st st' : List Value} {t : Option (Mem × Option Value)}
variable {ci idx a : Nat} {C : String} {T : u_T} {N : Nat} {ty : Nat → FieldType}
variable {α : Type} {F : α → Option (Mem × Option Value)}
theorem s_iast {i : Int32} {x : Int32} {kt : Mem → Option α} (ho : okO M 14 a) (hi : vp_in i (mL M a)) (hd : decode (yc Y) pc = .ok (.iastore, 1)) (kk : ∀ M1, M1 = wI M a i.toNatClampNeg x → S0 X Y M1 (pc + 1) L st (Option.bind (kt M1) F)) : S0 X Y M pc L (.int x :: .int i :: .ref (gh (xG X) + a) :: st) (Option.bind (bv (wI M a i.toNatClampNeg x) kt) F) := by
  refine S0.liftW (M1 := wI M a i.toNatClampNeg x) rfl rfl rfl rfl (fun CX H locs cs ss Q ls hH hS hl w9 => ?_) (kk _ rfl)
  have hp : H[gh (xG X) + a]? = some (vp_cell (gy (xG X) 14) (cA (xG X) M a 14)) := hH.arr ho (by decide) 0 _ rfl
  rw [cAi (by decide)] at hp
  refine W.iast CX.1 CX.2.1 hp ((CX.2.2.2.2.1.2 1 _ rfl).1 (mL M a) (fun j => .int (mI M a j))) (fun q => by cases q) (by show ¬ (i < 0 ∨ (arrV _ _ _).slots.size ≤ _); rw [arrV_size]; exact hi) rfl rfl hd fun H1 e z oq => ?_
  refine w9 H1 _ (hH.set (a := a) rfl z (fun b hb => cE_rI_ne hb) oq ?_) (hS.put z oq (Nat.le_add_right _ _))
  show va_at (gD (xG X)) vwCl (gh (xG X) + a, cE (xG X) (rI M a _) a) H1
  rw [cE_arrI ho (by decide)]
  show H1[gh (xG X) + a]? = some (vp_cell _ _)
  rw [e]
  dsimp only
  rw [vcI, vcI, arrV_store]
  congr 2
  funext q
  by_cases hq : q = i.toNatClampNeg
  · subst hq
    simp [updV, upd]
    try rfl
  · simp [updV, upd, hq]
theorem s_bast {i : Int32} {x : Int32} {kt : Mem → Option α} (ho : okO M 13 a) (hi : vp_in i (mL M a)) (hd : decode (yc Y) pc = .ok (.bastore, 1)) (kk : ∀ M1, M1 = wI M a i.toNatClampNeg (vp_nar .byte x) → S0 X Y M1 (pc + 1) L st (Option.bind (kt M1) F)) : S0 X Y M pc L (.int x :: .int i :: .ref (gh (xG X) + a) :: st) (Option.bind (bv (wI M a i.toNatClampNeg (vp_nar .byte x)) kt) F) := by
  refine S0.liftW (M1 := wI M a i.toNatClampNeg (vp_nar .byte x)) rfl rfl rfl rfl (fun CX H locs cs ss Q ls hH hS hl w9 => ?_) (kk _ rfl)
  have hp : H[gh (xG X) + a]? = some (vp_cell (gy (xG X) 13) (cA (xG X) M a 13)) := hH.arr ho (by decide) 0 _ rfl
  rw [cAi (by decide)] at hp
  refine W.bast CX.1 CX.2.1 hp ((CX.2.2.2.2.1.2 0 _ rfl).1 (mL M a) (fun j => .int (mI M a j))) (fun q => by cases q) (by show ¬ (i < 0 ∨ (arrV _ _ _).slots.size ≤ _); rw [arrV_size]; exact hi) rfl rfl hd fun H1 e z oq => ?_
  refine w9 H1 _ (hH.set (a := a) rfl z (fun b hb => cE_rI_ne hb) oq ?_) (hS.put z oq (Nat.le_add_right _ _))
  show va_at (gD (xG X)) vwCl (gh (xG X) + a, cE (xG X) (rI M a _) a) H1
  rw [cE_arrI ho (by decide)]
  show H1[gh (xG X) + a]? = some (vp_cell _ _)
  rw [e]
  dsimp only
  rw [vcI, vcI, arrV_store]
  congr 2
  funext q
  by_cases hq : q = i.toNatClampNeg
  · subst hq
    simp [updV, upd, vp_nar]
    try rfl
  · simp [updV, upd, vp_nar, hq]
theorem s_zast {i : Int32} {x : Int32} {kt : Mem → Option α} (ho : okO M 17 a) (hi : vp_in i (mL M a)) (hd : decode (yc Y) pc = .ok (.bastore, 1)) (kk : ∀ M1, M1 = wI M a i.toNatClampNeg (vp_nar .boolean x) → S0 X Y M1 (pc + 1) L st (Option.bind (kt M1) F)) : S0 X Y M pc L (.int x :: .int i :: .ref (gh (xG X) + a) :: st) (Option.bind (bv (wI M a i.toNatClampNeg (vp_nar .boolean x)) kt) F) := by
  refine S0.liftW (M1 := wI M a i.toNatClampNeg (vp_nar .boolean x)) rfl rfl rfl rfl (fun CX H locs cs ss Q ls hH hS hl w9 => ?_) (kk _ rfl)
  have hp : H[gh (xG X) + a]? = some (vp_cell (gy (xG X) 17) (cA (xG X) M a 17)) := hH.arr ho (by decide) 0 _ rfl
  rw [cAi (by decide)] at hp
  refine W.zast CX.1 CX.2.1 hp ((CX.2.2.2.2.1.2 4 _ rfl).1 (mL M a) (fun j => .int (mI M a j))) (fun q => by cases q) (by show ¬ (i < 0 ∨ (arrV _ _ _).slots.size ≤ _); rw [arrV_size]; exact hi) rfl rfl hd fun H1 e z oq => ?_
  refine w9 H1 _ (hH.set (a := a) rfl z (fun b hb => cE_rI_ne hb) oq ?_) (hS.put z oq (Nat.le_add_right _ _))
  show va_at (gD (xG X)) vwCl (gh (xG X) + a, cE (xG X) (rI M a _) a) H1
  rw [cE_arrI ho (by decide)]
  show H1[gh (xG X) + a]? = some (vp_cell _ _)
  rw [e]
  dsimp only
  rw [vcI, vcI, arrV_store]
  congr 2
  funext q
  by_cases hq : q = i.toNatClampNeg
  · subst hq
    simp [updV, upd, vp_nar]
    try rfl
  · simp [updV, upd, vp_nar, hq]
theorem s_sast {i : Int32} {x : Int32} {kt : Mem → Option α} (ho : okO M 16 a) (hi : vp_in i (mL M a)) (hd : decode (yc Y) pc = .ok (.sastore, 1)) (kk : ∀ M1, M1 = wI M a i.toNatClampNeg (vp_nar .short x) → S0 X Y M1 (pc + 1) L st (Option.bind (kt M1) F)) : S0 X Y M pc L (.int x :: .int i :: .ref (gh (xG X) + a) :: st) (Option.bind (bv (wI M a i.toNatClampNeg (vp_nar .short x)) kt) F) := by
  refine S0.liftW (M1 := wI M a i.toNatClampNeg (vp_nar .short x)) rfl rfl rfl rfl (fun CX H locs cs ss Q ls hH hS hl w9 => ?_) (kk _ rfl)
  have hp : H[gh (xG X) + a]? = some (vp_cell (gy (xG X) 16) (cA (xG X) M a 16)) := hH.arr ho (by decide) 0 _ rfl
  rw [cAi (by decide)] at hp
  refine W.sast CX.1 CX.2.1 hp ((CX.2.2.2.2.1.2 3 _ rfl).1 (mL M a) (fun j => .int (mI M a j))) (fun q => by cases q) (by show ¬ (i < 0 ∨ (arrV _ _ _).slots.size ≤ _); rw [arrV_size]; exact hi) rfl rfl hd fun H1 e z oq => ?_
  refine w9 H1 _ (hH.set (a := a) rfl z (fun b hb => cE_rI_ne hb) oq ?_) (hS.put z oq (Nat.le_add_right _ _))
  show va_at (gD (xG X)) vwCl (gh (xG X) + a, cE (xG X) (rI M a _) a) H1
  rw [cE_arrI ho (by decide)]
  show H1[gh (xG X) + a]? = some (vp_cell _ _)
  rw [e]
  dsimp only
  rw [vcI, vcI, arrV_store]
  congr 2
  funext q
  by_cases hq : q = i.toNatClampNeg
  · subst hq
    simp [updV, upd, vp_nar]
    try rfl
  · simp [updV, upd, vp_nar, hq]
theorem s_last {i : Int32} {x : Int64} {kt : Mem → Option α} (ho : okO M 15 a) (hi : vp_in i (mL M a)) (hd : decode (yc Y) pc = .ok (.lastore, 1)) (kk : ∀ M1, M1 = wJ M a i.toNatClampNeg x → S0 X Y M1 (pc + 1) L st (Option.bind (kt M1) F)) : S0 X Y M pc L (.long x :: .int i :: .ref (gh (xG X) + a) :: st) (Option.bind (bv (wJ M a i.toNatClampNeg x) kt) F) := by
  refine S0.liftW (M1 := wJ M a i.toNatClampNeg x) rfl rfl rfl rfl (fun CX H locs cs ss Q ls hH hS hl w9 => ?_) (kk _ rfl)
  have hp : H[gh (xG X) + a]? = some (vp_cell (gy (xG X) 15) (cA (xG X) M a 15)) := hH.arr ho (by decide) 0 _ rfl
  rw [cAj] at hp
  refine W.last CX.1 CX.2.1 hp ((CX.2.2.2.2.1.2 2 _ rfl).1 (mL M a) (fun j => .long (mJ M a j))) (fun q => by cases q) (by show ¬ (i < 0 ∨ (arrV _ _ _).slots.size ≤ _); rw [arrV_size]; exact hi) rfl rfl hd fun H1 e z oq => ?_
  refine w9 H1 _ (hH.set (a := a) rfl z (fun b hb => cE_rJ_ne hb) oq ?_) (hS.put z oq (Nat.le_add_right _ _))
  show va_at (gD (xG X)) vwCl (gh (xG X) + a, cE (xG X) (rJ M a _) a) H1
  rw [cE_arrJ ho]
  show H1[gh (xG X) + a]? = some (vp_cell _ _)
  rw [e]
  dsimp only
  rw [vcJ, vcJ, arrV_store]
  congr 2
  funext q
  by_cases hq : q = i.toNatClampNeg
  · subst hq
    simp [updV, vp_updL]
    try rfl
  · simp [updV, vp_updL, hq]
/-- what a putfield finds, and what the cell is behind it -/
theorem put_core (Fc : FCls ci C T N ty) (CX : Cx X Y) {k : Nat} (hk : k < N) (ho : okO M ci a) {H : Heap} (hH : HP (xG X) M H) (v : Value) :
    ∃ (cell : Cell) (cf : ClassId) (kf : Class) (fi : Nat) (f : Field), H[gh (xG X) + a]? = some cell ∧ cell.vm = .none ∧ (xs X).fieldFound? (T k).1 (T k).2.1 (T k).2.2.1 = some (cf, kf, fi, f) ∧ f.isStatic = false ∧ f.slot < cell.slots.size ∧ cell.cls = (gD (xG X)).1 ci ∧ u_Kn (xs X) C T N ((gD (xG X)).1 ci) ((gD (xG X)).2 ci) ∧
      ∀ H1 : Heap, H1[gh (xG X) + a]? = some (cell.setSlot f.slot v) → va_at (gD (xG X)) vwCl (gh (xG X) + a, .inr (ci, (cO (xG X) M a (fkd ci)).set k v)) H1 := by
  have hK := CX.2.2.2.2.1
  have hap := va_apart (own := C) CX.2.2.2.1 Fc.2.2.1 ty Fc.2.2.2.1 Fc.2.2.2.2.1 hK Fc.2.1
  obtain ⟨r9, h1, cell, q1, q2, q3, q4⟩ := hH.obj ho Fc.1 0 _ rfl
  have hr : r9 = (C, T, N) := Option.some.inj (h1.symm.trans Fc.2.1)
  subst hr
  have hKn := hK.1 ci _ Fc.2.1
  obtain ⟨hS, hfc, kC, hkC, hkind⟩ := id hKn
  obtain ⟨cf, kf, fi, f, hi, hsl⟩ := hS k hk
  have hst := (u_facts hfc hkC (u_lays CX.2.2.2.1 Fc.2.2.1 hk) hi).1
  have hlen : k < (cO (xG X) M a (fkd ci)).length := by rw [cO_len, Fc.2.2.2.2.2.1]; exact hk
  refine ⟨cell, cf, kf, fi, f, q1, q3, hi, hst, by rw [hsl]; exact k2_hasslot (q4 k hk), q2, hKn, fun H1 e1 => ?_⟩
  rw [hsl] at e1
  exact ⟨_, Fc.2.1, t_OB.to (V := updV (vp_V (cO (xG X) M a (fkd ci))) k v) ⟨_, e1, q2, q3, t_set q4 hap hk v⟩ (fun j _ => vp_updV_set hlen v j)⟩
theorem s_puti (Fc : FCls ci C T N ty) (k : Nat) {x : Int32} {kt : Mem → Option α} (hk : (fkd ci)[k]? = some 0) (ho : okO M ci a) (hfin : (T k).2.2.2 = false) (hn : narrow (ty k) (.int x) = .int x) (hfit : fits (ty k) (.int x) = true) (hd : decode (yc Y) pc = .ok (.putfield idx, 3)) (hw : Cond.fieldLink (yo Y) idx C (T k).2.1 (T k).2.2.1 ∈ lw_good) (kk : ∀ M1, M1 = wI M a k x → S0 X Y M1 (pc + 3) L st (Option.bind (kt M1) F)) : S0 X Y M pc L (.int x :: .ref (gh (xG X) + a) :: st) (Option.bind (bv (wI M a k x) kt) F) := by
  refine S0.liftW (M1 := wI M a k x) rfl rfl rfl rfl (fun CX H locs cs ss Q ls hH hS hl w9 => ?_) (kk _ rfl)
  have hkN := fcls_lt Fc hk
  obtain ⟨cell, cf, kf, fi, f, q1, q3, hi, hst, hlt, q2, hKn, aft⟩ := put_core Fc CX hkN ho hH (.int x)
  obtain ⟨kC, hkC, hkind⟩ := hKn.2.2
  have hlay := CX.2.2.2.1 _ (Fc.2.2.1 _ (u_in_lay hkN))
  unfold u_lay at hlay
  rw [if_neg (by rw [hfin]; decide)] at hlay
  have h6 := u_store hKn.2.1 hkC hkind hlay hi (Fc.2.2.2.1 k hkN) hn hfit
  refine W.putK CX.1 CX.2.1 (f := f) ⟨CX.2.2.1, CX.2.2.2.1 _ hw, ⟨_, _, _, (by rw [← Fc.2.2.2.2.2.2.1 k hkN]; exact hi)⟩, hst⟩ (by rw [q2]; exact h6) q1 q3 hlt rfl rfl hd fun H1 e1 e2 e3 => ?_
  refine w9 H1 _ (hH.set (a := a) rfl e2 (fun b hb => cE_rI_ne hb) e3 ?_) (hS.put e2 e3 (Nat.le_add_right _ _))
  rw [cE_obj (show mK (wI M a k x) a = ci from ho.2) Fc.1, cO_setI hk]
  exact aft H1 e1
theorem s_putiN (Fc : FCls ci C T N ty) (k : Nat) {x : Int32} {kt : Mem → Option α} (hk : (fkd ci)[k]? = some 0) (ho : okO M ci a) (hfin : (T k).2.2.2 = false) (hn : narrow (ty k) (.int x) = .int x) (hfit : fits (ty k) (.int x) = true) (hd : decode (yc Y) pc = .ok (.putfield idx, 3)) (hw : (yo Y, idx, C, (T k).2.1, (T k).2.2.1) ∈ nwF) (kk : ∀ M1, M1 = wI M a k x → S0 X Y M1 (pc + 3) L st (Option.bind (kt M1) F)) : S0 X Y M pc L (.int x :: .ref (gh (xG X) + a) :: st) (Option.bind (bv (wI M a k x) kt) F) := by
  refine S0.liftW (M1 := wI M a k x) rfl rfl rfl rfl (fun CX H locs cs ss Q ls hH hS hl w9 => ?_) (kk _ rfl)
  have hkN := fcls_lt Fc hk
  obtain ⟨cell, cf, kf, fi, f, q1, q3, hi, hst, hlt, q2, hKn, aft⟩ := put_core Fc CX hkN ho hH (.int x)
  obtain ⟨kC, hkC, hkind⟩ := hKn.2.2
  have hlay := CX.2.2.2.1 _ (Fc.2.2.1 _ (u_in_lay hkN))
  unfold u_lay at hlay
  rw [if_neg (by rw [hfin]; decide)] at hlay
  have h6 := u_store hKn.2.1 hkC hkind hlay hi (Fc.2.2.2.1 k hkN) hn hfit
  refine va_WputK CX.1 CX.2.1 (f := f) CX.2.2.1 (va_Nw.use rfl (CX.2.2.2.2.2.1.2.2.1 _ hw)) (by rw [← Fc.2.2.2.2.2.2.1 k hkN]; exact hi) hst (by rw [q2]; exact h6) q1 q3 hlt rfl rfl hd fun H1 e1 e2 e3 => ?_
  refine w9 H1 _ (hH.set (a := a) rfl e2 (fun b hb => cE_rI_ne hb) e3 ?_) (hS.put e2 e3 (Nat.le_add_right _ _))
  rw [cE_obj (show mK (wI M a k x) a = ci from ho.2) Fc.1, cO_setI hk]
  exact aft H1 e1
theorem s_putiF (Fc : FCls ci C T N ty) (k : Nat) {x : Int32} {kt : Mem → Option α} (hk : (fkd ci)[k]? = some 0) (ho : okO M ci a) (hfin : (T k).2.2.2 = true) (hnm : ynm Y = "<init>") (hown : C = yo Y) (hn : narrow (ty k) (.int x) = .int x) (hfit : fits (ty k) (.int x) = true) (hd : decode (yc Y) pc = .ok (.putfield idx, 3)) (hw : Cond.fieldLink (yo Y) idx C (T k).2.1 (T k).2.2.1 ∈ lw_good) (kk : ∀ M1, M1 = wI M a k x → S0 X Y M1 (pc + 3) L st (Option.bind (kt M1) F)) : S0 X Y M pc L (.int x :: .ref (gh (xG X) + a) :: st) (Option.bind (bv (wI M a k x) kt) F) := by
  refine S0.liftW (M1 := wI M a k x) rfl rfl rfl rfl (fun CX H locs cs ss Q ls hH hS hl w9 => ?_) (kk _ rfl)
  have hkN := fcls_lt Fc hk
  obtain ⟨cell, cf, kf, fi, f, q1, q3, hi, hst, hlt, q2, hKn, aft⟩ := put_core Fc CX hkN ho hH (.int x)
  obtain ⟨kC, hkC, hkind⟩ := hKn.2.2
  have hlay := CX.2.2.2.1 _ (Fc.2.2.1 _ (u_in_lay hkN))
  unfold u_lay at hlay
  rw [if_pos hfin] at hlay
  have hcf : (xm X).cls = cf := by
    obtain ⟨_, _, c9, _, _, _, -, -, hf9, -, -, -, hown2, -⟩ := Cond.laysFinal_spec hlay
    have e9 : c9 = cf := by have e8 := hi.symm.trans hf9; simp at e8; exact e8.1.symm
    rw [Fc.2.2.2.2.2.2.1 k hkN, hown] at hown2
    rw [← e9]; exact Option.some.inj (CX.2.2.1.symm.trans hown2)
  have h6 := u_fits hKn.2.1 hkC hkind (Or.inr hlay) hi (Fc.2.2.2.1 k hkN) hn hfit
  refine W.putFinK CX.1 CX.2.1 CX.2.2.1 (CX.2.2.2.1 _ hw) (by rw [← Fc.2.2.2.2.2.2.1 k hkN]; exact hi) hst hcf (CX.2.2.2.2.2.2.2.2.2.1.trans hnm) (by rw [q2]; exact h6) q1 q3 hlt rfl rfl hd fun H1 e1 e2 e3 => ?_
  refine w9 H1 _ (hH.set (a := a) rfl e2 (fun b hb => cE_rI_ne hb) e3 ?_) (hS.put e2 e3 (Nat.le_add_right _ _))
  rw [cE_obj (show mK (wI M a k x) a = ci from ho.2) Fc.1, cO_setI hk]
  exact aft H1 e1
theorem s_putr (Fc : FCls ci C T N ty) (k : Nat) {x : Nat} {kt : Mem → Option α} (hk : (fkd ci)[k]? = some 1) (ho : okO M ci a) (hfin : (T k).2.2.2 = false) (hn : narrow (ty k) (.ref (gh (xG X) + x)) = .ref (gh (xG X) + x)) (hfit : fits (ty k) (.ref (gh (xG X) + x)) = true) (hd : decode (yc Y) pc = .ok (.putfield idx, 3)) (hw : Cond.fieldLink (yo Y) idx C (T k).2.1 (T k).2.2.1 ∈ lw_good) (kk : ∀ M1, M1 = wR M a k (some x) → S0 X Y M1 (pc + 3) L st (Option.bind (kt M1) F)) : S0 X Y M pc L (.ref (gh (xG X) + x) :: .ref (gh (xG X) + a) :: st) (Option.bind (bv (wR M a k (some x)) kt) F) := by
  refine S0.liftW (M1 := wR M a k (some x)) rfl rfl rfl rfl (fun CX H locs cs ss Q ls hH hS hl w9 => ?_) (kk _ rfl)
  have hkN := fcls_lt Fc hk
  obtain ⟨cell, cf, kf, fi, f, q1, q3, hi, hst, hlt, q2, hKn, aft⟩ := put_core Fc CX hkN ho hH (.ref (gh (xG X) + x))
  obtain ⟨kC, hkC, hkind⟩ := hKn.2.2
  have hlay := CX.2.2.2.1 _ (Fc.2.2.1 _ (u_in_lay hkN))
  unfold u_lay at hlay
  rw [if_neg (by rw [hfin]; decide)] at hlay
  have h6 := u_store hKn.2.1 hkC hkind hlay hi (Fc.2.2.2.1 k hkN) hn hfit
  refine W.putK CX.1 CX.2.1 (f := f) ⟨CX.2.2.1, CX.2.2.2.1 _ hw, ⟨_, _, _, (by rw [← Fc.2.2.2.2.2.2.1 k hkN]; exact hi)⟩, hst⟩ (by rw [q2]; exact h6) q1 q3 hlt rfl rfl hd fun H1 e1 e2 e3 => ?_
  refine w9 H1 _ (hH.set (a := a) rfl e2 (fun b hb => cE_rR_ne hb) e3 ?_) (hS.put e2 e3 (Nat.le_add_right _ _))
  rw [cE_obj (show mK (wR M a k (some x)) a = ci from ho.2) Fc.1, cO_setR hk]
  exact aft H1 e1
theorem s_putn (Fc : FCls ci C T N ty) (k : Nat)  {kt : Mem → Option α} (hk : (fkd ci)[k]? = some 1) (ho : okO M ci a) (hfin : (T k).2.2.2 = false) (hn : narrow (ty k) (.null) = .null) (hfit : fits (ty k) (.null) = true) (hd : decode (yc Y) pc = .ok (.putfield idx, 3)) (hw : Cond.fieldLink (yo Y) idx C (T k).2.1 (T k).2.2.1 ∈ lw_good) (kk : ∀ M1, M1 = wR M a k none → S0 X Y M1 (pc + 3) L st (Option.bind (kt M1) F)) : S0 X Y M pc L (.null :: .ref (gh (xG X) + a) :: st) (Option.bind (bv (wR M a k none) kt) F) := by
  refine S0.liftW (M1 := wR M a k none) rfl rfl rfl rfl (fun CX H locs cs ss Q ls hH hS hl w9 => ?_) (kk _ rfl)
  have hkN := fcls_lt Fc hk
  obtain ⟨cell, cf, kf, fi, f, q1, q3, hi, hst, hlt, q2, hKn, aft⟩ := put_core Fc CX hkN ho hH (.null)
  obtain ⟨kC, hkC, hkind⟩ := hKn.2.2
  have hlay := CX.2.2.2.1 _ (Fc.2.2.1 _ (u_in_lay hkN))
  unfold u_lay at hlay
  rw [if_neg (by rw [hfin]; decide)] at hlay
  have h6 := u_store hKn.2.1 hkC hkind hlay hi (Fc.2.2.2.1 k hkN) hn hfit
  refine W.putK CX.1 CX.2.1 (f := f) ⟨CX.2.2.1, CX.2.2.2.1 _ hw, ⟨_, _, _, (by rw [← Fc.2.2.2.2.2.2.1 k hkN]; exact hi)⟩, hst⟩ (by rw [q2]; exact h6) q1 q3 hlt rfl rfl hd fun H1 e1 e2 e3 => ?_
  refine w9 H1 _ (hH.set (a := a) rfl e2 (fun b hb => cE_rR_ne hb) e3 ?_) (hS.put e2 e3 (Nat.le_add_right _ _))
  rw [cE_obj (show mK (wR M a k none) a = ci from ho.2) Fc.1, cO_setR hk]
  exact aft H1 e1
theorem s_putrF (Fc : FCls ci C T N ty) (k : Nat) {x : Nat} {kt : Mem → Option α} (hk : (fkd ci)[k]? = some 1) (ho : okO M ci a) (hfin : (T k).2.2.2 = true) (hnm : ynm Y = "<init>") (hown : C = yo Y) (hn : narrow (ty k) (.ref (gh (xG X) + x)) = .ref (gh (xG X) + x)) (hfit : fits (ty k) (.ref (gh (xG X) + x)) = true) (hd : decode (yc Y) pc = .ok (.putfield idx, 3)) (hw : Cond.fieldLink (yo Y) idx C (T k).2.1 (T k).2.2.1 ∈ lw_good) (kk : ∀ M1, M1 = wR M a k (some x) → S0 X Y M1 (pc + 3) L st (Option.bind (kt M1) F)) : S0 X Y M pc L (.ref (gh (xG X) + x) :: .ref (gh (xG X) + a) :: st) (Option.bind (bv (wR M a k (some x)) kt) F) := by
  refine S0.liftW (M1 := wR M a k (some x)) rfl rfl rfl rfl (fun CX H locs cs ss Q ls hH hS hl w9 => ?_) (kk _ rfl)
  have hkN := fcls_lt Fc hk
  obtain ⟨cell, cf, kf, fi, f, q1, q3, hi, hst, hlt, q2, hKn, aft⟩ := put_core Fc CX hkN ho hH (.ref (gh (xG X) + x))
  obtain ⟨kC, hkC, hkind⟩ := hKn.2.2
  have hlay := CX.2.2.2.1 _ (Fc.2.2.1 _ (u_in_lay hkN))
  unfold u_lay at hlay
  rw [if_pos hfin] at hlay
  have hcf : (xm X).cls = cf := by
    obtain ⟨_, _, c9, _, _, _, -, -, hf9, -, -, -, hown2, -⟩ := Cond.laysFinal_spec hlay
    have e9 : c9 = cf := by have e8 := hi.symm.trans hf9; simp at e8; exact e8.1.symm
    rw [Fc.2.2.2.2.2.2.1 k hkN, hown] at hown2
    rw [← e9]; exact Option.some.inj (CX.2.2.1.symm.trans hown2)
  have h6 := u_fits hKn.2.1 hkC hkind (Or.inr hlay) hi (Fc.2.2.2.1 k hkN) hn hfit
  refine W.putFinK CX.1 CX.2.1 CX.2.2.1 (CX.2.2.2.1 _ hw) (by rw [← Fc.2.2.2.2.2.2.1 k hkN]; exact hi) hst hcf (CX.2.2.2.2.2.2.2.2.2.1.trans hnm) (by rw [q2]; exact h6) q1 q3 hlt rfl rfl hd fun H1 e1 e2 e3 => ?_
  refine w9 H1 _ (hH.set (a := a) rfl e2 (fun b hb => cE_rR_ne hb) e3 ?_) (hS.put e2 e3 (Nat.le_add_right _ _))
  rw [cE_obj (show mK (wR M a k (some x)) a = ci from ho.2) Fc.1, cO_setR hk]
  exact aft H1 e1
end
