/-! CALLS -/
/-- what the tables say of a method that is called -/
def Cal (y : MethodName) (cc : ByteArray) (nL : Nat) (ret : Option FieldType) (n : Nat) : Prop :=
  Cond.code y cc nL ret ∈ lw_good ∧ Cond.initialized y.cls ∈ lw_good ∧ y.cls ≠ "java/lang/invoke/MethodHandle" ∧ y.cls ≠ "java/lang/invoke/VarHandle" ∧ (parseMethodDescriptor y.desc).map (fun d => d.parameters.length) = some n
section
variable {X : Ctx} {Y : Sta} {M M1 : Mem} {pc pc' : Nat} {L L' : List (Option Value)} {st st' : List Value} {t : Option (Mem × Option Value)}
variable {ci idx a : Nat} {α : Type} {F : α → Option (Mem × Option Value)}
theorem s_bind {β : Type} {f : Option β} {kt : β → Option α} (h : ∀ x, f = some x → S0 X Y M pc L st (Option.bind (kt x) F)) : S0 X Y M pc L st (Option.bind (Option.bind f kt) F) := by
  cases f with
  | none => exact s_noneB
  | some x => exact h x rfl
theorem s_back {r : Option Value} {st0 : List Value} {aa : Array Value} (hle : Le M M1)
    (hr : Cx X Y → ∀ (H : Heap) (locs : List Loc) (ls : Array Slot), HP (xG X) M H → va_S (AA (xG X)) (xs X).heap H locs → lhas ls (yL Y) L → mn M - xn X + (mn M1 - mn M) ≤ (xR X).cells → mz M - xz X + (mz M1 - mz M) ≤ (xR X).slots →
      va_Run (xp X) (xl X) (xe X) (xR X) (xs X) (xm X) (xa X) (xb X) (xt X) (xc X) H locs (mn M - xn X) (mz M - xz X) (mn M1 - mn M) (mz M1 - mz M) (F0 (xm X) pc ls st0) st (QM (xG X) M1 r aa) (AA (xG X)))
    (k : S0 X Y M1 (pc + 3) L (r.toList ++ st) t) : S0 X Y M pc L st0 t := by
  intro M' r' e
  obtain ⟨a1, a2⟩ := k M' r' e
  refine ⟨hle.tr a1, fun CX b1 b2 H locs ls g1 g2 g3 g4 => ?_⟩
  have hsz := g1.1
  have h0 := g3.1
  rw [CX.2.2.2.2.2.2.1] at h0
  have l1 := hle.1
  have l2 := hle.2.1
  have l3 := a1.1
  have l4 := a1.2.1
  have run := hr CX H locs ls g1 g3 g4 (by omega) (by omega)
  intro T hT XS
  obtain ⟨v, st₀, tt, T', LL, h1, X', hL, e1, e2, ⟨ho, hHP, hz, hk⟩, stp⟩ := run T hT XS
  have hv : v = r := by cases ho; rfl
  subst hv
  rw [h1] at hz hk
  have hS1 : va_S (AA (xG X)) (xs X).heap T'.heap (locs ++ LL) := ⟨Nat.le_trans g3.1 (by rw [e1]; exact hz), fun q q1 q2 => by rw [e1, hk q (Nat.lt_of_lt_of_le q1 g3.1) q2]; exact g3.2.1 q q1 q2, fun q hq => by
      rcases List.mem_append.mp hq with h | h
      · exact g3.2.2 q h
      · exact hL q h⟩
  have h3 := a2 CX b1 b2 T'.heap (locs ++ LL) ls (by rw [e1]; exact hHP) (Nat.le_trans g2 l2) hS1 g4
  have q1 : mn M1 - xn X = mn M - xn X + (mn M1 - mn M) := by omega
  have q2 : mz M1 - xz X = mz M - xz X + (mz M1 - mz M) := by omega
  rw [q1, q2] at h3
  obtain ⟨t2, c1, c2⟩ := h3 T' rfl X'
  exact ⟨t2, stp t2 c1, c2⟩
theorem s_PW {Y : Sta} {H : Heap} {U : State} (CX : Cx X Y) {locs : List Loc} (g1 : HP (xG X) M H) (g3 : va_S (AA (xG X)) (xs X).heap H locs) (hU : U.heap = H) (hW : (xs X).WarmedH U.vm) : PW (xG X) M U := by
  refine ⟨by rw [hU]; exact g1, va_K.moved hW.alike CX.2.2.2.2.1, ?_⟩
  rw [hU]
  exact SF.warm hW (SF.kept CX.2.2.2.2.2.1 g3.2.1)
theorem s_fix {Y : Sta} (CX : Cx X Y) : CallFix (xp X) (xm X) (xc X) (yc Y) (yL Y) (xs X) (xa X) lw_good (yo Y) := ⟨CX.1, CX.2.1, CX.2.2.2.2.2.2.2.2.2.2.2.2, CX.2.2.1, CX.2.2.2.1⟩
theorem s_room {Y Y' : Sta} (CX : Cx X Y) (hlev : yv Y' + 1 ≤ yv Y) (hmx : yL Y' ≤ 45) {c z : Nat} : (rmOf (yv Y') c z).frames + 1 ≤ (xR X).frames ∧ 8 + (yL Y' + 11) + (rmOf (yv Y') c z).locals ≤ (xR X).locals := by
  refine ⟨?_, ?_⟩
  · show yv Y' + 1 ≤ _
    exact Nat.le_trans hlev CX.2.2.2.2.2.2.2.2.2.2.1
  · show 8 + (yL Y' + 11) + 64 * yv Y' ≤ _
    have h9 := CX.2.2.2.2.2.2.2.2.2.2.2.1
    omega
theorem s_callS {y : MethodName} {Y' : Sta} {As st0 : List Value} {r : Option Value} {n : Nat} (hc : Cal y (yc Y') (yL Y') (yr Y') n) (hs : Cond.static y ∈ lw_good) (hl : Cond.methodLink (yo Y) idx y ∈ lw_good) (hn : As.length = n) (hst0 : st0 = As.reverse ++ st) (hlev : yv Y' + 1 ≤ yv Y) (hmx : yL Y' ≤ 45) (hst : (st.map fun v => v.category).sum ≤ 8) (hd : decode (yc Y) pc = .ok (.invokestatic idx, 3)) (hC : Ctr (xl X) (xG X) y Y' M As M1 r) (k : S0 X Y M1 (pc + 3) L (r.toList ++ st) t) : S0 X Y M pc L st0 t := by
  subst hst0
  refine s_back (aa := As.toArray) (hC.1 X) (fun CX H locs ls g1 g3 g4 h1 h2 => ?_) k
  exact va_runS (s_fix CX) hC.2 ⟨callB_of n CX.2.2.2.1 (good_in hc.1) rfl rfl rfl (CX.2.2.2.1 _ hc.2.1) (CX.2.2.2.1 _ hl) hc.2.2 (s_room CX hlev hmx), CX.2.2.2.1 _ hs⟩ ⟨PW.blind, fun U hU hW => ⟨rfl, s_PW CX g1 g3 hU hW⟩⟩ rfl hn g4.1 rfl (by show 2 * 0 + _ ≤ 8; omega) hd ⟨h1, h2⟩
theorem s_callSN {y : MethodName} {Y' : Sta} {As st0 : List Value} {r : Option Value} {n : Nat} (hc : Cal y (yc Y') (yL Y') (yr Y') n) (hs : Cond.static y ∈ lw_good) (hl : (yo Y, idx, y) ∈ nwM) (hn : As.length = n) (hst0 : st0 = As.reverse ++ st) (hlev : yv Y' + 1 ≤ yv Y) (hmx : yL Y' ≤ 45) (hst : (st.map fun v => v.category).sum ≤ 8) (hd : decode (yc Y) pc = .ok (.invokestatic idx, 3)) (hC : Ctr (xl X) (xG X) y Y' M As M1 r) (k : S0 X Y M1 (pc + 3) L (r.toList ++ st) t) : S0 X Y M pc L st0 t := by
  subst hst0
  refine s_back (aa := As.toArray) (hC.1 X) (fun CX H locs ls g1 g3 g4 h1 h2 => ?_) k
  exact va_runSN (s_fix CX) hC.2 ⟨va_cnB n CX.2.2.2.1 (good_in hc.1) rfl rfl rfl (CX.2.2.2.2.2.1.2.2.2.1 _ hl) (CX.2.2.2.1 _ hc.2.1) hc.2.2 (s_room CX hlev hmx), CX.2.2.2.1 _ hs, trivial⟩ ⟨PW.blind, fun U hU hW => ⟨rfl, s_PW CX g1 g3 hU hW⟩⟩ rfl hn g4.1 rfl (by show 2 * 0 + _ ≤ 8; omega) hd ⟨h1, h2⟩
theorem s_callV {y : MethodName} {Y' : Sta} {As st0 : List Value} {r : Option Value} {n : Nat} {q : vw_C} (hci : ci < 13) (hq : vwCl[ci]? = some q) (hqc : q.1 = y.cls) (ho : okO M ci a) (hc : Cal y (yc Y') (yL Y') (yr Y') n) (hin : Cond.instanceMethod y ∈ lw_good) (hse : Cond.selects y.cls y y ∈ lw_good) (hl : Cond.methodLink (yo Y) idx y ∈ lw_good) (hn : As.length = n) (hst0 : st0 = As.reverse ++ .ref (gh (xG X) + a) :: st) (hlev : yv Y' + 1 ≤ yv Y) (hmx : yL Y' ≤ 45) (hst : (st.map fun v => v.category).sum ≤ 8) (hd : decode (yc Y) pc = .ok (.invokevirtual idx, 3)) (hC : Ctr (xl X) (xG X) y Y' M (.ref (gh (xG X) + a) :: As) M1 r) (k : S0 X Y M1 (pc + 3) L (r.toList ++ st) t) : S0 X Y M pc L st0 t := by
  subst hst0
  refine s_back (aa := (.ref (gh (xG X) + a) :: As).toArray) (hC.1 X) (fun CX H locs ls g1 g3 g4 h1 h2 => ?_) k
  have hrc := va_recv CX.2.2.2.2.1 (g1.obj ho hci) hq (q0 := 0) rfl
  rw [hqc] at hrc
  exact va_runV (s_fix CX) hC.2 ⟨callB_of n CX.2.2.2.1 (good_in hc.1) rfl rfl rfl (CX.2.2.2.1 _ hc.2.1) (CX.2.2.2.1 _ hl) hc.2.2 (s_room CX hlev hmx), CX.2.2.2.1 _ hin, CX.2.2.2.1 _ hse⟩ ⟨PW.blind, hrc, fun U hU hW => ⟨rfl, s_PW CX g1 g3 hU hW⟩⟩ rfl hn g4.1 rfl (by show 2 * 0 + _ ≤ 8; omega) hd ⟨h1, h2⟩
theorem s_callI {y : MethodName} {Y' : Sta} {As st0 : List Value} {r : Option Value} {n : Nat} (hyr : yr Y' = none) (hyn : y.name = "<init>") (hc : Cal y (yc Y') (yL Y') (yr Y') n) (hin : Cond.instanceMethod y ∈ lw_good) (hl : Cond.methodLink (yo Y) idx y ∈ lw_good) (hn : As.length = n) (hst0 : st0 = As.reverse ++ .ref (gh (xG X) + a) :: st) (hlev : yv Y' + 1 ≤ yv Y) (hmx : yL Y' ≤ 45) (hst : (st.map fun v => v.category).sum ≤ 8) (hd : decode (yc Y) pc = .ok (.invokespecial idx, 3)) (hC : Ctr (xl X) (xG X) y Y' M (.ref (gh (xG X) + a) :: As) M1 r) (k : S0 X Y M1 (pc + 3) L (r.toList ++ st) t) : S0 X Y M pc L st0 t := by
  subst hst0
  refine s_back (aa := (.ref (gh (xG X) + a) :: As).toArray) (hC.1 X) (fun CX H locs ls g1 g3 g4 h1 h2 => ?_) k
  have hC2 := hC.2
  rw [hyr] at hC2 hc
  exact va_runI (s_fix CX) hC2 ⟨callB_of n CX.2.2.2.1 (good_in hc.1) rfl rfl rfl (CX.2.2.2.1 _ hc.2.1) (CX.2.2.2.1 _ hl) hc.2.2 (s_room CX hlev hmx), hyn, CX.2.2.2.1 _ hin⟩ ⟨PW.blind, fun U hU hW => ⟨rfl, s_PW CX g1 g3 hU hW⟩⟩ rfl hn g4.1 rfl (by show 2 * 0 + _ ≤ 8; omega) hd ⟨h1, h2⟩
theorem s_callIN {y : MethodName} {Y' : Sta} {As st0 : List Value} {r : Option Value} {n : Nat} (hyr : yr Y' = none) (hyn : y.name = "<init>") (hc : Cal y (yc Y') (yL Y') (yr Y') n) (hin : Cond.instanceMethod y ∈ lw_good) (hl : (yo Y, idx, y) ∈ nwM) (hn : As.length = n) (hst0 : st0 = As.reverse ++ .ref (gh (xG X) + a) :: st) (hlev : yv Y' + 1 ≤ yv Y) (hmx : yL Y' ≤ 45) (hst : (st.map fun v => v.category).sum ≤ 8) (hd : decode (yc Y) pc = .ok (.invokespecial idx, 3)) (hC : Ctr (xl X) (xG X) y Y' M (.ref (gh (xG X) + a) :: As) M1 r) (k : S0 X Y M1 (pc + 3) L (r.toList ++ st) t) : S0 X Y M pc L st0 t := by
  subst hst0
  refine s_back (aa := (.ref (gh (xG X) + a) :: As).toArray) (hC.1 X) (fun CX H locs ls g1 g3 g4 h1 h2 => ?_) k
  have hC2 := hC.2
  rw [hyr] at hC2 hc
  exact va_runIN (s_fix CX) hC2 ⟨va_cnB n CX.2.2.2.1 (good_in hc.1) rfl rfl rfl (CX.2.2.2.2.2.1.2.2.2.1 _ hl) (CX.2.2.2.1 _ hc.2.1) hc.2.2 (s_room CX hlev hmx), hyn, CX.2.2.2.1 _ hin⟩ ⟨PW.blind, fun U hU hW => ⟨rfl, s_PW CX g1 g3 hU hW⟩⟩ rfl hn g4.1 rfl (by show 2 * 0 + _ ≤ 8; omega) hd ⟨h1, h2⟩
/-- Object's own constructor -/
theorem s_obj {b : Nat} (hl : Cond.methodLink (yo Y) idx Lib.objectInit ∈ lw_good) (hin : Cond.instanceMethod Lib.objectInit ∈ lw_good) (hc : Cond.code Lib.objectInit ⟨#[0xb1]⟩ 1 none ∈ lw_good) (hv : 1 ≤ yv Y) (hst : (st.map fun v => v.category).sum ≤ 8) (hd : decode (yc Y) pc = .ok (.invokespecial idx, 3)) (k : S0 X Y M (pc + 3) L st t) : S0 X Y M pc L (.ref b :: st) t :=
  k.lift (fun CX H locs cs ss Q ls hl2 w => W.objInit CX.1 CX.2.1 CX.2.2.1 (CX.2.2.2.1 _ hl) (CX.2.2.2.1 _ hin) (CX.2.2.2.1 _ hc) rfl (hl2.1.trans CX.2.2.2.2.2.2.2.2.2.2.2.2.symm) rfl hd (Nat.le_trans hv CX.2.2.2.2.2.2.2.2.2.2.1) (by have h9 := CX.2.2.2.2.2.2.2.2.2.2.2.1; show 2 * 0 + _ + 12 ≤ _; omega) w)
/-! whole stretches of arrays -/
theorem cA14 {G : Gh} {M : Mem} {b : Nat} : cA G M b 14 = (mL M b, .inl (mI M b)) := by
  unfold cA
  rw [if_neg (by decide), if_pos (by decide)]
theorem cA19 {G : Gh} {M : Mem} {b : Nat} : cA G M b 19 = (mL M b, .inr (.inr (.inr (.inr (fun i => (mR M b i).map (gh G + ·)))))) := by
  unfold cA
  rw [if_neg (by decide), if_neg (by decide)]
theorem i_nn {z : Int32} (hz : ¬ z < 0) : z.toInt = (z.toNatClampNeg : Int) := by
  have hz0 : (0 : Int) ≤ z.toInt := by
    have := Int32.not_lt.mp hz
    simpa using Int32.le_iff_toInt_le.mp this
  show z.toInt = ((z.toInt.toNat : Nat) : Int)
  omega
def cpok (p n : Int32) (len : Nat) : Prop := ¬ p < 0 ∧ ¬ n < 0 ∧ p.toNatClampNeg + n.toNatClampNeg ≤ len
def cpI (M : Mem) (a0 : Nat) (sp : Int32) (b : Nat) (dp n : Int32) : Mem := rI M b (va_cpy (mI M a0) (mI M b) sp.toNatClampNeg dp.toNatClampNeg n.toNatClampNeg)
def cpR (M : Mem) (a0 : Nat) (sp : Int32) (b : Nat) (dp n : Int32) : Mem := rR M b (va_cpy (mR M a0) (mR M b) sp.toNatClampNeg dp.toNatClampNeg n.toNatClampNeg)
/-- what the tables say of arraycopy -/
def CpyW : Prop := Cond.native arraycopyName ∈ lw_good ∧ Cond.static arraycopyName ∈ lw_good ∧ Cond.initialized "java/lang/System" ∈ lw_good
theorem s_copyi {a0 b : Nat} {sp dp n : Int32} {kt : Mem → Option α} (h0 : okO M 14 a0) (h1 : okO M 14 b) (hs : cpok sp n (mL M a0)) (hdp : cpok dp n (mL M b)) (hw : CpyW) (hl : Cond.methodLink (yo Y) idx arraycopyName ∈ lw_good) (hv : 1 ≤ yv Y) (hst : (st.map fun v => v.category).sum ≤ 8) (hd : decode (yc Y) pc = .ok (.invokestatic idx, 3)) (kk : ∀ M1, M1 = cpI M a0 sp b dp n → S0 X Y M1 (pc + 3) L st (Option.bind (kt M1) F)) : S0 X Y M pc L (.int n :: .int dp :: .ref (gh (xG X) + b) :: .int sp :: .ref (gh (xG X) + a0) :: st) (Option.bind (bv (cpI M a0 sp b dp n) kt) F) := by
  refine S0.liftW (M1 := cpI M a0 sp b dp n) rfl rfl rfl rfl (fun CX H locs cs ss Q ls hH hS hl2 w9 => ?_) (kk _ rfl)
  have hK := CX.2.2.2.2.1
  have hc0 : H[gh (xG X) + a0]? = some (vp_cell (gy (xG X) 14) (mL M a0, .inl (mI M a0))) := by
    have hh := hH.arr h0 (by decide) 0 _ rfl
    rw [cA14] at hh
    exact hh
  have hc1 : H[gh (xG X) + b]? = some (vp_cell (gy (xG X) 14) (mL M b, .inl (mI M b))) := by
    have hh := hH.arr h1 (by decide) 0 _ rfl
    rw [cA14] at hh
    exact hh
  have h4 := hs.2.2
  have h5 := hdp.2.2
  intro T hT XS
  obtain ⟨-, k0, hk0, cm0, hkk0⟩ := (hK.2 1 _ rfl).1 (mL M a0) (fun j => .int (mI M a0 j))
  obtain ⟨-, k1, hk1, cm1, hkk1⟩ := (hK.2 1 _ rfl).1 (mL M b) (fun j => .int (mI M b j))
  obtain ⟨vm', X', step⟩ := XS.arraycopy CX.1 CX.2.2.1 (CX.2.2.2.1 _ hl) (CX.2.2.2.1 _ hw.1) (CX.2.2.2.1 _ hw.2.1) (CX.2.2.2.1 _ hw.2.2) (src := gh (xG X) + a0) (dst := gh (xG X) + b) (cs := vp_cell (gy (xG X) 14) (mL M a0, .inl (mI M a0))) (cd := vp_cell (gy (xG X) 14) (mL M b, .inl (mI M b))) (srcPos := sp) (destPos := dp) (n := n) (by rw [hT]; exact hc0) (by rw [hT]; exact hc1)
    (fun _ h => by cases h) (fun _ h => by cases h) (fun h => by cases h) (fun h => by cases h) hk0 hk1 hkk0 hkk1 (by simp [refKind]) hs.1 hdp.1 hs.2.1
    (by rw [i_nn hs.1, i_nn hs.2.1]; show ¬ _ > ((arrV (gy (xG X) 14) (mL M a0) (fun j => .int (mI M a0 j))).slots.size : Int); rw [arrV_size]; omega)
    (by rw [i_nn hdp.1, i_nn hs.2.1]; show ¬ _ > ((arrV (gy (xG X) 14) (mL M b) (fun j => .int (mI M b j))).slots.size : Int); rw [arrV_size]; omega)
    (fun vm₁ _ i hi => by
      have e : (vp_cell (gy (xG X) 14) (mL M a0, .inl (mI M a0))).slots.getD (sp.toNatClampNeg + i) .null = .int (mI M a0 (sp.toNatClampNeg + i)) := by
        show (arrV (gy (xG X) 14) (mL M a0) (fun j => .int (mI M a0 j))).slots.getD _ _ = _
        rw [Array.getD_eq_getD_getElem?, arrV_read _ _ (by omega)]
        rfl
      refine ⟨?_, ?_⟩
      · rw [e]
        rfl
      · rw [e]
        exact trivial)
    (g := F0 (xm X) pc ls (.int n :: .int dp :: .ref (gh (xG X) + b) :: .int sp :: .ref (gh (xG X) + a0) :: st)) rfl (by rw [CX.2.2.2.2.2.2.2.2.2.2.2.2]; exact hl2.1) (rest := st) rfl (by rw [CX.2.1]; exact hd) (Nat.le_trans hv CX.2.2.2.2.2.2.2.2.2.2.1)
    (by
      have hnw : nativeFrameWords "java/lang/System" "arraycopy" 5 ≤ 30 := by decide +kernel
      have h9 := CX.2.2.2.2.2.2.2.2.2.2.2.1
      show 2 * 0 + _ + _ ≤ _
      omega)
  have e1 : copied (vp_cell (gy (xG X) 14) (mL M a0, .inl (mI M a0))) (vp_cell (gy (xG X) 14) (mL M b, .inl (mI M b))) sp dp n = vp_cell (gy (xG X) 14) (mL M b, .inl (va_cpy (mI M a0) (mI M b) sp.toNatClampNeg dp.toNatClampNeg n.toNatClampNeg)) := va_copied (fun z => .int z) (gy (xG X) 14) (gy (xG X) 14) (mI M a0) (mI M b) h4
  rw [e1] at X' step
  have hlt : gh (xG X) + b < H.size := (Array.getElem?_eq_some_iff.mp hc1).1
  have hheap : ((T.setVm vm').setCell (gh (xG X) + b) (vp_cell (gy (xG X) 14) (mL M b, .inl (va_cpy (mI M a0) (mI M b) sp.toNatClampNeg dp.toNatClampNeg n.toNatClampNeg)))).heap = H.setIfInBounds (gh (xG X) + b) (vp_cell (gy (xG X) 14) (mL M b, .inl (va_cpy (mI M a0) (mI M b) sp.toNatClampNeg dp.toNatClampNeg n.toNatClampNeg))) := by rw [← hT]; rfl
  have oq : ∀ q : Nat, q ≠ gh (xG X) + b → (H.setIfInBounds (gh (xG X) + b) (vp_cell (gy (xG X) 14) (mL M b, .inl (va_cpy (mI M a0) (mI M b) sp.toNatClampNeg dp.toNatClampNeg n.toNatClampNeg))))[q]? = H[q]? := fun q hq => by simp [Array.getElem?_setIfInBounds, Ne.symm hq]
  have z : (H.setIfInBounds (gh (xG X) + b) (vp_cell (gy (xG X) 14) (mL M b, .inl (va_cpy (mI M a0) (mI M b) sp.toNatClampNeg dp.toNatClampNeg n.toNatClampNeg)))).size = H.size := by simp
  have hHP : HP (xG X) (cpI M a0 sp b dp n) (H.setIfInBounds (gh (xG X) + b) (vp_cell (gy (xG X) 14) (mL M b, .inl (va_cpy (mI M a0) (mI M b) sp.toNatClampNeg dp.toNatClampNeg n.toNatClampNeg)))) := by
    refine hH.set (a := b) rfl z (fun c hc => cE_rI_ne hc) oq ?_
    rw [show cE (xG X) (cpI M a0 sp b dp n) b = .inl (gy (xG X) 14, mL M b, .inl (va_cpy (mI M a0) (mI M b) sp.toNatClampNeg dp.toNatClampNeg n.toNatClampNeg)) from cE_arrI h1 (by decide)]
    show (H.setIfInBounds (gh (xG X) + b) _)[gh (xG X) + b]? = some (vp_cell _ _)
    simp [Array.getElem?_setIfInBounds, hlt]
  obtain ⟨t', c1, c2⟩ := w9 _ _ hHP ⟨by rw [z]; exact hS.1, fun q g1 g2 => by
      rw [oq q (fun e => g2 (by rw [e]; exact Nat.le_add_right _ _))]
      exact hS.2.1 q g1 g2, fun q hq => by
      rcases List.mem_append.mp hq with h | h
      · exact hS.2.2 q h
      · obtain ⟨z9, -, hz⟩ := List.mem_map.mp h
        rw [← hz]
        exact Nat.le_add_right _ _⟩ _ hheap X'
  exact ⟨t', step t' c1, c2⟩
theorem s_copyr {a0 b : Nat} {sp dp n : Int32} {kt : Mem → Option α} (h0 : okO M 19 a0) (h1 : okO M 19 b) (hs : cpok sp n (mL M a0)) (hdp : cpok dp n (mL M b)) (hel : ∀ i : Nat, i < n.toNatClampNeg → ∀ y : Nat, mR M a0 (sp.toNatClampNeg + i) = some y → okO M 9 y) (hw : CpyW) (hl : Cond.methodLink (yo Y) idx arraycopyName ∈ lw_good) (hv : 1 ≤ yv Y) (hst : (st.map fun v => v.category).sum ≤ 8) (hd : decode (yc Y) pc = .ok (.invokestatic idx, 3)) (kk : ∀ M1, M1 = cpR M a0 sp b dp n → S0 X Y M1 (pc + 3) L st (Option.bind (kt M1) F)) : S0 X Y M pc L (.int n :: .int dp :: .ref (gh (xG X) + b) :: .int sp :: .ref (gh (xG X) + a0) :: st) (Option.bind (bv (cpR M a0 sp b dp n) kt) F) := by
  refine S0.liftW (M1 := cpR M a0 sp b dp n) rfl rfl rfl rfl (fun CX H locs cs ss Q ls hH hS hl2 w9 => ?_) (kk _ rfl)
  have hK := CX.2.2.2.2.1
  have hc0 : H[gh (xG X) + a0]? = some (vp_cell (gy (xG X) 19) (mL M a0, .inr (.inr (.inr (.inr (fun i => (mR M a0 i).map (gh (xG X) + ·))))))) := by
    have hh := hH.arr h0 (by decide) 0 _ rfl
    rw [cA19] at hh
    exact hh
  have hc1 : H[gh (xG X) + b]? = some (vp_cell (gy (xG X) 19) (mL M b, .inr (.inr (.inr (.inr (fun i => (mR M b i).map (gh (xG X) + ·))))))) := by
    have hh := hH.arr h1 (by decide) 0 _ rfl
    rw [cA19] at hh
    exact hh
  have h4 := hs.2.2
  have h5 := hdp.2.2
  intro T hT XS
  obtain ⟨-, k0, hk0, cm0, hkk0⟩ := (hK.2 6 _ rfl).1 (mL M a0) (fun j => va_rf ((mR M a0 j).map (gh (xG X) + ·)))
  obtain ⟨-, k1, hk1, cm1, hkk1⟩ := (hK.2 6 _ rfl).1 (mL M b) (fun j => va_rf ((mR M b j).map (gh (xG X) + ·)))
  obtain ⟨vm', X', step⟩ := XS.arraycopy CX.1 CX.2.2.1 (CX.2.2.2.1 _ hl) (CX.2.2.2.1 _ hw.1) (CX.2.2.2.1 _ hw.2.1) (CX.2.2.2.1 _ hw.2.2) (src := gh (xG X) + a0) (dst := gh (xG X) + b) (cs := vp_cell (gy (xG X) 19) (mL M a0, .inr (.inr (.inr (.inr (fun i => (mR M a0 i).map (gh (xG X) + ·))))))) (cd := vp_cell (gy (xG X) 19) (mL M b, .inr (.inr (.inr (.inr (fun i => (mR M b i).map (gh (xG X) + ·))))))) (srcPos := sp) (destPos := dp) (n := n) (by rw [hT]; exact hc0) (by rw [hT]; exact hc1)
    (fun _ h => by cases h) (fun _ h => by cases h) (fun h => by cases h) (fun h => by cases h) hk0 hk1 hkk0 hkk1 rfl hs.1 hdp.1 hs.2.1
    (by rw [i_nn hs.1, i_nn hs.2.1]; show ¬ _ > ((arrV (gy (xG X) 19) (mL M a0) (fun j => va_rf ((mR M a0 j).map (gh (xG X) + ·)))).slots.size : Int); rw [arrV_size]; omega)
    (by rw [i_nn hdp.1, i_nn hs.2.1]; show ¬ _ > ((arrV (gy (xG X) 19) (mL M b) (fun j => va_rf ((mR M b j).map (gh (xG X) + ·)))).slots.size : Int); rw [arrV_size]; omega)
    (fun vm₁ hal i hi => by
      have e : (vp_cell (gy (xG X) 19) (mL M a0, .inr (.inr (.inr (.inr (fun i => (mR M a0 i).map (gh (xG X) + ·))))))).slots.getD (sp.toNatClampNeg + i) .null = va_rf ((mR M a0 (sp.toNatClampNeg + i)).map (gh (xG X) + ·)) := by
        show (arrV (gy (xG X) 19) (mL M a0) (fun j => va_rf ((mR M a0 j).map (gh (xG X) + ·)))).slots.getD _ _ = _
        rw [Array.getD_eq_getD_getElem?, arrV_read _ _ (by omega)]
        rfl
      rw [e]
      cases hy : mR M a0 (sp.toNatClampNeg + i) with
      | none => exact ⟨rfl, trivial⟩
      | some y =>
        have hoy := hel i hi y hy
        obtain ⟨cellV, f1, f2, f3⟩ := va_recv hK (hH.obj hoy (by decide)) (show vwCl[9]? = some (RX9, TX9, 5) from rfl) (q0 := 0) rfl
        obtain ⟨kA, comp, r1, r2, r3, -⟩ := (hK.2 6 _ rfl).2
        cases hk1.symm.trans r1
        cases hkk1.symm.trans r2
        obtain ⟨kC, hkC, -⟩ := Vm.findClass_spec f3
        obtain ⟨kE, hkE, -⟩ := Vm.findClass_spec r3
        obtain ⟨kC', hkC', -⟩ := hal.2.2 _ _ hkC
        obtain ⟨kE', hkE', -⟩ := hal.2.2 _ _ hkE
        have hcls := (hK.1 9 _ (show vwCl[9]? = some (RX9, TX9, 5) from rfl)).2
        refine ⟨rfl, cellV, (show T.heap[gh (xG X) + y]? = some cellV by rw [hT]; exact f1), (fun q h => by rw [h] at f2; cases f2), ⟨kC', hkC'⟩, ?_, ?_⟩
        · exact ⟨kE', hkE'⟩
        · show vm₁.assignable _ _ = true
          rw [hal.assignable]
          have w1 : cellV.cls = (gD (xG X)).1 9 := Option.some.inj (f3.symm.trans hcls.1)
          have w2 := Option.some.inj (r3.symm.trans hcls.1)
          rw [w1, w2]
          exact va_assign hcls)
    (g := F0 (xm X) pc ls (.int n :: .int dp :: .ref (gh (xG X) + b) :: .int sp :: .ref (gh (xG X) + a0) :: st)) rfl (by rw [CX.2.2.2.2.2.2.2.2.2.2.2.2]; exact hl2.1) (rest := st) rfl (by rw [CX.2.1]; exact hd) (Nat.le_trans hv CX.2.2.2.2.2.2.2.2.2.2.1)
    (by
      have hnw : nativeFrameWords "java/lang/System" "arraycopy" 5 ≤ 30 := by decide +kernel
      have h9 := CX.2.2.2.2.2.2.2.2.2.2.2.1
      show 2 * 0 + _ + _ ≤ _
      omega)
  have e1 : copied (vp_cell (gy (xG X) 19) (mL M a0, .inr (.inr (.inr (.inr (fun i => (mR M a0 i).map (gh (xG X) + ·))))))) (vp_cell (gy (xG X) 19) (mL M b, .inr (.inr (.inr (.inr (fun i => (mR M b i).map (gh (xG X) + ·))))))) sp dp n = vp_cell (gy (xG X) 19) (mL M b, .inr (.inr (.inr (.inr (fun i => (va_cpy (mR M a0) (mR M b) sp.toNatClampNeg dp.toNatClampNeg n.toNatClampNeg i).map (gh (xG X) + ·)))))) := va_copied (fun z : Option Nat => va_rf (z.map (gh (xG X) + ·))) (gy (xG X) 19) (gy (xG X) 19) (mR M a0) (mR M b) h4
  rw [e1] at X' step
  have hlt : gh (xG X) + b < H.size := (Array.getElem?_eq_some_iff.mp hc1).1
  have hheap : ((T.setVm vm').setCell (gh (xG X) + b) (vp_cell (gy (xG X) 19) (mL M b, .inr (.inr (.inr (.inr (fun i => (va_cpy (mR M a0) (mR M b) sp.toNatClampNeg dp.toNatClampNeg n.toNatClampNeg i).map (gh (xG X) + ·)))))))).heap = H.setIfInBounds (gh (xG X) + b) (vp_cell (gy (xG X) 19) (mL M b, .inr (.inr (.inr (.inr (fun i => (va_cpy (mR M a0) (mR M b) sp.toNatClampNeg dp.toNatClampNeg n.toNatClampNeg i).map (gh (xG X) + ·))))))) := by rw [← hT]; rfl
  have oq : ∀ q : Nat, q ≠ gh (xG X) + b → (H.setIfInBounds (gh (xG X) + b) (vp_cell (gy (xG X) 19) (mL M b, .inr (.inr (.inr (.inr (fun i => (va_cpy (mR M a0) (mR M b) sp.toNatClampNeg dp.toNatClampNeg n.toNatClampNeg i).map (gh (xG X) + ·))))))))[q]? = H[q]? := fun q hq => by simp [Array.getElem?_setIfInBounds, Ne.symm hq]
  have z : (H.setIfInBounds (gh (xG X) + b) (vp_cell (gy (xG X) 19) (mL M b, .inr (.inr (.inr (.inr (fun i => (va_cpy (mR M a0) (mR M b) sp.toNatClampNeg dp.toNatClampNeg n.toNatClampNeg i).map (gh (xG X) + ·)))))))).size = H.size := by simp
  have hHP : HP (xG X) (cpR M a0 sp b dp n) (H.setIfInBounds (gh (xG X) + b) (vp_cell (gy (xG X) 19) (mL M b, .inr (.inr (.inr (.inr (fun i => (va_cpy (mR M a0) (mR M b) sp.toNatClampNeg dp.toNatClampNeg n.toNatClampNeg i).map (gh (xG X) + ·)))))))) := by
    refine hH.set (a := b) rfl z (fun c hc => cE_rR_ne hc) oq ?_
    rw [show cE (xG X) (cpR M a0 sp b dp n) b = .inl (gy (xG X) 19, mL M b, .inr (.inr (.inr (.inr (fun i => (va_cpy (mR M a0) (mR M b) sp.toNatClampNeg dp.toNatClampNeg n.toNatClampNeg i).map (gh (xG X) + ·)))))) from cE_arrR h1 (by decide)]
    show (H.setIfInBounds (gh (xG X) + b) _)[gh (xG X) + b]? = some (vp_cell _ _)
    simp [Array.getElem?_setIfInBounds, hlt]
  obtain ⟨t', c1, c2⟩ := w9 _ _ hHP ⟨by rw [z]; exact hS.1, fun q g1 g2 => by
      rw [oq q (fun e => g2 (by rw [e]; exact Nat.le_add_right _ _))]
      exact hS.2.1 q g1 g2, fun q hq => by
      rcases List.mem_append.mp hq with h | h
      · exact hS.2.2 q h
      · obtain ⟨z9, -, hz⟩ := List.mem_map.mp h
        rw [← hz]
        exact Nat.le_add_right _ _⟩ _ hheap X'
  exact ⟨t', step t' c1, c2⟩
def mmax (x y : Int32) : Int32 := (if x < y then y else x)
theorem s_mmax {x y : Int32} (hl : Cond.methodLink (yo Y) idx Lib.Math.max.name ∈ lw_good) (hs : Cond.static Lib.Math.max.name ∈ lw_good) (hi : Cond.initialized "java/lang/Math" ∈ lw_good) (hc : Cond.code Lib.Math.max.name Lib.Math.max.code 2 (some .int) ∈ lw_good) (hv : 1 ≤ yv Y) (hst : (st.map fun v => v.category).sum ≤ 8) (hd : decode (yc Y) pc = .ok (.invokestatic idx, 3)) (k : S0 X Y M (pc + 3) L (.int (mmax x y) :: st) t) : S0 X Y M pc L (.int y :: .int x :: st) t := by
  intro M' r e
  obtain ⟨a1, a2⟩ := k M' r e
  refine ⟨a1, fun CX b1 b2 H locs ls g1 g2 g3 g4 => ?_⟩
  have l1 := a1.1
  have l2 := a1.2.1
  have hsz := g1.1
  have h0 := g3.1
  rw [CX.2.2.2.2.2.2.1] at h0
  exact va_mmax CX.1 CX.2.1 (CX.2.2.2.2.2.2.2.2.2.2.2.2.trans g4.1.symm) CX.2.2.1 (CX.2.2.2.1 _ hl) (CX.2.2.2.1 _ hs) (CX.2.2.2.1 _ hi) (CX.2.2.2.1 _ hc) (Nat.le_trans hv CX.2.2.2.2.2.2.2.2.2.2.1) (by have h9 := CX.2.2.2.2.2.2.2.2.2.2.2.1; omega) (by omega) (by omega) hd (a2 CX b1 b2 H locs ls g1 g2 g3 g4)
def mmin (x y : Int32) : Int32 := (if y < x then y else x)
theorem s_mmin {x y : Int32} (hl : Cond.methodLink (yo Y) idx Lib.Math.min.name ∈ lw_good) (hs : Cond.static Lib.Math.min.name ∈ lw_good) (hi : Cond.initialized "java/lang/Math" ∈ lw_good) (hc : Cond.code Lib.Math.min.name Lib.Math.min.code 2 (some .int) ∈ lw_good) (hv : 1 ≤ yv Y) (hst : (st.map fun v => v.category).sum ≤ 8) (hd : decode (yc Y) pc = .ok (.invokestatic idx, 3)) (k : S0 X Y M (pc + 3) L (.int (mmin x y) :: st) t) : S0 X Y M pc L (.int y :: .int x :: st) t := by
  intro M' r e
  obtain ⟨a1, a2⟩ := k M' r e
  refine ⟨a1, fun CX b1 b2 H locs ls g1 g2 g3 g4 => ?_⟩
  have l1 := a1.1
  have l2 := a1.2.1
  have hsz := g1.1
  have h0 := g3.1
  rw [CX.2.2.2.2.2.2.1] at h0
  exact va_mmin CX.1 CX.2.1 (CX.2.2.2.2.2.2.2.2.2.2.2.2.trans g4.1.symm) CX.2.2.1 (CX.2.2.2.1 _ hl) (CX.2.2.2.1 _ hs) (CX.2.2.2.1 _ hi) (CX.2.2.2.1 _ hc) (Nat.le_trans hv CX.2.2.2.2.2.2.2.2.2.2.1) (by have h9 := CX.2.2.2.2.2.2.2.2.2.2.2.1; omega) (by omega) (by omega) hd (a2 CX b1 b2 H locs ls g1 g2 g3 g4)
def lmax (x y : Int64) : Int64 := (if y < x then x else y)
theorem s_lmax {x y : Int64} (hl : Cond.methodLink (yo Y) idx Lib.MathLoose.max_long.x ∈ lw_good) (hs : Cond.static Lib.MathLoose.max_long.x ∈ lw_good) (hi : Cond.initialized "java/lang/Math" ∈ lw_good) (hc : Cond.code Lib.MathLoose.max_long.x Lib.MathLoose.max_long.code 4 (some .long) ∈ lw_good) (hv : 1 ≤ yv Y) (hst : (st.map fun v => v.category).sum ≤ 8) (hd : decode (yc Y) pc = .ok (.invokestatic idx, 3)) (k : S0 X Y M (pc + 3) L (.long (lmax x y) :: st) t) : S0 X Y M pc L (.long y :: .long x :: st) t := by
  intro M' r e
  obtain ⟨a1, a2⟩ := k M' r e
  refine ⟨a1, fun CX b1 b2 H locs ls g1 g2 g3 g4 => ?_⟩
  have l1 := a1.1
  have l2 := a1.2.1
  have hsz := g1.1
  have h0 := g3.1
  rw [CX.2.2.2.2.2.2.1] at h0
  exact va_mmax_long CX.1 CX.2.1 (CX.2.2.2.2.2.2.2.2.2.2.2.2.trans g4.1.symm) CX.2.2.1 (CX.2.2.2.1 _ hl) (CX.2.2.2.1 _ hs) (CX.2.2.2.1 _ hi) (CX.2.2.2.1 _ hc) (Nat.le_trans hv CX.2.2.2.2.2.2.2.2.2.2.1) (by have h9 := CX.2.2.2.2.2.2.2.2.2.2.2.1; omega) (by omega) (by omega) hd (a2 CX b1 b2 H locs ls g1 g2 g3 g4)
def lmin (x y : Int64) : Int64 := (if y < x then y else x)
theorem s_lmin {x y : Int64} (hl : Cond.methodLink (yo Y) idx Lib.MathLoose.min_long.x ∈ lw_good) (hs : Cond.static Lib.MathLoose.min_long.x ∈ lw_good) (hi : Cond.initialized "java/lang/Math" ∈ lw_good) (hc : Cond.code Lib.MathLoose.min_long.x Lib.MathLoose.min_long.code 4 (some .long) ∈ lw_good) (hv : 1 ≤ yv Y) (hst : (st.map fun v => v.category).sum ≤ 8) (hd : decode (yc Y) pc = .ok (.invokestatic idx, 3)) (k : S0 X Y M (pc + 3) L (.long (lmin x y) :: st) t) : S0 X Y M pc L (.long y :: .long x :: st) t := by
  intro M' r e
  obtain ⟨a1, a2⟩ := k M' r e
  refine ⟨a1, fun CX b1 b2 H locs ls g1 g2 g3 g4 => ?_⟩
  have l1 := a1.1
  have l2 := a1.2.1
  have hsz := g1.1
  have h0 := g3.1
  rw [CX.2.2.2.2.2.2.1] at h0
  exact va_mmin_long CX.1 CX.2.1 (CX.2.2.2.2.2.2.2.2.2.2.2.2.trans g4.1.symm) CX.2.2.1 (CX.2.2.2.1 _ hl) (CX.2.2.2.1 _ hs) (CX.2.2.2.1 _ hi) (CX.2.2.2.1 _ hc) (Nat.le_trans hv CX.2.2.2.2.2.2.2.2.2.2.1) (by have h9 := CX.2.2.2.2.2.2.2.2.2.2.2.1; omega) (by omega) (by omega) hd (a2 CX b1 b2 H locs ls g1 g2 g3 g4)
end
