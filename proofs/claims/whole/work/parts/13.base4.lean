/-! MEMORY: reads -/
def FCls (ci : Nat) (C : String) (T : u_T) (N : Nat) (ty : Nat → FieldType) : Prop :=
  ci < 13 ∧ vwCl[ci]? = some (C, T, N) ∧ (∀ w ∈ u_ws C T N, w ∈ lw_good) ∧ (∀ k, k < N → parseFieldDescriptor (T k).2.2.1 = some (ty k)) ∧ (∀ a, a < N → ∀ b, b < N → a ≠ b → (T a).2.1 ≠ (T b).2.1) ∧ (fkd ci).length = N ∧ (∀ k, k < N → (T k).1 = C) ∧ Cond.instantiable C N ∈ lw_good ∧ Cond.initialized C ∈ lw_good ∧ (∀ k, k < N → defaultValue (ty k) = if (fkd ci)[k]? = some 1 then .null else .int 0)
section
variable {X : Ctx} {Y : Sta} {M M1 : Mem} {pc pc' : Nat} {L L' : List (Option Value)} {st st' : List Value} {t : Option (Mem × Option Value)}
variable {ci idx a : Nat} {C : String} {T : u_T} {N : Nat} {ty : Nat → FieldType}
theorem fcls_lt (F : FCls ci C T N ty) {k x : Nat} (hk : (fkd ci)[k]? = some x) : k < N := by
  rw [← F.2.2.2.2.2.1]
  exact (List.getElem?_eq_some_iff.mp hk).1
theorem s_get (F : FCls ci C T N ty) (k x : Nat) (hk : (fkd ci)[k]? = some x) (ho : okO M ci a) (hd : decode (yc Y) pc = .ok (.getfield idx, 3)) (hw : Cond.fieldLink (yo Y) idx C (T k).2.1 (T k).2.2.1 ∈ lw_good) (kk : S0 X Y M (pc + 3) L (cF (xG X) M a x k :: st) t) : S0 X Y M pc L (.ref (gh (xG X) + a) :: st) t :=
  kk.liftM (fun CX H locs cs ss Q ls hH hS hl w9 => va_get (ref := C) (D := gD (xG X)) (ci := ci) (C := C) (T := T) (N := N) CX.1 CX.2.1 CX.2.2.2.1 F.2.2.1 CX.2.2.1 CX.2.2.2.2.1 (hH.obj ho F.1) 0 rfl F.2.1 k (fcls_lt F hk) (CX.2.2.2.1 _ hw) (fun x h => by rw [F.2.2.2.2.2.2.1 k (fcls_lt F hk)] at h; exact h) (cO_at hk) hd w9)
theorem s_getN (F : FCls ci C T N ty) (k x : Nat) (hk : (fkd ci)[k]? = some x) (ho : okO M ci a) (hd : decode (yc Y) pc = .ok (.getfield idx, 3)) (hw : (yo Y, idx, C, (T k).2.1, (T k).2.2.1) ∈ nwF) (kk : S0 X Y M (pc + 3) L (cF (xG X) M a x k :: st) t) : S0 X Y M pc L (.ref (gh (xG X) + a) :: st) t :=
  kk.liftM (fun CX H locs cs ss Q ls hH hS hl w9 => va_getN (ref := C) (host := RX11) (D := gD (xG X)) (ci := ci) (C := C) (T := T) (N := N) CX.1 CX.2.1 CX.2.2.2.1 F.2.2.1 CX.2.2.1 CX.2.2.2.2.1 (hH.obj ho F.1) 0 rfl F.2.1 k (fcls_lt F hk) (va_Nw.use rfl (CX.2.2.2.2.2.1.2.2.1 _ hw)) (fun x h => by rw [F.2.2.2.2.2.2.1 k (fcls_lt F hk)] at h; exact h) (cO_at hk) hd w9)
/-- a reference that was read: null, or a cell -/
theorem s_ref {α : Type} {F : α → Option (Mem × Option Value)} {k : Nat} {kn : Option α} {ks : Nat → Option α} (h0 : S0 X Y M pc L (.null :: st) (Option.bind kn F)) (h1 : ∀ b : Nat, S0 X Y M pc L (.ref (gh (xG X) + b) :: st) (Option.bind (ks b) F)) : S0 X Y M pc L (cF (xG X) M a 1 k :: st) (Option.bind (ncase (mR M a k) kn ks) F) := by
  unfold cF
  cases h : mR M a k with
  | none => exact h0
  | some b => exact h1 b
theorem s_refB {α : Type} {F : α → Option (Mem × Option Value)} {k : Nat} {ks : Nat → Option α} (h1 : ∀ b : Nat, S0 X Y M pc L (.ref (gh (xG X) + b) :: st) (Option.bind (ks b) F)) : S0 X Y M pc L (cF (xG X) M a 1 k :: st) (Option.bind (Option.bind (mR M a k) ks) F) := by
  unfold cF
  cases h : mR M a k with
  | none => exact s_noneB
  | some b => exact h1 b
theorem s_iald {i : Int32} (ho : okO M 14 a) (hi : vp_in i (mL M a)) (hd : decode (yc Y) pc = .ok (.iaload, 1)) (kk : S0 X Y M (pc + 1) L (.int (mI M a i.toNatClampNeg) :: st) t) : S0 X Y M pc L (.int i :: .ref (gh (xG X) + a) :: st) t :=
  kk.liftM (fun CX H locs cs ss Q ls hH hS hl w9 => va_iald CX.1 CX.2.1 CX.2.2.2.2.1 (hH.arr ho (by decide)) 0 1 rfl rfl hi hd w9)
theorem s_bald {i : Int32} (ho : okO M 13 a) (hi : vp_in i (mL M a)) (hd : decode (yc Y) pc = .ok (.baload, 1)) (kk : S0 X Y M (pc + 1) L (.int (mI M a i.toNatClampNeg) :: st) t) : S0 X Y M pc L (.int i :: .ref (gh (xG X) + a) :: st) t :=
  kk.liftM (fun CX H locs cs ss Q ls hH hS hl w9 => va_bald CX.1 CX.2.1 CX.2.2.2.2.1 (hH.arr ho (by decide)) 0 0 rfl rfl hi hd w9)
theorem s_zald {i : Int32} (ho : okO M 17 a) (hi : vp_in i (mL M a)) (hd : decode (yc Y) pc = .ok (.baload, 1)) (kk : S0 X Y M (pc + 1) L (.int (mI M a i.toNatClampNeg) :: st) t) : S0 X Y M pc L (.int i :: .ref (gh (xG X) + a) :: st) t :=
  kk.liftM (fun CX H locs cs ss Q ls hH hS hl w9 => va_zald CX.1 CX.2.1 CX.2.2.2.2.1 (hH.arr ho (by decide)) 0 4 rfl rfl hi hd w9)
theorem s_sald {i : Int32} (ho : okO M 16 a) (hi : vp_in i (mL M a)) (hd : decode (yc Y) pc = .ok (.saload, 1)) (kk : S0 X Y M (pc + 1) L (.int (mI M a i.toNatClampNeg) :: st) t) : S0 X Y M pc L (.int i :: .ref (gh (xG X) + a) :: st) t :=
  kk.liftM (fun CX H locs cs ss Q ls hH hS hl w9 => va_sald CX.1 CX.2.1 CX.2.2.2.2.1 (hH.arr ho (by decide)) 0 3 rfl rfl hi hd w9)
theorem s_lald {i : Int32} (ho : okO M 15 a) (hi : vp_in i (mL M a)) (hd : decode (yc Y) pc = .ok (.laload, 1)) (kk : S0 X Y M (pc + 1) L (.long (mJ M a i.toNatClampNeg) :: st) t) : S0 X Y M pc L (.int i :: .ref (gh (xG X) + a) :: st) t :=
  kk.liftM (fun CX H locs cs ss Q ls hH hS hl w9 => va_lald CX.1 CX.2.1 CX.2.2.2.2.1 (hH.arr ho (by decide)) 0 2 rfl rfl hi hd w9)
theorem s_aald {i : Int32} (k : Nat) (hk : k = 18 ∨ k = 19 ∨ k = 20) (ho : okO M k a) (hi : vp_in i (mL M a)) (hd : decode (yc Y) pc = .ok (.aaload, 1)) (kk : S0 X Y M (pc + 1) L (cF (xG X) M a 1 i.toNatClampNeg :: st) t) : S0 X Y M pc L (.int i :: .ref (gh (xG X) + a) :: st) t := by
  rcases hk with rfl | rfl | rfl
  · exact kk.liftM (fun CX H locs cs ss Q ls hH hS hl w9 => va_aldq CX.1 CX.2.1 CX.2.2.2.2.1 (hH.arr ho (by decide)) 0 5 rfl rfl hi hd w9)
  · exact kk.liftM (fun CX H locs cs ss Q ls hH hS hl w9 => va_aldq CX.1 CX.2.1 CX.2.2.2.2.1 (hH.arr ho (by decide)) 0 6 rfl rfl hi hd w9)
  · exact kk.liftM (fun CX H locs cs ss Q ls hH hS hl w9 => va_aldq CX.1 CX.2.1 CX.2.2.2.2.1 (hH.arr ho (by decide)) 0 7 rfl rfl hi hd w9)
theorem s_alen (k : Nat) (hk : 13 ≤ k ∧ k ≤ 20) (ho : okO M k a) (hd : decode (yc Y) pc = .ok (.arraylength, 1)) (kk : S0 X Y M (pc + 1) L (.int (nI (mL M a)) :: st) t) : S0 X Y M pc L (.ref (gh (xG X) + a) :: st) t := by
  refine kk.liftM (fun CX H locs cs ss Q ls hH hS hl w9 => ?_)
  have h13 : ¬ k < 13 := by omega
  have hp := hH.arr ho h13
  have hk2 : k = 13 ∨ k = 14 ∨ k = 15 ∨ k = 16 ∨ k = 17 ∨ k = 18 ∨ k = 19 ∨ k = 20 := by omega
  rcases hk2 with rfl | rfl | rfl | rfl | rfl | rfl | rfl | rfl
  · exact va_alen CX.1 CX.2.1 CX.2.2.2.2.1 hp 0 0 rfl rfl rfl hd w9
  · exact va_alen CX.1 CX.2.1 CX.2.2.2.2.1 hp 0 1 rfl rfl rfl hd w9
  · exact va_alen CX.1 CX.2.1 CX.2.2.2.2.1 hp 0 2 rfl rfl rfl hd w9
  · exact va_alen CX.1 CX.2.1 CX.2.2.2.2.1 hp 0 3 rfl rfl rfl hd w9
  · exact va_alen CX.1 CX.2.1 CX.2.2.2.2.1 hp 0 4 rfl rfl rfl hd w9
  · exact va_alen CX.1 CX.2.1 CX.2.2.2.2.1 hp 0 5 rfl rfl rfl hd w9
  · exact va_alen CX.1 CX.2.1 CX.2.2.2.2.1 hp 0 6 rfl rfl rfl hd w9
  · exact va_alen CX.1 CX.2.1 CX.2.2.2.2.1 hp 0 7 rfl rfl rfl hd w9
/-! the two static rows -/
theorem s_power (hd : decode (yc Y) pc = .ok (.getstatic idx, 3)) (hw : (yo Y, idx, RX11, "POWER", "[I") ∈ nwF) (kk : S0 X Y M (pc + 3) L (.ref (ga (xG X) 0) :: st) t) : S0 X Y M pc L st t :=
  kk.liftM (fun CX H locs cs ss Q ls hH hS hl w9 => va_getsN CX.1 CX.2.1 CX.2.2.2.2.2.1.1.1 hS CX.2.2.1 (va_Nw.use rfl (CX.2.2.2.2.2.1.2.2.1 _ hw)) (fun _ h => h) hd w9)
theorem s_start (hd : decode (yc Y) pc = .ok (.getstatic idx, 3)) (hw : (yo Y, idx, RX11, "START", "[I") ∈ nwF) (kk : S0 X Y M (pc + 3) L (.ref (ga (xG X) 1) :: st) t) : S0 X Y M pc L st t :=
  kk.liftM (fun CX H locs cs ss Q ls hH hS hl w9 => va_getsN CX.1 CX.2.1 CX.2.2.2.2.2.1.2.1.1 hS CX.2.2.1 (va_Nw.use rfl (CX.2.2.2.2.2.1.2.2.1 _ hw)) (fun _ h => h) hd w9)
theorem s_powi {i : Int32} (hi : vp_in i 6) (hd : decode (yc Y) pc = .ok (.iaload, 1)) (kk : S0 X Y M (pc + 1) L (.int (pwV i.toNatClampNeg) :: st) t) : S0 X Y M pc L (.int i :: .ref (ga (xG X) 0) :: st) t :=
  kk.liftM (fun CX H locs cs ss Q ls hH hS hl w9 => va_ti CX.1 CX.2.1 CX.2.2.2.2.2.1.1.2 hS hi rfl hd w9)
theorem s_sti {i : Int32} (hi : vp_in i 7) (hd : decode (yc Y) pc = .ok (.iaload, 1)) (kk : S0 X Y M (pc + 1) L (.int (stV i.toNatClampNeg) :: st) t) : S0 X Y M pc L (.int i :: .ref (ga (xG X) 1) :: st) t :=
  kk.liftM (fun CX H locs cs ss Q ls hH hS hl w9 => va_ti CX.1 CX.2.1 CX.2.2.2.2.2.1.2.1.2 hS hi rfl hd w9)
/-! answers -/
theorem s_ret {r : Option Value} (h : Cx X Y → ∀ (H : Heap) (locs : List Loc) (cells slots : Nat) (ls : Array Slot), (∀ tt : State, tt.heap = H → (xs X).WarmedH tt.vm → QM (xG X) M r (xa X) (xs X) (.returned r) tt) → (∀ q ∈ locs, AA (xG X) q.base) → WX X H locs cells slots (MQ (xb X) (QM (xG X) M r) (xa X) (xs X) cells slots (AA (xG X))) (F0 (xm X) pc ls st)) : S0 X Y M pc L st (some (M, r)) := by
  intro M' r' e
  cases e
  exact ⟨Le.rf, fun CX b1 b2 H locs ls g1 g2 g3 g4 => h CX H locs _ _ ls (fun tt ht hW => ⟨rfl, by rw [ht]; exact g1, g3.F ht⟩) g3.2.2⟩
theorem s_iret {x : Int32} (hr : yr Y = some .int) (hd : decode (yc Y) pc = .ok (.ireturn, 1)) : S0 X Y M pc L [.int x] (some (M, some (.int x))) :=
  s_ret (fun CX H locs cs ss ls hq hf => W.iret CX.1 CX.2.1 (CX.2.2.2.2.2.2.2.1.trans hr) hq hf hd CX.2.2.2.2.2.2.2.2.1)
theorem s_zret {x : Int32} (hr : yr Y = some .boolean) (hb : narrow .boolean (.int x) = .int x) (hd : decode (yc Y) pc = .ok (.ireturn, 1)) : S0 X Y M pc L [.int x] (some (M, some (.int x))) :=
  s_ret (fun CX H locs cs ss ls hq hf => W.zret CX.1 CX.2.1 (CX.2.2.2.2.2.2.2.1.trans hr) hb hq hf hd CX.2.2.2.2.2.2.2.2.1)
theorem s_lret {x : Int64} (hr : yr Y = some .long) (hd : decode (yc Y) pc = .ok (.lreturn, 1)) : S0 X Y M pc L [.long x] (some (M, some (.long x))) :=
  s_ret (fun CX H locs cs ss ls hq hf => W.lret CX.1 CX.2.1 (CX.2.2.2.2.2.2.2.1.trans hr) hq hf hd CX.2.2.2.2.2.2.2.2.1)
theorem s_vret (hr : yr Y = none) (hd : decode (yc Y) pc = .ok (.return_, 1)) : S0 X Y M pc L [] (some (M, none)) :=
  s_ret (fun CX H locs cs ss ls hq hf => W.vret CX.1 CX.2.1 (CX.2.2.2.2.2.2.2.1.trans hr) hq hf hd CX.2.2.2.2.2.2.2.2.1)
end
