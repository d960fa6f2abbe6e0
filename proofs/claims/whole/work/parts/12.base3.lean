/-! STEPS -/
def ir (x y : Int32) : Int32 := x - x / y * y
def lr (x y : Int64) : Int64 := x - x / y * y
def sl (x y : Int32) : Int32 := x <<< (y &&& 31)
def sr (x y : Int32) : Int32 := x >>> (y &&& 31)
def ur (x y : Int32) : Int32 := (x.toUInt32 >>> (y.toUInt32 &&& Int32.toUInt32 31)).toInt32
def nb (x : Int32) : Int32 := x.toInt8.toInt32
def ns (x : Int32) : Int32 := x.toInt16.toInt32
section
variable {X : Ctx} {Y : Sta} {M M1 : Mem} {pc pc' : Nat} {L L' : List (Option Value)} {st st' : List Value} {t : Option (Mem × Option Value)}
theorem S0.lift (h : Cx X Y → ∀ (H : Heap) (locs : List Loc) (cells slots : Nat) (Q : State → Prop) (ls : Array Slot), lhas ls (yL Y) L → WX X H locs cells slots Q (F0 (xm X) pc' ls st') → WX X H locs cells slots Q (F0 (xm X) pc ls st)) (k : S0 X Y M pc' L st' t) : S0 X Y M pc L st t :=
  fun M' r e => ⟨(k M' r e).1, fun C b1 b2 H locs ls g1 g2 g3 g4 => h C H locs _ _ _ ls g4 ((k M' r e).2 C b1 b2 H locs ls g1 g2 g3 g4)⟩
theorem S0.liftM (h : Cx X Y → ∀ (H : Heap) (locs : List Loc) (cells slots : Nat) (Q : State → Prop) (ls : Array Slot), HP (xG X) M H → va_S (AA (xG X)) (xs X).heap H locs → lhas ls (yL Y) L → WX X H locs cells slots Q (F0 (xm X) pc' ls st') → WX X H locs cells slots Q (F0 (xm X) pc ls st)) (k : S0 X Y M pc' L st' t) : S0 X Y M pc L st t :=
  fun M' r e => ⟨(k M' r e).1, fun C b1 b2 H locs ls g1 g2 g3 g4 => h C H locs _ _ _ ls g1 g3 g4 ((k M' r e).2 C b1 b2 H locs ls g1 g2 g3 g4)⟩
theorem S0.liftL (h : Cx X Y → ∀ (H : Heap) (locs : List Loc) (cells slots : Nat) (Q : State → Prop) (ls : Array Slot), lhas ls (yL Y) L → (∀ ls' : Array Slot, lhas ls' (yL Y) L' → WX X H locs cells slots Q (F0 (xm X) pc' ls' st')) → WX X H locs cells slots Q (F0 (xm X) pc ls st)) (k : S0 X Y M pc' L' st' t) : S0 X Y M pc L st t :=
  fun M' r e => ⟨(k M' r e).1, fun C b1 b2 H locs ls g1 g2 g3 g4 => h C H locs _ _ _ ls g4 (fun ls' g5 => (k M' r e).2 C b1 b2 H locs ls' g1 g2 g3 g5)⟩
theorem S0.liftW (hn : mn M1 = mn M) (hz : mz M1 = mz M) (hk : mK M1 = mK M) (hl : mL M1 = mL M) (h : Cx X Y → ∀ (H : Heap) (locs : List Loc) (cells slots : Nat) (Q : State → Prop) (ls : Array Slot), HP (xG X) M H → va_S (AA (xG X)) (xs X).heap H locs → lhas ls (yL Y) L → (∀ (H1 : Heap) (locs1 : List Loc), HP (xG X) M1 H1 → va_S (AA (xG X)) (xs X).heap H1 locs1 → WX X H1 locs1 cells slots Q (F0 (xm X) pc' ls st')) → WX X H locs cells slots Q (F0 (xm X) pc ls st)) (k : S0 X Y M1 pc' L st' t) : S0 X Y M pc L st t := by
  intro M' r e
  obtain ⟨a1, a2⟩ := k M' r e
  refine ⟨(Le.eqv hn hz hk hl).tr a1, fun C b1 b2 H locs ls g1 g2 g3 g4 => ?_⟩
  rw [hn, hz] at a2
  exact h C H locs _ _ _ ls g1 g3 g4 (fun H1 locs1 g5 g6 => a2 C b1 b2 H1 locs1 ls g5 g2 g6 g4)
/-- fewer locals are known -/
def lsub : List (Option Value) → List (Option Value) → Prop
  | [], _ => True
  | none :: l, _ :: k => lsub l k
  | some v :: l, some w :: k => v = w ∧ lsub l k
  | none :: l, [] => lsub l []
  | some _ :: _, _ => False
theorem lsub_at : ∀ (l k : List (Option Value)), lsub l k → ∀ (i : Nat) (v : Value), l[i]? = some (some v) → k[i]? = some (some v)
  | [], _, _, i, v, h => by simp at h
  | none :: l, x :: k, hs, i, v, h => by
    cases i with
    | zero => simp at h
    | succ i => rw [List.getElem?_cons_succ] at h ⊢; exact lsub_at l k hs i v h
  | some w :: l, some w' :: k, hs, i, v, h => by
    obtain ⟨rfl, h2⟩ := hs
    cases i with
    | zero => exact h
    | succ i => rw [List.getElem?_cons_succ] at h ⊢; exact lsub_at l k h2 i v h
  | none :: l, [], hs, i, v, h => by
    cases i with
    | zero => simp at h
    | succ i =>
      rw [List.getElem?_cons_succ] at h
      have := lsub_at l [] hs i v h
      simp at this
  | some _ :: _, [], hs, i, v, h => hs.elim
  | some _ :: _, none :: _, hs, i, v, h => hs.elim
theorem s_drop (k : S0 X Y M pc L' st t) (h : lsub L' L) : S0 X Y M pc L st t :=
  fun M' r e => ⟨(k M' r e).1, fun C b1 b2 H locs ls g1 g2 g3 g4 => (k M' r e).2 C b1 b2 H locs ls g1 g2 g3 ⟨g4.1, g4.2.1, fun i v hi => g4.2.2 i v (lsub_at L' L h i v hi)⟩⟩
/-- nothing is told: nothing is owed -/
theorem s_none : S0 X Y M pc L st none := fun _ _ e => by cases e
theorem s_noneB {α : Type} {F : α → Option (Mem × Option Value)} : S0 X Y M pc L st (Option.bind none F) := fun _ _ e => by cases e
/-! locals -/
def lvs (L : List (Option Value)) : List (Nat × Value) := L.zipIdx.filterMap (fun q => q.1.map (fun v => (q.2, v)))
theorem mem_lvs {L : List (Option Value)} {i : Nat} {v : Value} : (i, v) ∈ lvs L ↔ L[i]? = some (some v) := by
  unfold lvs
  rw [List.mem_filterMap]
  constructor
  · rintro ⟨⟨o, j⟩, hm, he⟩
    cases o with
    | none => cases he
    | some w =>
      simp only [Option.map_some, Option.some.injEq, Prod.mk.injEq] at he
      obtain ⟨rfl, rfl⟩ := he
      exact List.mk_mem_zipIdx_iff_getElem?.mp hm
  · intro h
    exact ⟨(some v, i), List.mk_mem_zipIdx_iff_getElem?.mpr h, rfl⟩
theorem lhas.lv {ls : Array Slot} {nL : Nat} {L : List (Option Value)} (h : lhas ls nL L) : lv_has ls nL (lvs L) := ⟨h.1, h.2.1, fun q hq => h.2.2 q.1 q.2 (mem_lvs.mp hq)⟩
/-- no long stands just ahead of this place -/
def pnl (L : List (Option Value)) : Nat → Bool
  | 0 => true
  | j + 1 => match L[j]? with
    | some (some v) => decide (v.category = 1)
    | _ => true
theorem lhas_set1 {ls' : Array Slot} {nL i : Nat} {v : Value} {L : List (Option Value)} (h : lv_has ls' nL ((i, v) :: (lvs L).filter (fun q => !(q.1 == i) && !(q.1 + 1 == i && q.2.category == 2)))) (hp : pnl L i = true) : lhas ls' nL (L.set i (some v)) := by
  refine ⟨h.1, h.2.1, fun j w hj => ?_⟩
  by_cases hji : j = i
  · subst hji
    have hlt : j < (L.set j (some v)).length := (List.getElem?_eq_some_iff.mp hj).1
    rw [List.length_set] at hlt
    rw [List.getElem?_set_self hlt] at hj
    have hvw := Option.some.inj (Option.some.inj hj)
    rw [← hvw]
    exact h.2.2 (j, v) List.mem_cons_self
  · rw [List.getElem?_set_ne (Ne.symm hji)] at hj
    refine h.2.2 (j, w) (List.mem_cons_of_mem _ (List.mem_filter.mpr ⟨mem_lvs.mpr hj, ?_⟩))
    have h2 : (j + 1 == i && w.category == 2) = false := by
      by_cases e : j + 1 = i
      · subst e
        have hp2 : decide (w.category = 1) = true := by
          have hp3 : (match L[j]? with | some (some v) => decide (v.category = 1) | _ => true) = true := hp
          rw [hj] at hp3
          exact hp3
        have := of_decide_eq_true hp2
        simp [this]
      · simp [e]
    simp only [h2]
    simp [hji]
theorem lhas_set2 {ls' : Array Slot} {nL i : Nat} {v : Value} {L : List (Option Value)} (h : lv_has ls' nL ((i, v) :: (lvs L).filter (fun q => !(q.1 == i) && (!(q.1 == i + 1) && !(q.1 + 1 == i && q.2.category == 2))))) (hp : pnl L i = true) : lhas ls' nL ((L.set i (some v)).set (i + 1) none) := by
  refine ⟨h.1, h.2.1, fun j w hj => ?_⟩
  by_cases hj1 : j = i + 1
  · subst hj1
    by_cases hlt : i + 1 < (L.set i (some v)).length
    · rw [List.getElem?_set_self hlt] at hj
      cases hj
    · have := (List.getElem?_eq_some_iff.mp hj).1
      rw [List.length_set] at this
      exact absurd this hlt
  rw [List.getElem?_set_ne (Ne.symm hj1)] at hj
  by_cases hji : j = i
  · subst hji
    have hlt : j < (L.set j (some v)).length := (List.getElem?_eq_some_iff.mp hj).1
    rw [List.length_set] at hlt
    rw [List.getElem?_set_self hlt] at hj
    have hvw := Option.some.inj (Option.some.inj hj)
    rw [← hvw]
    exact h.2.2 (j, v) List.mem_cons_self
  · rw [List.getElem?_set_ne (Ne.symm hji)] at hj
    refine h.2.2 (j, w) (List.mem_cons_of_mem _ (List.mem_filter.mpr ⟨mem_lvs.mpr hj, ?_⟩))
    have h2 : (j + 1 == i && w.category == 2) = false := by
      by_cases e : j + 1 = i
      · subst e
        have hp2 : decide (w.category = 1) = true := by
          have hp3 : (match L[j]? with | some (some v) => decide (v.category = 1) | _ => true) = true := hp
          rw [hj] at hp3
          exact hp3
        have := of_decide_eq_true hp2
        simp [this]
      · simp [e]
    simp only [h2]
    simp [hji, hj1]
/-! constants -/
theorem s_iconst {n : Int} (v : Int32) (hd : decode (yc Y) pc = .ok (.iconst n, 1)) (hv : Int32.ofInt n = v) (k : S0 X Y M (pc + 1) L (.int v :: st) t) : S0 X Y M pc L st t := k.lift (fun C H locs cs ss Q ls hl w => lv_iconst C.1 C.2.1 hd hv w)
theorem s_bipush {n : Int} (v : Int32) (hd : decode (yc Y) pc = .ok (.bipush n, 2)) (hv : (Int8.ofInt n).toInt32 = v) (k : S0 X Y M (pc + 2) L (.int v :: st) t) : S0 X Y M pc L st t := k.lift (fun C H locs cs ss Q ls hl w => lv_bipush C.1 C.2.1 hd hv w)
theorem s_sipush {n : Int} (v : Int32) (hd : decode (yc Y) pc = .ok (.sipush n, 3)) (hv : (Int16.ofInt n).toInt32 = v) (k : S0 X Y M (pc + 3) L (.int v :: st) t) : S0 X Y M pc L st t := k.lift (fun C H locs cs ss Q ls hl w => lv_sipush C.1 C.2.1 hd hv w)
theorem s_lconst {n : Fin 2} (v : Int64) (hd : decode (yc Y) pc = .ok (.lconst n, 1)) (hv : Int64.ofNat (n : Nat) = v) (k : S0 X Y M (pc + 1) L (.long v :: st) t) : S0 X Y M pc L st t := k.lift (fun C H locs cs ss Q ls hl w => lv_lconst C.1 C.2.1 hd hv w)
theorem s_ldc {i : Nat} {v : Int32} (hd : decode (yc Y) pc = .ok (.ldc i, 2)) (hw : Cond.constant (yo Y) i v ∈ lw_good) (k : S0 X Y M (pc + 2) L (.int v :: st) t) : S0 X Y M pc L st t := k.lift (fun C H locs cs ss Q ls hl w => lv_ldc C.1 C.2.1 C.2.2.1 (C.2.2.2.1 _ hw) hd w)
theorem s_ldcw {i : Nat} {v : Int32} (hd : decode (yc Y) pc = .ok (.ldc_w i, 3)) (hw : Cond.constant (yo Y) i v ∈ lw_good) (k : S0 X Y M (pc + 3) L (.int v :: st) t) : S0 X Y M pc L st t := k.lift (fun C H locs cs ss Q ls hl w => lv_ldcw C.1 C.2.1 C.2.2.1 (C.2.2.2.1 _ hw) hd w)
theorem s_ldc2 {i : Nat} {v : Int64} (hd : decode (yc Y) pc = .ok (.ldc2_w i, 3)) (hw : Cond.constantLong (yo Y) i v ∈ lw_good) (k : S0 X Y M (pc + 3) L (.long v :: st) t) : S0 X Y M pc L st t := k.lift (fun C H locs cs ss Q ls hl w => lv_ldc2 C.1 C.2.1 C.2.2.1 (C.2.2.2.1 _ hw) hd w)
theorem s_null (hd : decode (yc Y) pc = .ok (.aconst_null, 1)) (k : S0 X Y M (pc + 1) L (.null :: st) t) : S0 X Y M pc L st t := k.lift (fun C H locs cs ss Q ls hl w => lv_null C.1 C.2.1 hd w)
/-! loads and stores of locals -/
theorem s_iload_n {q : Fin 4} {x : Int32} (i : Nat) (hd : decode (yc Y) pc = .ok (.iload_n q, 1)) (hi : (q : Nat) = i) (hx : L[i]? = some (some (.int x))) (k : S0 X Y M (pc + 1) L (.int x :: st) t) : S0 X Y M pc L st t := k.lift (fun C H locs cs ss Q ls hl w => lv_iload_n C.1 C.2.1 hd hi (hl.2.2 i _ hx) w)
theorem s_iload {i : Nat} {x : Int32} (hd : decode (yc Y) pc = .ok (.iload i, 2)) (hx : L[i]? = some (some (.int x))) (k : S0 X Y M (pc + 2) L (.int x :: st) t) : S0 X Y M pc L st t := k.lift (fun C H locs cs ss Q ls hl w => lv_iload C.1 C.2.1 hd (hl.2.2 i _ hx) w)
theorem s_lload_n {q : Fin 4} {x : Int64} (i : Nat) (hd : decode (yc Y) pc = .ok (.lload_n q, 1)) (hi : (q : Nat) = i) (hx : L[i]? = some (some (.long x))) (k : S0 X Y M (pc + 1) L (.long x :: st) t) : S0 X Y M pc L st t := k.lift (fun C H locs cs ss Q ls hl w => lv_lload_n C.1 C.2.1 hd hi (hl.2.2 i _ hx) w)
theorem s_lload {i : Nat} {x : Int64} (hd : decode (yc Y) pc = .ok (.lload i, 2)) (hx : L[i]? = some (some (.long x))) (k : S0 X Y M (pc + 2) L (.long x :: st) t) : S0 X Y M pc L st t := k.lift (fun C H locs cs ss Q ls hl w => lv_lload C.1 C.2.1 hd (hl.2.2 i _ hx) w)
theorem s_aload_n {q : Fin 4} {x : Nat} (i : Nat) (hd : decode (yc Y) pc = .ok (.aload_n q, 1)) (hi : (q : Nat) = i) (hx : L[i]? = some (some (.ref x))) (k : S0 X Y M (pc + 1) L (.ref x :: st) t) : S0 X Y M pc L st t := k.lift (fun C H locs cs ss Q ls hl w => lv_aload_n C.1 C.2.1 hd hi (hl.2.2 i _ hx) w)
theorem s_aload {i : Nat} {x : Nat} (hd : decode (yc Y) pc = .ok (.aload i, 2)) (hx : L[i]? = some (some (.ref x))) (k : S0 X Y M (pc + 2) L (.ref x :: st) t) : S0 X Y M pc L st t := k.lift (fun C H locs cs ss Q ls hl w => lv_aload C.1 C.2.1 hd (hl.2.2 i _ hx) w)
theorem s_aload_nN {q : Fin 4} (i : Nat) (hd : decode (yc Y) pc = .ok (.aload_n q, 1)) (hi : (q : Nat) = i) (hx : L[i]? = some (some .null)) (k : S0 X Y M (pc + 1) L (.null :: st) t) : S0 X Y M pc L st t := k.lift (fun C H locs cs ss Q ls hl w => lv_aload_nN C.1 C.2.1 hd hi (hl.2.2 i _ hx) w)
theorem s_aloadN {i : Nat} (hd : decode (yc Y) pc = .ok (.aload i, 2)) (hx : L[i]? = some (some .null)) (k : S0 X Y M (pc + 2) L (.null :: st) t) : S0 X Y M pc L st t := k.lift (fun C H locs cs ss Q ls hl w => lv_aloadN C.1 C.2.1 hd (hl.2.2 i _ hx) w)
theorem s_istore_n {q : Fin 4} (i : Nat) {x : Int32} (hd : decode (yc Y) pc = .ok (.istore_n q, 1)) (hi : (q : Nat) = i) (hn : i < yL Y) (hp : pnl L i = true) (hL : (L.set i (some (.int x))) = L') (k : S0 X Y M (pc + 1) L' st t) : S0 X Y M pc L (.int x :: st) t := k.liftL (fun C H locs cs ss Q ls hl w => lv_istore_n C.1 C.2.1 hd hi hl.lv hn rfl (fun ls' h' => w ls' (hL ▸ lhas_set1 h' hp)))
theorem s_istore {i : Nat} {x : Int32} (hd : decode (yc Y) pc = .ok (.istore i, 2)) (hn : i < yL Y) (hp : pnl L i = true) (hL : (L.set i (some (.int x))) = L') (k : S0 X Y M (pc + 2) L' st t) : S0 X Y M pc L (.int x :: st) t := k.liftL (fun C H locs cs ss Q ls hl w => lv_istore C.1 C.2.1 hd hl.lv hn rfl (fun ls' h' => w ls' (hL ▸ lhas_set1 h' hp)))
theorem s_lstore_n {q : Fin 4} (i : Nat) {x : Int64} (hd : decode (yc Y) pc = .ok (.lstore_n q, 1)) (hi : (q : Nat) = i) (hn : i + 1 < yL Y) (hp : pnl L i = true) (hL : ((L.set i (some (.long x))).set (i + 1) none) = L') (k : S0 X Y M (pc + 1) L' st t) : S0 X Y M pc L (.long x :: st) t := k.liftL (fun C H locs cs ss Q ls hl w => lv_lstore_n C.1 C.2.1 hd hi hl.lv hn rfl (fun ls' h' => w ls' (hL ▸ lhas_set2 h' hp)))
theorem s_lstore {i : Nat} {x : Int64} (hd : decode (yc Y) pc = .ok (.lstore i, 2)) (hn : i + 1 < yL Y) (hp : pnl L i = true) (hL : ((L.set i (some (.long x))).set (i + 1) none) = L') (k : S0 X Y M (pc + 2) L' st t) : S0 X Y M pc L (.long x :: st) t := k.liftL (fun C H locs cs ss Q ls hl w => lv_lstore C.1 C.2.1 hd hl.lv hn rfl (fun ls' h' => w ls' (hL ▸ lhas_set2 h' hp)))
theorem s_astore_n {q : Fin 4} (i : Nat) {x : Nat} (hd : decode (yc Y) pc = .ok (.astore_n q, 1)) (hi : (q : Nat) = i) (hn : i < yL Y) (hp : pnl L i = true) (hL : (L.set i (some (.ref x))) = L') (k : S0 X Y M (pc + 1) L' st t) : S0 X Y M pc L (.ref x :: st) t := k.liftL (fun C H locs cs ss Q ls hl w => lv_astore_n C.1 C.2.1 hd hi hl.lv hn rfl (fun ls' h' => w ls' (hL ▸ lhas_set1 h' hp)))
theorem s_astore {i : Nat} {x : Nat} (hd : decode (yc Y) pc = .ok (.astore i, 2)) (hn : i < yL Y) (hp : pnl L i = true) (hL : (L.set i (some (.ref x))) = L') (k : S0 X Y M (pc + 2) L' st t) : S0 X Y M pc L (.ref x :: st) t := k.liftL (fun C H locs cs ss Q ls hl w => lv_astore C.1 C.2.1 hd hl.lv hn rfl (fun ls' h' => w ls' (hL ▸ lhas_set1 h' hp)))
theorem s_astore_nN {q : Fin 4} (i : Nat) (hd : decode (yc Y) pc = .ok (.astore_n q, 1)) (hi : (q : Nat) = i) (hn : i < yL Y) (hp : pnl L i = true) (hL : (L.set i (some .null)) = L') (k : S0 X Y M (pc + 1) L' st t) : S0 X Y M pc L (.null :: st) t := k.liftL (fun C H locs cs ss Q ls hl w => lv_astore_nN C.1 C.2.1 hd hi hl.lv hn rfl (fun ls' h' => w ls' (hL ▸ lhas_set1 h' hp)))
theorem s_astoreN {i : Nat} (hd : decode (yc Y) pc = .ok (.astore i, 2)) (hn : i < yL Y) (hp : pnl L i = true) (hL : (L.set i (some .null)) = L') (k : S0 X Y M (pc + 2) L' st t) : S0 X Y M pc L (.null :: st) t := k.liftL (fun C H locs cs ss Q ls hl w => lv_astoreN C.1 C.2.1 hd hl.lv hn rfl (fun ls' h' => w ls' (hL ▸ lhas_set1 h' hp)))
/-- a value gets a name: what follows holds for every value -/
theorem s_bv {α β : Type} {F : β → Option (Mem × Option Value)} {v : α} {kk : α → Option β} (LL : α → List (Option Value)) (k : ∀ x : α, S0 X Y M pc (LL x) st (Option.bind (kk x) F)) (hL : LL v = L) : S0 X Y M pc L st (Option.bind (bv v kk) F) := by
  subst hL
  exact k v
theorem s_iinc {i : Nat} {n : Int} {x v : Int32} (hd : decode (yc Y) pc = .ok (.iinc i n, 3)) (hx : L[i]? = some (some (.int x))) (hv : x + Int32.ofInt n = v) (hn : i < yL Y) (hp : pnl L i = true) (hL : L.set i (some (.int v)) = L') (k : S0 X Y M (pc + 3) L' st t) : S0 X Y M pc L st t := k.liftL (fun C H locs cs ss Q ls hl w => by
  obtain ⟨j, hj⟩ := List.getElem?_of_mem (mem_lvs.mpr hx)
  exact lv_iinc C.1 C.2.1 hd hl.lv hj hv hn rfl (fun ls' h' => w ls' (hL ▸ lhas_set1 h' hp)))
/-! numbers -/
theorem s_iadd {x y : Int32} (hd : decode (yc Y) pc = .ok (.iadd, 1)) (k : S0 X Y M (pc + 1) L (.int (x + y) :: st) t) : S0 X Y M pc L (.int y :: .int x :: st) t := k.lift (fun C H locs cs ss Q ls hl w => lv_iadd C.1 C.2.1 hd w)
theorem s_isub {x y : Int32} (hd : decode (yc Y) pc = .ok (.isub, 1)) (k : S0 X Y M (pc + 1) L (.int (x - y) :: st) t) : S0 X Y M pc L (.int y :: .int x :: st) t := k.lift (fun C H locs cs ss Q ls hl w => lv_isub C.1 C.2.1 hd w)
theorem s_imul {x y : Int32} (hd : decode (yc Y) pc = .ok (.imul, 1)) (k : S0 X Y M (pc + 1) L (.int (x * y) :: st) t) : S0 X Y M pc L (.int y :: .int x :: st) t := k.lift (fun C H locs cs ss Q ls hl w => lv_imul C.1 C.2.1 hd w)
theorem s_iand {x y : Int32} (hd : decode (yc Y) pc = .ok (.iand, 1)) (k : S0 X Y M (pc + 1) L (.int (x &&& y) :: st) t) : S0 X Y M pc L (.int y :: .int x :: st) t := k.lift (fun C H locs cs ss Q ls hl w => lv_iand C.1 C.2.1 hd w)
theorem s_ior {x y : Int32} (hd : decode (yc Y) pc = .ok (.ior, 1)) (k : S0 X Y M (pc + 1) L (.int (x ||| y) :: st) t) : S0 X Y M pc L (.int y :: .int x :: st) t := k.lift (fun C H locs cs ss Q ls hl w => lv_ior C.1 C.2.1 hd w)
theorem s_ixor {x y : Int32} (hd : decode (yc Y) pc = .ok (.ixor, 1)) (k : S0 X Y M (pc + 1) L (.int (x ^^^ y) :: st) t) : S0 X Y M pc L (.int y :: .int x :: st) t := k.lift (fun C H locs cs ss Q ls hl w => lv_ixor C.1 C.2.1 hd w)
theorem s_ladd {x y : Int64} (hd : decode (yc Y) pc = .ok (.ladd, 1)) (k : S0 X Y M (pc + 1) L (.long (x + y) :: st) t) : S0 X Y M pc L (.long y :: .long x :: st) t := k.lift (fun C H locs cs ss Q ls hl w => lv_ladd C.1 C.2.1 hd w)
theorem s_lsub {x y : Int64} (hd : decode (yc Y) pc = .ok (.lsub, 1)) (k : S0 X Y M (pc + 1) L (.long (x - y) :: st) t) : S0 X Y M pc L (.long y :: .long x :: st) t := k.lift (fun C H locs cs ss Q ls hl w => lv_lsub C.1 C.2.1 hd w)
theorem s_lmul {x y : Int64} (hd : decode (yc Y) pc = .ok (.lmul, 1)) (k : S0 X Y M (pc + 1) L (.long (x * y) :: st) t) : S0 X Y M pc L (.long y :: .long x :: st) t := k.lift (fun C H locs cs ss Q ls hl w => lv_lmul C.1 C.2.1 hd w)
theorem s_land {x y : Int64} (hd : decode (yc Y) pc = .ok (.land, 1)) (k : S0 X Y M (pc + 1) L (.long (x &&& y) :: st) t) : S0 X Y M pc L (.long y :: .long x :: st) t := k.lift (fun C H locs cs ss Q ls hl w => lv_land C.1 C.2.1 hd w)
theorem s_lor {x y : Int64} (hd : decode (yc Y) pc = .ok (.lor, 1)) (k : S0 X Y M (pc + 1) L (.long (x ||| y) :: st) t) : S0 X Y M pc L (.long y :: .long x :: st) t := k.lift (fun C H locs cs ss Q ls hl w => lv_lor C.1 C.2.1 hd w)
theorem s_lxor {x y : Int64} (hd : decode (yc Y) pc = .ok (.lxor, 1)) (k : S0 X Y M (pc + 1) L (.long (x ^^^ y) :: st) t) : S0 X Y M pc L (.long y :: .long x :: st) t := k.lift (fun C H locs cs ss Q ls hl w => lv_lxor C.1 C.2.1 hd w)
theorem s_ishl {x y : Int32} (hd : decode (yc Y) pc = .ok (.ishl, 1)) (k : S0 X Y M (pc + 1) L (.int (sl x y) :: st) t) : S0 X Y M pc L (.int y :: .int x :: st) t := k.lift (fun C H locs cs ss Q ls hl w => lv_ishl C.1 C.2.1 hd w)
theorem s_ishr {x y : Int32} (hd : decode (yc Y) pc = .ok (.ishr, 1)) (k : S0 X Y M (pc + 1) L (.int (sr x y) :: st) t) : S0 X Y M pc L (.int y :: .int x :: st) t := k.lift (fun C H locs cs ss Q ls hl w => lv_ishr C.1 C.2.1 hd w)
theorem s_iushr {x y : Int32} (hd : decode (yc Y) pc = .ok (.iushr, 1)) (k : S0 X Y M (pc + 1) L (.int (ur x y) :: st) t) : S0 X Y M pc L (.int y :: .int x :: st) t := k.lift (fun C H locs cs ss Q ls hl w => lv_iushr C.1 C.2.1 hd rfl w)
theorem s_idiv {x y : Int32} (hd : decode (yc Y) pc = .ok (.idiv, 1)) (hne : ¬ y = 0) (k : S0 X Y M (pc + 1) L (.int (x / y) :: st) t) : S0 X Y M pc L (.int y :: .int x :: st) t := k.lift (fun C H locs cs ss Q ls hl w => lv_idiv C.1 C.2.1 hd hne w)
theorem s_irem {x y : Int32} (hd : decode (yc Y) pc = .ok (.irem, 1)) (hne : ¬ y = 0) (k : S0 X Y M (pc + 1) L (.int (ir x y) :: st) t) : S0 X Y M pc L (.int y :: .int x :: st) t := k.lift (fun C H locs cs ss Q ls hl w => lv_irem C.1 C.2.1 hd hne w)
theorem s_ldiv {x y : Int64} (hd : decode (yc Y) pc = .ok (.ldiv, 1)) (hne : ¬ y = 0) (k : S0 X Y M (pc + 1) L (.long (x / y) :: st) t) : S0 X Y M pc L (.long y :: .long x :: st) t := k.lift (fun C H locs cs ss Q ls hl w => lv_ldiv C.1 C.2.1 hd hne w)
theorem s_lrem {x y : Int64} (hd : decode (yc Y) pc = .ok (.lrem, 1)) (hne : ¬ y = 0) (k : S0 X Y M (pc + 1) L (.long (lr x y) :: st) t) : S0 X Y M pc L (.long y :: .long x :: st) t := k.lift (fun C H locs cs ss Q ls hl w => lv_lrem C.1 C.2.1 hd hne w)
theorem s_ineg {x : Int32} (hd : decode (yc Y) pc = .ok (.ineg, 1)) (k : S0 X Y M (pc + 1) L (.int (-x) :: st) t) : S0 X Y M pc L (.int x :: st) t := k.lift (fun C H locs cs ss Q ls hl w => lv_ineg C.1 C.2.1 hd w)
theorem s_i2l {x : Int32} (hd : decode (yc Y) pc = .ok (.i2l, 1)) (k : S0 X Y M (pc + 1) L (.long x.toInt64 :: st) t) : S0 X Y M pc L (.int x :: st) t := k.lift (fun C H locs cs ss Q ls hl w => lv_i2l C.1 C.2.1 hd rfl w)
theorem s_l2i {x : Int64} (hd : decode (yc Y) pc = .ok (.l2i, 1)) (k : S0 X Y M (pc + 1) L (.int x.toInt32 :: st) t) : S0 X Y M pc L (.long x :: st) t := k.lift (fun C H locs cs ss Q ls hl w => lv_l2i C.1 C.2.1 hd rfl w)
theorem s_i2b {x : Int32} (hd : decode (yc Y) pc = .ok (.i2b, 1)) (k : S0 X Y M (pc + 1) L (.int (nb x) :: st) t) : S0 X Y M pc L (.int x :: st) t := k.lift (fun C H locs cs ss Q ls hl w => lv_i2b C.1 C.2.1 hd rfl w)
theorem s_i2s {x : Int32} (hd : decode (yc Y) pc = .ok (.i2s, 1)) (k : S0 X Y M (pc + 1) L (.int (ns x) :: st) t) : S0 X Y M pc L (.int x :: st) t := k.lift (fun C H locs cs ss Q ls hl w => lv_i2s C.1 C.2.1 hd rfl w)
theorem s_lcmp {x y : Int64} (hd : decode (yc Y) pc = .ok (.lcmp, 1)) (k : S0 X Y M (pc + 1) L (.int (lg_cmp x y) :: st) t) : S0 X Y M pc L (.long y :: .long x :: st) t := k.lift (fun C H locs cs ss Q ls hl w => W.lcmp C.1 C.2.1 hd w)
/-! the stack -/
theorem s_dup {va : Value} (hd : decode (yc Y) pc = .ok (.dup, 1)) (ha : va.category = 1) (k : S0 X Y M (pc + 1) L (va :: va :: st) t) : S0 X Y M pc L (va :: st) t := k.lift (fun C H locs cs ss Q ls hl w => lv_dup C.1 C.2.1 hd ha w)
theorem s_pop {va : Value} (hd : decode (yc Y) pc = .ok (.pop, 1)) (ha : va.category = 1) (k : S0 X Y M (pc + 1) L st t) : S0 X Y M pc L (va :: st) t := k.lift (fun C H locs cs ss Q ls hl w => lv_pop C.1 C.2.1 hd ha w)
theorem s_dup_x1 {va vb : Value} (hd : decode (yc Y) pc = .ok (.dup_x1, 1)) (ha : va.category = 1) (hb : vb.category = 1) (k : S0 X Y M (pc + 1) L (va :: vb :: va :: st) t) : S0 X Y M pc L (va :: vb :: st) t := k.lift (fun C H locs cs ss Q ls hl w => lv_dup_x1 C.1 C.2.1 hd ha hb w)
theorem s_dup2 {va vb : Value} (hd : decode (yc Y) pc = .ok (.dup2, 1)) (ha : va.category = 1) (hb : vb.category = 1) (k : S0 X Y M (pc + 1) L (va :: vb :: va :: vb :: st) t) : S0 X Y M pc L (va :: vb :: st) t := k.lift (fun C H locs cs ss Q ls hl w => lv_dup2_11 C.1 C.2.1 hd ha hb w)
theorem s_dup_x2 {va vb vc : Value} (hd : decode (yc Y) pc = .ok (.dup_x2, 1)) (ha : va.category = 1) (hb : vb.category = 1) (hc : vc.category = 1) (k : S0 X Y M (pc + 1) L (va :: vb :: vc :: va :: st) t) : S0 X Y M pc L (va :: vb :: vc :: st) t := k.lift (fun C H locs cs ss Q ls hl w => lv_dup_x2 C.1 C.2.1 hd ha hb hc w)
/-! branches -/
theorem s_goto {off : Int} (tgt : Nat) (hd : decode (yc Y) pc = .ok (.goto off, 3)) (ht : (pc : Int) + off = (tgt : Int)) (k : S0 X Y M tgt L st t) : S0 X Y M pc L st t := k.lift (fun C H locs cs ss Q ls hl w => lv_goto C.1 C.2.1 hd ht w)
theorem s_ifeq {α : Type} {F : α → Option (Mem × Option Value)} {x : Int32} {off : Int} {a b : Option α} (tgt : Nat) (hd : decode (yc Y) pc = .ok (.ifCond .eq off, 3)) (ht : (pc : Int) + off = (tgt : Int)) (ka : S0 X Y M tgt L st (Option.bind a F)) (kb : S0 X Y M (pc + 3) L st (Option.bind b F)) : S0 X Y M pc L (.int x :: st) (Option.bind (if x = 0 then a else b) F) := by
  intro M' r e
  by_cases h : x = 0
  · rw [if_pos h] at e
    exact ⟨(ka M' r e).1, fun C b1 b2 H locs ls g1 g2 g3 g4 => lv_if_eq C.1 C.2.1 hd ht (fun _ => (ka M' r e).2 C b1 b2 H locs ls g1 g2 g3 g4) (fun h' => absurd h h')⟩
  · rw [if_neg h] at e
    exact ⟨(kb M' r e).1, fun C b1 b2 H locs ls g1 g2 g3 g4 => lv_if_eq C.1 C.2.1 hd ht (fun h' => absurd h' h) (fun _ => (kb M' r e).2 C b1 b2 H locs ls g1 g2 g3 g4)⟩
theorem s_ifne {α : Type} {F : α → Option (Mem × Option Value)} {x : Int32} {off : Int} {a b : Option α} (tgt : Nat) (hd : decode (yc Y) pc = .ok (.ifCond .ne off, 3)) (ht : (pc : Int) + off = (tgt : Int)) (ka : S0 X Y M tgt L st (Option.bind a F)) (kb : S0 X Y M (pc + 3) L st (Option.bind b F)) : S0 X Y M pc L (.int x :: st) (Option.bind (if x = 0 then b else a) F) := by
  intro M' r e
  by_cases h : x = 0
  · rw [if_pos h] at e
    exact ⟨(kb M' r e).1, fun C b1 b2 H locs ls g1 g2 g3 g4 => lv_if_ne C.1 C.2.1 hd ht (fun h' => absurd h h') (fun _ => (kb M' r e).2 C b1 b2 H locs ls g1 g2 g3 g4)⟩
  · rw [if_neg h] at e
    exact ⟨(ka M' r e).1, fun C b1 b2 H locs ls g1 g2 g3 g4 => lv_if_ne C.1 C.2.1 hd ht (fun _ => (ka M' r e).2 C b1 b2 H locs ls g1 g2 g3 g4) (fun h' => absurd h' h)⟩
theorem s_iflt {α : Type} {F : α → Option (Mem × Option Value)} {x : Int32} {off : Int} {a b : Option α} (tgt : Nat) (hd : decode (yc Y) pc = .ok (.ifCond .lt off, 3)) (ht : (pc : Int) + off = (tgt : Int)) (ka : S0 X Y M tgt L st (Option.bind a F)) (kb : S0 X Y M (pc + 3) L st (Option.bind b F)) : S0 X Y M pc L (.int x :: st) (Option.bind (if x < 0 then a else b) F) := by
  intro M' r e
  by_cases h : x < 0
  · rw [if_pos h] at e
    exact ⟨(ka M' r e).1, fun C b1 b2 H locs ls g1 g2 g3 g4 => lv_if_lt C.1 C.2.1 hd ht (fun _ => (ka M' r e).2 C b1 b2 H locs ls g1 g2 g3 g4) (fun h' => absurd h h')⟩
  · rw [if_neg h] at e
    exact ⟨(kb M' r e).1, fun C b1 b2 H locs ls g1 g2 g3 g4 => lv_if_lt C.1 C.2.1 hd ht (fun h' => absurd h' h) (fun _ => (kb M' r e).2 C b1 b2 H locs ls g1 g2 g3 g4)⟩
theorem s_ifge {α : Type} {F : α → Option (Mem × Option Value)} {x : Int32} {off : Int} {a b : Option α} (tgt : Nat) (hd : decode (yc Y) pc = .ok (.ifCond .ge off, 3)) (ht : (pc : Int) + off = (tgt : Int)) (ka : S0 X Y M tgt L st (Option.bind a F)) (kb : S0 X Y M (pc + 3) L st (Option.bind b F)) : S0 X Y M pc L (.int x :: st) (Option.bind (if 0 ≤ x then a else b) F) := by
  intro M' r e
  by_cases h : 0 ≤ x
  · rw [if_pos h] at e
    exact ⟨(ka M' r e).1, fun C b1 b2 H locs ls g1 g2 g3 g4 => lv_if_ge C.1 C.2.1 hd ht (fun _ => (ka M' r e).2 C b1 b2 H locs ls g1 g2 g3 g4) (fun h' => absurd h h')⟩
  · rw [if_neg h] at e
    exact ⟨(kb M' r e).1, fun C b1 b2 H locs ls g1 g2 g3 g4 => lv_if_ge C.1 C.2.1 hd ht (fun h' => absurd h' h) (fun _ => (kb M' r e).2 C b1 b2 H locs ls g1 g2 g3 g4)⟩
theorem s_ifgt {α : Type} {F : α → Option (Mem × Option Value)} {x : Int32} {off : Int} {a b : Option α} (tgt : Nat) (hd : decode (yc Y) pc = .ok (.ifCond .gt off, 3)) (ht : (pc : Int) + off = (tgt : Int)) (ka : S0 X Y M tgt L st (Option.bind a F)) (kb : S0 X Y M (pc + 3) L st (Option.bind b F)) : S0 X Y M pc L (.int x :: st) (Option.bind (if 0 < x then a else b) F) := by
  intro M' r e
  by_cases h : 0 < x
  · rw [if_pos h] at e
    exact ⟨(ka M' r e).1, fun C b1 b2 H locs ls g1 g2 g3 g4 => lv_if_gt C.1 C.2.1 hd ht (fun _ => (ka M' r e).2 C b1 b2 H locs ls g1 g2 g3 g4) (fun h' => absurd h h')⟩
  · rw [if_neg h] at e
    exact ⟨(kb M' r e).1, fun C b1 b2 H locs ls g1 g2 g3 g4 => lv_if_gt C.1 C.2.1 hd ht (fun h' => absurd h' h) (fun _ => (kb M' r e).2 C b1 b2 H locs ls g1 g2 g3 g4)⟩
theorem s_ifle {α : Type} {F : α → Option (Mem × Option Value)} {x : Int32} {off : Int} {a b : Option α} (tgt : Nat) (hd : decode (yc Y) pc = .ok (.ifCond .le off, 3)) (ht : (pc : Int) + off = (tgt : Int)) (ka : S0 X Y M tgt L st (Option.bind a F)) (kb : S0 X Y M (pc + 3) L st (Option.bind b F)) : S0 X Y M pc L (.int x :: st) (Option.bind (if x ≤ 0 then a else b) F) := by
  intro M' r e
  by_cases h : x ≤ 0
  · rw [if_pos h] at e
    exact ⟨(ka M' r e).1, fun C b1 b2 H locs ls g1 g2 g3 g4 => lv_if_le C.1 C.2.1 hd ht (fun _ => (ka M' r e).2 C b1 b2 H locs ls g1 g2 g3 g4) (fun h' => absurd h h')⟩
  · rw [if_neg h] at e
    exact ⟨(kb M' r e).1, fun C b1 b2 H locs ls g1 g2 g3 g4 => lv_if_le C.1 C.2.1 hd ht (fun h' => absurd h' h) (fun _ => (kb M' r e).2 C b1 b2 H locs ls g1 g2 g3 g4)⟩
theorem s_iceq {α : Type} {F : α → Option (Mem × Option Value)} {x y : Int32} {off : Int} {a b : Option α} (tgt : Nat) (hd : decode (yc Y) pc = .ok (.if_icmp .eq off, 3)) (ht : (pc : Int) + off = (tgt : Int)) (ka : S0 X Y M tgt L st (Option.bind a F)) (kb : S0 X Y M (pc + 3) L st (Option.bind b F)) : S0 X Y M pc L (.int y :: .int x :: st) (Option.bind (if x = y then a else b) F) := by
  intro M' r e
  by_cases h : x = y
  · rw [if_pos h] at e
    exact ⟨(ka M' r e).1, fun C b1 b2 H locs ls g1 g2 g3 g4 => lv_icmp_eq C.1 C.2.1 hd ht (fun _ => (ka M' r e).2 C b1 b2 H locs ls g1 g2 g3 g4) (fun h' => absurd h h')⟩
  · rw [if_neg h] at e
    exact ⟨(kb M' r e).1, fun C b1 b2 H locs ls g1 g2 g3 g4 => lv_icmp_eq C.1 C.2.1 hd ht (fun h' => absurd h' h) (fun _ => (kb M' r e).2 C b1 b2 H locs ls g1 g2 g3 g4)⟩
theorem s_icne {α : Type} {F : α → Option (Mem × Option Value)} {x y : Int32} {off : Int} {a b : Option α} (tgt : Nat) (hd : decode (yc Y) pc = .ok (.if_icmp .ne off, 3)) (ht : (pc : Int) + off = (tgt : Int)) (ka : S0 X Y M tgt L st (Option.bind a F)) (kb : S0 X Y M (pc + 3) L st (Option.bind b F)) : S0 X Y M pc L (.int y :: .int x :: st) (Option.bind (if x = y then b else a) F) := by
  intro M' r e
  by_cases h : x = y
  · rw [if_pos h] at e
    exact ⟨(kb M' r e).1, fun C b1 b2 H locs ls g1 g2 g3 g4 => lv_icmp_ne C.1 C.2.1 hd ht (fun h' => absurd h h') (fun _ => (kb M' r e).2 C b1 b2 H locs ls g1 g2 g3 g4)⟩
  · rw [if_neg h] at e
    exact ⟨(ka M' r e).1, fun C b1 b2 H locs ls g1 g2 g3 g4 => lv_icmp_ne C.1 C.2.1 hd ht (fun _ => (ka M' r e).2 C b1 b2 H locs ls g1 g2 g3 g4) (fun h' => absurd h' h)⟩
theorem s_iclt {α : Type} {F : α → Option (Mem × Option Value)} {x y : Int32} {off : Int} {a b : Option α} (tgt : Nat) (hd : decode (yc Y) pc = .ok (.if_icmp .lt off, 3)) (ht : (pc : Int) + off = (tgt : Int)) (ka : S0 X Y M tgt L st (Option.bind a F)) (kb : S0 X Y M (pc + 3) L st (Option.bind b F)) : S0 X Y M pc L (.int y :: .int x :: st) (Option.bind (if x < y then a else b) F) := by
  intro M' r e
  by_cases h : x < y
  · rw [if_pos h] at e
    exact ⟨(ka M' r e).1, fun C b1 b2 H locs ls g1 g2 g3 g4 => lv_icmp_lt C.1 C.2.1 hd ht (fun _ => (ka M' r e).2 C b1 b2 H locs ls g1 g2 g3 g4) (fun h' => absurd h h')⟩
  · rw [if_neg h] at e
    exact ⟨(kb M' r e).1, fun C b1 b2 H locs ls g1 g2 g3 g4 => lv_icmp_lt C.1 C.2.1 hd ht (fun h' => absurd h' h) (fun _ => (kb M' r e).2 C b1 b2 H locs ls g1 g2 g3 g4)⟩
theorem s_icge {α : Type} {F : α → Option (Mem × Option Value)} {x y : Int32} {off : Int} {a b : Option α} (tgt : Nat) (hd : decode (yc Y) pc = .ok (.if_icmp .ge off, 3)) (ht : (pc : Int) + off = (tgt : Int)) (ka : S0 X Y M tgt L st (Option.bind a F)) (kb : S0 X Y M (pc + 3) L st (Option.bind b F)) : S0 X Y M pc L (.int y :: .int x :: st) (Option.bind (if y ≤ x then a else b) F) := by
  intro M' r e
  by_cases h : y ≤ x
  · rw [if_pos h] at e
    exact ⟨(ka M' r e).1, fun C b1 b2 H locs ls g1 g2 g3 g4 => lv_icmp_ge C.1 C.2.1 hd ht (fun _ => (ka M' r e).2 C b1 b2 H locs ls g1 g2 g3 g4) (fun h' => absurd h h')⟩
  · rw [if_neg h] at e
    exact ⟨(kb M' r e).1, fun C b1 b2 H locs ls g1 g2 g3 g4 => lv_icmp_ge C.1 C.2.1 hd ht (fun h' => absurd h' h) (fun _ => (kb M' r e).2 C b1 b2 H locs ls g1 g2 g3 g4)⟩
theorem s_icgt {α : Type} {F : α → Option (Mem × Option Value)} {x y : Int32} {off : Int} {a b : Option α} (tgt : Nat) (hd : decode (yc Y) pc = .ok (.if_icmp .gt off, 3)) (ht : (pc : Int) + off = (tgt : Int)) (ka : S0 X Y M tgt L st (Option.bind a F)) (kb : S0 X Y M (pc + 3) L st (Option.bind b F)) : S0 X Y M pc L (.int y :: .int x :: st) (Option.bind (if y < x then a else b) F) := by
  intro M' r e
  by_cases h : y < x
  · rw [if_pos h] at e
    exact ⟨(ka M' r e).1, fun C b1 b2 H locs ls g1 g2 g3 g4 => lv_icmp_gt C.1 C.2.1 hd ht (fun _ => (ka M' r e).2 C b1 b2 H locs ls g1 g2 g3 g4) (fun h' => absurd h h')⟩
  · rw [if_neg h] at e
    exact ⟨(kb M' r e).1, fun C b1 b2 H locs ls g1 g2 g3 g4 => lv_icmp_gt C.1 C.2.1 hd ht (fun h' => absurd h' h) (fun _ => (kb M' r e).2 C b1 b2 H locs ls g1 g2 g3 g4)⟩
theorem s_icle {α : Type} {F : α → Option (Mem × Option Value)} {x y : Int32} {off : Int} {a b : Option α} (tgt : Nat) (hd : decode (yc Y) pc = .ok (.if_icmp .le off, 3)) (ht : (pc : Int) + off = (tgt : Int)) (ka : S0 X Y M tgt L st (Option.bind a F)) (kb : S0 X Y M (pc + 3) L st (Option.bind b F)) : S0 X Y M pc L (.int y :: .int x :: st) (Option.bind (if x ≤ y then a else b) F) := by
  intro M' r e
  by_cases h : x ≤ y
  · rw [if_pos h] at e
    exact ⟨(ka M' r e).1, fun C b1 b2 H locs ls g1 g2 g3 g4 => lv_icmp_le C.1 C.2.1 hd ht (fun _ => (ka M' r e).2 C b1 b2 H locs ls g1 g2 g3 g4) (fun h' => absurd h h')⟩
  · rw [if_neg h] at e
    exact ⟨(kb M' r e).1, fun C b1 b2 H locs ls g1 g2 g3 g4 => lv_icmp_le C.1 C.2.1 hd ht (fun h' => absurd h' h) (fun _ => (kb M' r e).2 C b1 b2 H locs ls g1 g2 g3 g4)⟩
theorem s_nullT {off : Int} (tgt : Nat) (hd : decode (yc Y) pc = .ok (.ifnull off, 3)) (ht : (pc : Int) + off = (tgt : Int)) (k : S0 X Y M tgt L st t) : S0 X Y M pc L (.null :: st) t := k.lift (fun C H locs cs ss Q ls hl w => lv_ifnullN C.1 C.2.1 hd ht w)
theorem s_nullF {off : Int} {x : Nat} (hd : decode (yc Y) pc = .ok (.ifnull off, 3)) (k : S0 X Y M (pc + 3) L st t) : S0 X Y M pc L (.ref x :: st) t := k.lift (fun C H locs cs ss Q ls hl w => lv_ifnull C.1 C.2.1 hd w)
theorem s_nonnullT {off : Int} {x : Nat} (tgt : Nat) (hd : decode (yc Y) pc = .ok (.ifnonnull off, 3)) (ht : (pc : Int) + off = (tgt : Int)) (k : S0 X Y M tgt L st t) : S0 X Y M pc L (.ref x :: st) t := k.lift (fun C H locs cs ss Q ls hl w => lv_ifnonnull C.1 C.2.1 hd ht w)
theorem s_nonnullF {off : Int} (hd : decode (yc Y) pc = .ok (.ifnonnull off, 3)) (k : S0 X Y M (pc + 3) L st t) : S0 X Y M pc L (.null :: st) t := k.lift (fun C H locs cs ss Q ls hl w => lv_ifnonnullN C.1 C.2.1 hd w)
/-- a switch over a row of numbers: the targets and what each of them tells -/
def swS {α : Type} (X : Ctx) (Y : Sta) (M : Mem) (L : List (Option Value)) (st : List Value) (F : α → Option (Mem × Option Value)) : List (Nat × Option α) → Prop
  | [] => True
  | q :: l => S0 X Y M q.1 L st (Option.bind q.2 F) ∧ swS X Y M L st F l
theorem swS_at {α : Type} {F : α → Option (Mem × Option Value)} : ∀ (l : List (Nat × Option α)), swS X Y M L st F l → ∀ (i : Nat) (q : Nat × Option α), l[i]? = some q → S0 X Y M q.1 L st (Option.bind q.2 F)
  | [], _, i, q, h => by simp at h
  | a :: l, hs, i, q, h => by
    cases i with
    | zero => rw [List.getElem?_cons_zero] at h; cases h; exact hs.1
    | succ i => rw [List.getElem?_cons_succ] at h; exact swS_at l hs.2 i q h
/-- the cases of a table from lo on -/
def swC {α : Type} : Int → List (Nat × Option α) → List (Int32 × Option α)
  | _, [] => []
  | n, q :: l => (Int32.ofInt n, q.2) :: swC (n + 1) l
theorem swC_out {α : Type} {x : Int32} {d : Option α} : ∀ (l : List (Nat × Option α)) (n : Int), -2147483648 ≤ n → n + l.length ≤ 2147483648 → (x.toInt < n ∨ n + l.length ≤ x.toInt) → swO x (swC n l) d = d
  | [], n, _, _, _ => rfl
  | q :: l, n, h1, h2, h => by
    simp only [List.length_cons] at h2 h
    have hn : (Int32.ofInt n).toInt = n := Int32.toInt_ofInt_of_le (by show -2147483648 ≤ n; omega) (by show n < 2147483648; omega)
    rw [swC, swO, if_neg (fun e => by rw [e, hn] at h; omega)]
    exact swC_out l (n + 1) (by omega) (by omega) (by omega)
theorem swC_in {α : Type} {x : Int32} {d : Option α} : ∀ (l : List (Nat × Option α)) (n : Int) (i : Nat) (q : Nat × Option α), -2147483648 ≤ n → n + l.length ≤ 2147483648 → l[i]? = some q → x.toInt = n + i → swO x (swC n l) d = q.2
  | [], n, i, q, _, _, h, _ => by simp at h
  | a :: l, n, i, q, h1, h2, h, hx => by
    simp only [List.length_cons] at h2
    have hn : (Int32.ofInt n).toInt = n := Int32.toInt_ofInt_of_le (by show -2147483648 ≤ n; omega) (by show n < 2147483648; omega)
    cases i with
    | zero =>
      rw [List.getElem?_cons_zero] at h
      cases h
      rw [swC, swO, if_pos (Int32.toInt_inj.mp (by rw [hn, hx]; simp))]
    | succ i =>
      rw [List.getElem?_cons_succ] at h
      rw [swC, swO, if_neg (fun e => by rw [e, hn] at hx; simp at hx; omega)]
      exact swC_in l (n + 1) i q (by omega) (by omega) h (by rw [hx]; simp; omega)
theorem s_tsw {α : Type} {F : α → Option (Mem × Option Value)} {x : Int32} {dflt lo hi : Int} {offs : Array Int} {len : Nat} {d : Option α} (l : List (Nat × Option α)) (dt : Nat) (hd : decode (yc Y) pc = .ok (.tableswitch dflt lo hi offs, len)) (ho : offs.toList.map (fun o => (pc : Int) + o) = l.map (fun q => (q.1 : Int))) (hdt : (pc : Int) + dflt = (dt : Int)) (hb : -2147483648 ≤ lo ∧ lo + l.length ≤ 2147483648 ∧ hi = lo + l.length - 1)
    (hs : swS X Y M L st F l) (k : S0 X Y M dt L st (Option.bind d F)) : S0 X Y M pc L (.int x :: st) (Option.bind (swO x (swC lo l) d) F) := by
  intro M' r e
  have hlen : offs.toList.length = l.length := by
    have := congrArg List.length ho
    simpa using this
  by_cases h : x.toInt < lo ∨ lo + l.length ≤ x.toInt
  · rw [swC_out l lo hb.1 hb.2.1 h] at e
    exact ⟨(k M' r e).1, fun C b1 b2 H locs ls g1 g2 g3 g4 => lv_tableOut C.1 C.2.1 hd (by rw [hb.2.2]; rcases h with h | h <;> omega) hdt ((k M' r e).2 C b1 b2 H locs ls g1 g2 g3 g4)⟩
  · have hi2 : (x.toInt - lo).toNat < l.length := by omega
    have hq : l[(x.toInt - lo).toNat]? = some (l[(x.toInt - lo).toNat]) := List.getElem?_eq_getElem hi2
    rw [swC_in l lo (x.toInt - lo).toNat _ hb.1 hb.2.1 hq (by omega)] at e
    have hk := swS_at l hs _ _ hq
    have hof : offs[(x.toInt - lo).toNat]? = some (offs.toList[(x.toInt - lo).toNat]'(by omega)) := by
      rw [← Array.getElem?_toList]
      exact List.getElem?_eq_getElem (by omega)
    have htg : (pc : Int) + (offs.toList[(x.toInt - lo).toNat]'(by omega)) = ((l[(x.toInt - lo).toNat]).1 : Int) := by
      have h1 : (offs.toList.map (fun o => (pc : Int) + o))[(x.toInt - lo).toNat]? = (l.map (fun q => (q.1 : Int)))[(x.toInt - lo).toNat]? := by rw [ho]
      rw [List.getElem?_map, List.getElem?_map, hq, List.getElem?_eq_getElem (by omega)] at h1
      simpa using h1
    exact ⟨(hk M' r e).1, fun C b1 b2 H locs ls g1 g2 g3 g4 => lv_tableIn C.1 C.2.1 hd (by omega) (by rw [hb.2.2]; omega) hof htg ((hk M' r e).2 C b1 b2 H locs ls g1 g2 g3 g4)⟩
/-! guards, cases, loops -/
theorem s_grd {α : Type} {F : α → Option (Mem × Option Value)} {c : Prop} {a : Option α} (k : c → S0 X Y M pc L st (Option.bind a F)) : S0 X Y M pc L st (Option.bind (grd c a) F) := by
  intro M' r e
  by_cases h : c
  · rw [grd_t h] at e
    exact k h M' r e
  · rw [show grd c a = none from if_neg h] at e
    cases e
theorem s_loop {σ ρ α : Type} {b : σ → Option (σ ⊕ ρ)} {rest : ρ → Option α} {F : α → Option (Mem × Option Value)} (M0 : Mem) (mm : σ → Mem) (LL : σ → List (Option Value)) (hb : ∀ T : σ → Option (Mem × Option Value), (∀ s, Le M0 (mm s) → S0 X Y (mm s) pc (LL s) [] (T s)) → ∀ s, Le M0 (mm s) → S0 X Y (mm s) pc (LL s) [] (Option.bind (b s) (fun q => q.elim T (fun x => Option.bind (rest x) F)))) (s : σ) (hs : Le M0 (mm s)) : S0 X Y (mm s) pc (LL s) [] (Option.bind (Option.bind (loopO b s) rest) F) := by
  have key : ∀ n s, Le M0 (mm s) → S0 X Y (mm s) pc (LL s) [] (Option.bind (itO b n s) (fun x => Option.bind (rest x) F)) := by
    intro n
    induction n with
    | zero => intro s _ M' r e; cases e
    | succ n ih =>
      intro s hs M' r e
      refine hb (fun s => Option.bind (itO b n s) (fun x => Option.bind (rest x) F)) ih s hs M' r ?_
      rw [itO] at e
      cases hq : b s with
      | none => rw [hq] at e; cases e
      | some q =>
        rw [hq] at e
        cases q with
        | inl s' => exact e
        | inr x => exact e
  intro M' r e
  cases hl : loopO b s with
  | none => rw [hl] at e; cases e
  | some x =>
    rw [hl] at e
    obtain ⟨n, hn⟩ := loopO_some.mp hl
    exact key n s hs M' r (by rw [hn]; exact e)
end
