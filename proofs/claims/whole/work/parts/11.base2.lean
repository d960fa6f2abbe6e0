/-! WHAT STANDS OUTSIDE: two static rows, private members of nest mates, a text -/
def pwV : Nat → Int32
  | 0 => 1
  | 1 => 6
  | 2 => 36
  | 3 => 216
  | 4 => 1296
  | _ => 7776
def stV : Nat → Int32
  | 0 => 0
  | 1 => 1
  | 2 => 7
  | 3 => 43
  | 4 => 259
  | 5 => 1555
  | _ => 9331
def nwF : List (String × Nat × String × String × String) := [(RX8, 59, RX10, "sweet", "[I"), (RX8, 53, RX10, "got", "[I"), (RX2, 42, RX10, "standIn", "[I"), (RX1, 55, RX10, "standIn", "[I"), (RX11, 149, RX10, "mother", "[I"), (RX11, 122, RX10, "since", "[I"), (RX4, 79, RX10, "dish", "[I"), (RX11, 143, RX10, "dish", "[I"), (RX4, 76, RX10, "houses", "I"), (RX11, 136, RX10, "houses", "I"), (RX11, 189, RX10, "lawCount", "I"), (RX11, 227, RX10, "inForce", "I"), (RX0, 40, RX10, "year", "I"), (RX4, 82, RX10, "year", "I"), (RX11, 161, RX10, "year", "I"), (RX8, 62, RX10, "mood", "I"), (RX11, 167, RX10, "mood", "I"), (RX2, 36, RX10, "rules", "I"), (RX8, 43, RX10, "rules", "I"), (RX0, 46, RX10, "rules", "I"), (RX4, 63, RX10, "stamp", "I"), (RX11, 296, RX10, "stamp", "I"), (RX6, 19, RX11, "POWER", "[I"), (RX6, 22, RX11, "START", "[I"), (RX2, 94, RX11, "START", "[I")]
def nwM : List (String × Nat × MethodName) := [(RX11, 9, yX10_init), (RX11, 22, yX7_init), (RX11, 29, yX3_init), (RX8, 11, yX3_init), (RX1, 11, yX6_init), (RX11, 61, yX5_init), (RX7, 173, yX11_isThing), (RX10, 96, yX11_isThing)]
def txW : String := "weighs bars born times if or and not at out in swap double stand sort thing place long has sweet year mood years houses done last"
def txB : List Int32 := [119, 101, 105, 103, 104, 115, 32, 98, 97, 114, 115, 32, 98, 111, 114, 110, 32, 116, 105, 109, 101, 115, 32, 105, 102, 32, 111, 114, 32, 97, 110, 100, 32, 110, 111, 116, 32, 97, 116, 32, 111, 117, 116, 32, 105, 110, 32, 115, 119, 97, 112, 32, 100, 111, 117, 98, 108, 101, 32, 115, 116, 97, 110, 100, 32, 115, 111, 114, 116, 32, 116, 104, 105, 110, 103, 32, 112, 108, 97, 99, 101, 32, 108, 111, 110, 103, 32, 104, 97, 115, 32, 115, 119, 101, 101, 116, 32, 121, 101, 97, 114, 32, 109, 111, 111, 100, 32, 121, 101, 97, 114, 115, 32, 104, 111, 117, 115, 101, 115, 32, 100, 111, 110, 101, 32, 108, 97, 115, 116]
abbrev AA (G : Gh) : Nat → Prop := fun q => gh G ≤ q
def SF (G : Gh) (U : State) (H : Heap) : Prop :=
  (va_Z RX11 "POWER" "[I" (.ref (ga G 0)) (AA G) U H ∧ va_T .int (ga G 0) 6 (fun j => .int (pwV j)) (AA G) U H) ∧
  (va_Z RX11 "START" "[I" (.ref (ga G 1)) (AA G) U H ∧ va_T .int (ga G 1) 7 (fun j => .int (stV j)) (AA G) U H) ∧
  (∀ q ∈ nwF, va_Nw (.fieldLinkNest q.1 q.2.1 q.2.2.1 q.2.2.2.1 q.2.2.2.2 RX11) U) ∧ (∀ q ∈ nwM, va_Nw (.methodLinkNest q.1 q.2.1 q.2.2 RX11) U) ∧ (va_AO RX2 U ∧ va_AO RX9 U ∧ va_AO RX10 U) ∧
  (vk_R RX7 98 txW (ga G 2) U ∧ vk_S 1 [129] [txB] (fun _ => ga G 2) (fun _ => ga G 3) (AA G) U H ∧ va_Z RJ0 "COMPACT_STRINGS" "Z" (.int 1) (AA G) U H ∧ ∃ v : Value, (v = .null ∨ ∃ b, v = .ref b) ∧ va_Z RJ3 "SIOOBE_FORMATTER" "Ljava/util/function/BiFunction;" v (AA G) U H)
theorem SF.warm {G : Gh} {s U : State} {H : Heap} (hW : s.WarmedH U.vm) (h : SF G s H) : SF G U H := by
  obtain ⟨⟨a1, a2⟩, ⟨b1, b2⟩, c1, c2, ⟨e1, e2, e3⟩, d1, d2, d3, v4, f4, d4⟩ := h
  exact ⟨⟨va_Z.moved hW.alike a1, va_T.moved hW.alike a2⟩, ⟨va_Z.moved hW.alike b1, va_T.moved hW.alike b2⟩, fun q hq => va_Nw.warmF hW (c1 q hq), fun q hq => va_Nw.warmM hW (c2 q hq), ⟨va_AO.moved hW.alike e1, va_AO.moved hW.alike e2, va_AO.moved hW.alike e3⟩, vk_R.warm hW d1, vk_S.moved hW.alike d2, va_Z.moved hW.alike d3, v4, f4, va_Z.moved hW.alike d4⟩
theorem SF.kept {G : Gh} {U : State} {H H1 : Heap} (h : SF G U H) (hq : ∀ a : Nat, a < H.size → ¬ AA G a → H1[a]? = H[a]?) : SF G U H1 := by
  obtain ⟨⟨a1, a2⟩, ⟨b1, b2⟩, c1, c2, e, d1, d2, d3, v4, f4, d4⟩ := h
  exact ⟨⟨a1.kept hq, a2.kept hq⟩, ⟨b1.kept hq, b2.kept hq⟩, c1, c2, e, d1, d2.kept hq, d3.kept hq, v4, f4, d4.kept hq⟩
theorem SF.same {G : Gh} {u U : State} {H : Heap} (hv : u.vm = U.vm) (h : SF G u H) : SF G U H := by
  obtain ⟨⟨a1, a2⟩, ⟨b1, b2⟩, c1, c2, ⟨e1, e2, e3⟩, d1, d2, d3, v4, f4, d4⟩ := h
  have ha : u.vm.Alike U.vm := by rw [hv]; exact Vm.Alike.refl _
  exact ⟨⟨va_Z.moved ha a1, va_T.moved ha a2⟩, ⟨va_Z.moved ha b1, va_T.moved ha b2⟩, fun q hq => va_Nw.same rfl hv (c1 q hq), fun q hq => va_Nw.same rfl hv (c2 q hq), ⟨va_AO.moved ha e1, va_AO.moved ha e2, va_AO.moved ha e3⟩, vk_R.same hv.symm d1, vk_S.moved ha d2, va_Z.moved ha d3, v4, f4, va_Z.moved ha d4⟩
/-! CONTRACTS -/
def lw_good : List Cond := lw_tbl.filter goodWord
theorem mem_good {i : Nat} {w : Cond} (h : tables_1[i]? = some w) (hg : goodWord w = true) : w ∈ lw_good := List.mem_filter.mpr ⟨List.mem_append_right _ (List.mem_of_getElem? h), hg⟩
theorem mem_sel {i : Nat} {q : MethodName × Nat} (h : lw_privs[i]? = some q) (hg : goodWord (.selects q.1.cls q.1 q.1) = true) : Cond.selects q.1.cls q.1 q.1 ∈ lw_good := List.mem_filter.mpr ⟨List.mem_append_left _ (List.mem_map.mpr ⟨q, List.mem_of_getElem? h, rfl⟩), hg⟩
theorem mem_by {big ws : List Cond} (ps : List Nat) (hp : ws = ps.filterMap (fun i => big[i]?)) : ∀ w ∈ ws, w ∈ big := by
  intro w hw
  rw [hp] at hw
  obtain ⟨i, -, hi⟩ := List.mem_filterMap.mp hw
  exact List.mem_of_getElem? hi
theorem mem_goods {ws : List Cond} (ps : List Nat) (hp : ws = ps.filterMap (fun i => tables_1[i]?)) (hg : ws.all goodWord = true) : ∀ w ∈ ws, w ∈ lw_good := fun w hw => List.mem_filter.mpr ⟨List.mem_append_right _ (mem_by ps hp w hw), List.all_eq_true.mp hg w hw⟩
theorem good_in {y : MethodName} {cc : ByteArray} {nL : Nat} {ret : Option FieldType} (hc : Cond.code y cc nL ret ∈ lw_good) : GoodIn lw_good (Cond.code y cc nL ret :: lw_good) := by
  intro w hw
  have h : w ∈ lw_good := by
    rcases List.mem_cons.mp hw with rfl | h
    · exact hc
    · exact h
  exact ⟨h, good_of_word (List.mem_filter.mp h).2⟩
def PW (G : Gh) (M : Mem) (U : State) : Prop := HP G M U.heap ∧ va_K (gD G) vwCl (tysOf G) U ∧ SF G U U.heap
def QM (G : Gh) (M' : Mem) (r : Option Value) : Array Value → State → Outcome → State → Prop := fun _ st o t => o = .returned r ∧ HP G M' t.heap ∧ va_F (AA G) st t
abbrev rmOf (lev c z : Nat) : Room := { frames := lev, cells := c, slots := z, locals := 64 * lev }
/-- a method's static part: class, name, code, locals, answer, level -/
abbrev Sta : Type := String × String × ByteArray × Nat × Option FieldType × Nat
abbrev yo (Y : Sta) : String := Y.1
abbrev ynm (Y : Sta) : String := Y.2.1
abbrev yc (Y : Sta) : ByteArray := Y.2.2.1
abbrev yL (Y : Sta) : Nat := Y.2.2.2.1
abbrev yr (Y : Sta) : Option FieldType := Y.2.2.2.2.1
abbrev yv (Y : Sta) : Nat := Y.2.2.2.2.2
abbrev Ctx : Type := Program × Launch × Env × Room × State × MethodId × Array Value × List Frame × Method × Code × Gh × Nat × Nat
abbrev xp (X : Ctx) : Program := X.1
abbrev xl (X : Ctx) : Launch := X.2.1
abbrev xe (X : Ctx) : Env := X.2.2.1
abbrev xR (X : Ctx) : Room := X.2.2.2.1
abbrev xs (X : Ctx) : State := X.2.2.2.2.1
abbrev xm (X : Ctx) : MethodId := X.2.2.2.2.2.1
abbrev xa (X : Ctx) : Array Value := X.2.2.2.2.2.2.1
abbrev xb (X : Ctx) : List Frame := X.2.2.2.2.2.2.2.1
abbrev xt (X : Ctx) : Method := X.2.2.2.2.2.2.2.2.1
abbrev xc (X : Ctx) : Code := X.2.2.2.2.2.2.2.2.2.1
abbrev xG (X : Ctx) : Gh := X.2.2.2.2.2.2.2.2.2.2.1
abbrev xn (X : Ctx) : Nat := X.2.2.2.2.2.2.2.2.2.2.2.1
abbrev xz (X : Ctx) : Nat := X.2.2.2.2.2.2.2.2.2.2.2.2
abbrev WX (X : Ctx) (H : Heap) (locs : List Loc) (cells slots : Nat) (Q : State → Prop) (g : JFrame) : Prop := W (xp X) (xl X) (xe X) (xR X) (xs X) (xm X) (xa X) (xb X) (xt X) (xc X) H locs cells slots Q g
/-- the memory only grows: kinds and lengths of what is there stay -/
def Le (M M1 : Mem) : Prop := mn M ≤ mn M1 ∧ mz M ≤ mz M1 ∧ ∀ b, b < mn M → mK M1 b = mK M b ∧ mL M1 b = mL M b
theorem Le.rf {M : Mem} : Le M M := ⟨Nat.le_refl _, Nat.le_refl _, fun _ _ => ⟨rfl, rfl⟩⟩
theorem Le.tr {M M1 M2 : Mem} (h : Le M M1) (h2 : Le M1 M2) : Le M M2 := ⟨Nat.le_trans h.1 h2.1, Nat.le_trans h.2.1 h2.2.1, fun b hb => ⟨(h2.2.2 b (Nat.lt_of_lt_of_le hb h.1)).1.trans (h.2.2 b hb).1, (h2.2.2 b (Nat.lt_of_lt_of_le hb h.1)).2.trans (h.2.2 b hb).2⟩⟩
theorem Le.ok {M M1 : Mem} {c a : Nat} (h : Le M M1) (ho : okO M c a) : okO M1 c a := ⟨Nat.lt_of_lt_of_le ho.1 h.1, (h.2.2 a ho.1).1.trans ho.2⟩
theorem Le.eqv {M M1 : Mem} (h1 : mn M1 = mn M) (h2 : mz M1 = mz M) (h3 : mK M1 = mK M) (h4 : mL M1 = mL M) : Le M M1 := ⟨Nat.le_of_eq h1.symm, Nat.le_of_eq h2.symm, fun b _ => ⟨by rw [h3], by rw [h4]⟩⟩
/-- a contract: with any launch and ghosts; the memory only grows -/
def Ctr (l : Launch) (G : Gh) (y : MethodName) (Y : Sta) (M : Mem) (args : List Value) (M' : Mem) (r : Option Value) : Prop :=
  (Ctx → Le M M') ∧ Met l y (Cond.code y (yc Y) (yL Y) (yr Y) :: lw_good) (rmOf (yv Y) (mn M' - mn M) (mz M' - mz M)) (va_Pc args (PW G M)) (QM G M' r) (mn M' - mn M) (mz M' - mz M) (AA G)
theorem PW.blind {G : Gh} {M : Mem} {args : List Value} : FrameBlind (va_Pc args (PW G M)) := by
  intro a U g mk h
  obtain ⟨h1, h2, h3, h4⟩ := h
  exact ⟨h1, h2, va_K.moved (u := U) (U := U.calling g mk a) (Vm.Alike.refl U.vm) h3, SF.same (u := U) (U := U.calling g mk a) rfl h4⟩
/-! THE JUDGEMENT -/
/-- the locals, by their places -/
def lhas (ls : Array Slot) (nL : Nat) (L : List (Option Value)) : Prop := ls.size = nL ∧ lv_wf ls ∧ ∀ (i : Nat) (v : Value), L[i]? = some (some v) → ls[i]? = some (.val v)
/-- where we are -/
def Cx (X : Ctx) (Y : Sta) : Prop :=
  (xp X).tables.exec = Jvm.exec ∧ (xc X).code = yc Y ∧ (xs X).vm.findClass (yo Y) = some (xm X).cls ∧ (∀ w ∈ lw_good, w.before (xa X) (xs X) = true) ∧ va_K (gD (xG X)) vwCl (tysOf (xG X)) (xs X) ∧ SF (xG X) (xs X) (xs X).heap ∧ (xs X).heap.size = gh (xG X) + xn X ∧ (xt X).sig.returnType = yr Y ∧ (xt X).locks = false ∧ (xt X).name = ynm Y ∧ yv Y ≤ (xR X).frames ∧ 64 * yv Y ≤ (xR X).locals ∧ (xc X).maxLocals = yL Y
/-- from here on the method ends with what t tells, if t tells something -/
def S0 (X : Ctx) (Y : Sta) (M : Mem) (pc : Nat) (L : List (Option Value)) (st : List Value) (t : Option (Mem × Option Value)) : Prop :=
  ∀ (M' : Mem) (r : Option Value), t = some (M', r) → Le M M' ∧ (Cx X Y → mn M' ≤ xn X + (xR X).cells → mz M' ≤ xz X + (xR X).slots → ∀ (H : Heap) (locs : List Loc) (ls : Array Slot), HP (xG X) M H → xz X ≤ mz M → va_S (AA (xG X)) (xs X).heap H locs → lhas ls (yL Y) L →
    WX X H locs (mn M - xn X) (mz M - xz X) (MQ (xb X) (QM (xG X) M' r) (xa X) (xs X) (mn M' - xn X) (mz M' - xz X) (AA (xG X))) (F0 (xm X) pc ls st))
/-- a method, out of its body -/
theorem Ctr.of {l : Launch} {G : Gh} {y : MethodName} {Y : Sta} {M : Mem} {args : List Value} {L : List (Option Value)} {t : Option (Mem × Option Value)} {M' : Mem} {r : Option Value} (hy : plainName y.cls = true) (ho : yo Y = y.cls) (hnm : ynm Y = y.name) (hk : (lg_sl args).length ≤ yL Y) (hL : ∀ (i : Nat) (v : Value), L[i]? = some (some v) → (i, v) ∈ lv_args 0 args)
    (hb : ∀ X : Ctx, xG X = G → xl X = l → S0 X Y M 0 L [] t) (ht : t = some (M', r)) : Ctr l G y Y M args M' r := by
  have mono : Ctx → Le M M' := fun X => (hb (xp X, l, xe X, xR X, xs X, xm X, xa X, xb X, xt X, xc X, G, xn X, xz X) rfl rfl M' r ht).1
  refine ⟨mono, Met.ofW (cc := yc Y) (maxL := yL Y) (ret := yr Y) hy rfl ?_⟩
  intro p e s m a below meth c s₁ B hml hv
  obtain ⟨rfl, hP, hK, hF⟩ := hv
  have h := (hb (p, l, e, rmOf (yv Y) (mn M' - mn M) (mz M' - mz M), s, m, args.toArray, below, meth, c, G, mn M, mz M) rfl rfl M' r ht)
  obtain ⟨⟨m1, m2, -⟩, h2⟩ := h
  have hts := atoms_spec (ws := Cond.code y (yc Y) (yL Y) (yr Y) :: lw_good) B.pre
  have hown : s.vm.findClass y.cls = some m.cls := findClass_of_methodNamed B.named
  have hnm2 := (name_of_methodNamed B.named B.method).1
  have hl := lv_entry args (n := yL Y) hk
  rw [lg_entry_eq]
  have h3 := h2 ⟨B.exec, B.bytes, by rw [ho]; exact hown, fun w hw => hts w (List.mem_cons_of_mem _ hw), hK, hF, hP.1, B.returns, B.notSynchronized, by rw [hnm]; exact hnm2, Nat.le_refl _, Nat.le_refl _, hml⟩ (by show mn M' ≤ mn M + (mn M' - mn M); omega) (by show mz M' ≤ mz M + (mz M' - mz M); omega) s.heap [] _ hP (Nat.le_refl _) va_S.rf ⟨hl.1, hl.2.1, fun i v hi => hl.2.2 (i, v) (hL i v hi)⟩
  have e1 : mn M - mn M = 0 := Nat.sub_self _
  have e2 : mz M - mz M = 0 := Nat.sub_self _
  simp only [e1, e2] at h3
  exact h3
