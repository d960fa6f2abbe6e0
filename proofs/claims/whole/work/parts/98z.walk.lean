/-! FROM THE PURE THEOREM TO THE WALK -/
def uw_st : List Cond := [.arrayOver (.object RX2), .arrayOver (.object RX9), .arrayOver (.object RX10), .laysStatic RX11 "POWER" "[I", .laysStatic RX11 "START" "[I", .stringRef RX7 98 txW, .laysStatic RJ0 "COMPACT_STRINGS" "Z", .laysStatic RJ3 "SIOOBE_FORMATTER" "Ljava/util/function/BiFunction;"]
set_option maxRecDepth 100000 in
theorem uw_st_in : ∀ w ∈ uw_st, w ∈ tables_1 := mem_by [291, 37, 107, 494, 496, 805, 815, 831] rfl
theorem mem_tab {i : Nat} {w : Cond} (h : uw_st[i]? = some w) : w ∈ lw_tbl := List.mem_append_right _ (uw_st_in _ (List.mem_of_getElem? h))
def tyK : Nat → Option FieldType
  | 13 => some .byte
  | 14 => some .int
  | 15 => some .long
  | 16 => some .short
  | 17 => some .boolean
  | 18 => some (.object RX2)
  | 19 => some (.object RX9)
  | 20 => some (.object RX10)
  | _ => none
set_option maxRecDepth 100000 in
theorem nwF_in : ∀ w ∈ nwF.map (fun q => Cond.fieldLinkNest q.1 q.2.1 q.2.2.1 q.2.2.2.1 q.2.2.2.2 RX11), w ∈ tables_1 := mem_by [39, 41, 43, 44, 46, 48, 50, 51, 55, 56, 58, 60, 61, 63, 64, 66, 67, 69, 70, 71, 73, 74, 493, 495, 715] rfl
set_option maxRecDepth 100000 in
theorem nwM_in : ∀ w ∈ nwM.map (fun q => Cond.methodLinkNest q.1 q.2.1 q.2.2 RX11), w ∈ tables_1 := mem_by [32, 110, 179, 200, 231, 328, 904, 1197] rfl
set_option maxRecDepth 100000 in
set_option maxHeartbeats 4000000 in
theorem tx_in : ∀ j, j < 129 → Cond.eq (.elem (.field (.string RX7 98) "java/lang/String" "value" "[B") (.int (Int32.ofNat j))) (.int (([txB].getD 0 []).getD j 0)) ∈ flatC (Jvm.Cond.and given_1 narrow_1) := by decide +kernel
set_option maxRecDepth 100000 in
set_option maxHeartbeats 8000000 in
theorem wo_cl {s : State} {b : Nat} (hg : ∀ w ∈ lw_good, w.before #[Value.ref b] s = true) : ∀ c : Nat, ∃ p : ClassId × (Nat → Nat), ∀ q : vw_C, vwCl[c]? = some q → u_Kn s q.1 q.2.1 q.2.2 p.1 p.2 := by
  intro c
  match c with
  | 0 => obtain ⟨a, b, h⟩ := u_known (n := 9) hg F_0_in (hg _ wm_0); exact ⟨(a, b), fun q hq => by cases hq; exact h⟩
  | 1 => obtain ⟨a, b, h⟩ := u_known (n := 8) hg F_1_in (hg _ wm_1); exact ⟨(a, b), fun q hq => by cases hq; exact h⟩
  | 2 => obtain ⟨a, b, h⟩ := u_known (n := 11) hg F_2_in (hg _ wm_2); exact ⟨(a, b), fun q hq => by cases hq; exact h⟩
  | 3 => obtain ⟨a, b, h⟩ := u_known (n := 2) hg F_3_in (hg _ wm_3); exact ⟨(a, b), fun q hq => by cases hq; exact h⟩
  | 4 => obtain ⟨a, b, h⟩ := u_known (n := 10) hg F_4_in (hg _ wm_4); exact ⟨(a, b), fun q hq => by cases hq; exact h⟩
  | 5 => obtain ⟨a, b, h⟩ := u_known (n := 12) hg F_5_in (hg _ wm_5); exact ⟨(a, b), fun q hq => by cases hq; exact h⟩
  | 6 => obtain ⟨a, b, h⟩ := u_known (n := 4) hg F_6_in (hg _ wm_6); exact ⟨(a, b), fun q hq => by cases hq; exact h⟩
  | 7 => obtain ⟨a, b, h⟩ := u_known (n := 10) hg F_7_in (hg _ wm_7); exact ⟨(a, b), fun q hq => by cases hq; exact h⟩
  | 8 => obtain ⟨a, b, h⟩ := u_known (n := 7) hg F_8_in (hg _ wm_8); exact ⟨(a, b), fun q hq => by cases hq; exact h⟩
  | 9 => obtain ⟨a, b, h⟩ := u_known (n := 5) hg F_9_in (hg _ wm_9); exact ⟨(a, b), fun q hq => by cases hq; exact h⟩
  | 10 => obtain ⟨a, b, h⟩ := u_known (n := 15) hg F_10_in (hg _ wm_10); exact ⟨(a, b), fun q hq => by cases hq; exact h⟩
  | 11 => obtain ⟨a, b, h⟩ := u_known (n := 16) hg F_11_in (hg _ wm_11); exact ⟨(a, b), fun q hq => by cases hq; exact h⟩
  | 12 => obtain ⟨a, b, h⟩ := u_known (n := 59) hg F_12_in (hg _ wm_12); exact ⟨(a, b), fun q hq => by cases hq; exact h⟩
  | n + 13 => obtain ⟨a, b, h⟩ := u_known (n := 9) hg F_0_in (hg _ wm_0); exact ⟨(a, b), fun q hq => by simp [vwCl] at hq⟩
set_option maxRecDepth 100000 in
set_option maxHeartbeats 8000000 in
theorem wo_ar {s : State} {b : Nat} (hg : ∀ w ∈ lw_good, w.before #[Value.ref b] s = true) (hts : ∀ w ∈ lw_tbl, w.before #[Value.ref b] s = true) : ∀ k : Nat, ∃ cA : ClassId, ∀ ty : FieldType, tyK k = some ty → ArrOfT s cA ty ∧ va_RA s cA ty := by
  have prim : ∀ (ty : FieldType), (Cond.arrayClass ty).before #[Value.ref b] s = true → (∀ cA : ClassId, va_RA s cA ty = (s.vm.findClass ("[" ++ ty.toString) = some cA)) → ∃ cA : ClassId, ArrOfT s cA ty ∧ va_RA s cA ty := by
    intro ty hw he
    obtain ⟨cA, kA, comp, h1, h2, h3⟩ := Cond.arrayClass_spec hw
    exact ⟨cA, fun n z => ⟨fun k h => (by cases h), kA, h2, comp, h3⟩, by rw [he]; exact h1⟩
  have refs : ∀ (C : String), (Cond.arrayOver (.object C)).before #[Value.ref b] s = true → ∃ cA : ClassId, ArrOfT s cA (.object C) ∧ va_RA s cA (.object C) := by
    intro C hw
    obtain ⟨comp, cA, kA, f4, -, f2, f3, f1⟩ := Cond.arrayOver_spec hw
    exact ⟨cA, fun n z => ⟨fun k h => (by cases h), kA, f2, comp, f3⟩, kA, comp, f2, f3, f4, f1⟩
  intro k
  match k with
  | 13 => obtain ⟨cA, h⟩ := prim .byte (hg _ wa_byte) (fun _ => rfl); exact ⟨cA, fun ty e => by cases e; exact h⟩
  | 14 => obtain ⟨cA, h⟩ := prim .int (hg _ wa_int) (fun _ => rfl); exact ⟨cA, fun ty e => by cases e; exact h⟩
  | 15 => obtain ⟨cA, h⟩ := prim .long (hg _ wa_long) (fun _ => rfl); exact ⟨cA, fun ty e => by cases e; exact h⟩
  | 16 => obtain ⟨cA, h⟩ := prim .short (hg _ wa_short) (fun _ => rfl); exact ⟨cA, fun ty e => by cases e; exact h⟩
  | 17 => obtain ⟨cA, h⟩ := prim .boolean (hg _ wa_boolean) (fun _ => rfl); exact ⟨cA, fun ty e => by cases e; exact h⟩
  | 18 => obtain ⟨cA, h⟩ := refs RX2 (hts _ (mem_tab (i := 0) rfl)); exact ⟨cA, fun ty e => by cases e; exact h⟩
  | 19 => obtain ⟨cA, h⟩ := refs RX9 (hts _ (mem_tab (i := 1) rfl)); exact ⟨cA, fun ty e => by cases e; exact h⟩
  | 20 => obtain ⟨cA, h⟩ := refs RX10 (hts _ (mem_tab (i := 2) rfl)); exact ⟨cA, fun ty e => by cases e; exact h⟩
  | 0 => obtain ⟨cA, h⟩ := prim .int (hg _ wa_int) (fun _ => rfl); exact ⟨cA, fun ty e => by cases e⟩
  | 1 => obtain ⟨cA, h⟩ := prim .int (hg _ wa_int) (fun _ => rfl); exact ⟨cA, fun ty e => by cases e⟩
  | 2 => obtain ⟨cA, h⟩ := prim .int (hg _ wa_int) (fun _ => rfl); exact ⟨cA, fun ty e => by cases e⟩
  | 3 => obtain ⟨cA, h⟩ := prim .int (hg _ wa_int) (fun _ => rfl); exact ⟨cA, fun ty e => by cases e⟩
  | 4 => obtain ⟨cA, h⟩ := prim .int (hg _ wa_int) (fun _ => rfl); exact ⟨cA, fun ty e => by cases e⟩
  | 5 => obtain ⟨cA, h⟩ := prim .int (hg _ wa_int) (fun _ => rfl); exact ⟨cA, fun ty e => by cases e⟩
  | 6 => obtain ⟨cA, h⟩ := prim .int (hg _ wa_int) (fun _ => rfl); exact ⟨cA, fun ty e => by cases e⟩
  | 7 => obtain ⟨cA, h⟩ := prim .int (hg _ wa_int) (fun _ => rfl); exact ⟨cA, fun ty e => by cases e⟩
  | 8 => obtain ⟨cA, h⟩ := prim .int (hg _ wa_int) (fun _ => rfl); exact ⟨cA, fun ty e => by cases e⟩
  | 9 => obtain ⟨cA, h⟩ := prim .int (hg _ wa_int) (fun _ => rfl); exact ⟨cA, fun ty e => by cases e⟩
  | 10 => obtain ⟨cA, h⟩ := prim .int (hg _ wa_int) (fun _ => rfl); exact ⟨cA, fun ty e => by cases e⟩
  | 11 => obtain ⟨cA, h⟩ := prim .int (hg _ wa_int) (fun _ => rfl); exact ⟨cA, fun ty e => by cases e⟩
  | 12 => obtain ⟨cA, h⟩ := prim .int (hg _ wa_int) (fun _ => rfl); exact ⟨cA, fun ty e => by cases e⟩
  | n + 21 => obtain ⟨cA, h⟩ := prim .int (hg _ wa_int) (fun _ => rfl); exact ⟨cA, fun ty e => by cases e⟩
set_option maxRecDepth 100000 in
set_option maxHeartbeats 8000000 in
theorem wo_t0 {s : State} {b : Nat} (hs : ∀ c ∈ flatC (Jvm.Cond.and given_1 narrow_1), c.before #[Value.ref b] s = true) (hA : ∀ a : Nat, a < s.heap.size → ¬ s.heap.size ≤ a) : ∃ t : Nat, (Term.static RX11 "POWER" "[I").eval #[Value.ref b] s none [] s = some (.ref t) ∧ va_T .int t 6 (fun j => .int (pwV j)) (fun q => s.heap.size ≤ q) s s.heap :=
  va_Tof (args := #[Value.ref b]) (s := s) (tm := .static RX11 "POWER" "[I") (ty := .int) (N := 6) (f := fun j => .int (pwV j)) (A := fun q => s.heap.size ≤ q) (by decide) (hs _ (by decide +kernel)) (va_eqt (hs _ (by decide +kernel))) (fun j hj => by
    match j, hj with
    | 0, _ => exact va_eqt (z := 1) (hs _ (by decide +kernel))
    | 1, _ => exact va_eqt (z := 6) (hs _ (by decide +kernel))
    | 2, _ => exact va_eqt (z := 36) (hs _ (by decide +kernel))
    | 3, _ => exact va_eqt (z := 216) (hs _ (by decide +kernel))
    | 4, _ => exact va_eqt (z := 1296) (hs _ (by decide +kernel))
    | 5, _ => exact va_eqt (z := 7776) (hs _ (by decide +kernel))
    | n + 6, h => omega) hA
set_option maxRecDepth 100000 in
set_option maxHeartbeats 8000000 in
theorem wo_t1 {s : State} {b : Nat} (hs : ∀ c ∈ flatC (Jvm.Cond.and given_1 narrow_1), c.before #[Value.ref b] s = true) (hA : ∀ a : Nat, a < s.heap.size → ¬ s.heap.size ≤ a) : ∃ t : Nat, (Term.static RX11 "START" "[I").eval #[Value.ref b] s none [] s = some (.ref t) ∧ va_T .int t 7 (fun j => .int (stV j)) (fun q => s.heap.size ≤ q) s s.heap :=
  va_Tof (args := #[Value.ref b]) (s := s) (tm := .static RX11 "START" "[I") (ty := .int) (N := 7) (f := fun j => .int (stV j)) (A := fun q => s.heap.size ≤ q) (by decide) (hs _ (by decide +kernel)) (va_eqt (hs _ (by decide +kernel))) (fun j hj => by
    match j, hj with
    | 0, _ => exact va_eqt (z := 0) (hs _ (by decide +kernel))
    | 1, _ => exact va_eqt (z := 1) (hs _ (by decide +kernel))
    | 2, _ => exact va_eqt (z := 7) (hs _ (by decide +kernel))
    | 3, _ => exact va_eqt (z := 43) (hs _ (by decide +kernel))
    | 4, _ => exact va_eqt (z := 259) (hs _ (by decide +kernel))
    | 5, _ => exact va_eqt (z := 1555) (hs _ (by decide +kernel))
    | 6, _ => exact va_eqt (z := 9331) (hs _ (by decide +kernel))
    | n + 7, h => omega) hA
set_option maxRecDepth 100000 in
set_option maxHeartbeats 8000000 in
theorem wo_s {s : State} {b : Nat} (hs : ∀ c ∈ flatC (Jvm.Cond.and given_1 narrow_1), c.before #[Value.ref b] s = true) (hA : ∀ a : Nat, a < s.heap.size → ¬ s.heap.size ≤ a) : ∃ adK adV : Nat → Nat, vk_S 1 [129] [txB] adK adV (fun q => s.heap.size ≤ q) s s.heap ∧ ∀ i : Nat, i < 1 → (Term.string RX7 98).eval #[Value.ref b] s none [] s = some (.ref (adK i)) :=
  vk_Sof (args := #[Value.ref b]) (s := s) (N := 1) (tm := fun _ => .string RX7 98) (len := [129]) (byt := [txB]) (A := fun q => s.heap.size ≤ q) (fun i hi => by
    have : i = 0 := by omega
    subst this
    decide) (fun i _ => hs _ (by decide +kernel)) (fun i _ => hs _ (by decide +kernel)) (fun i _ => hs _ (by decide +kernel)) (fun i hi => by
    have : i = 0 := by omega
    subst this
    exact hs _ (by decide +kernel)) (fun i hi j hj => by
    have : i = 0 := by omega
    subst this
    exact hs _ (tx_in j hj)) (fun i j hi hj hij => absurd (show i = j by omega) hij) hA
set_option maxRecDepth 100000 in
set_option maxHeartbeats 8000000 in
theorem wo_G {s : State} {b : Nat} (hg : ∀ w ∈ lw_good, w.before #[Value.ref b] s = true) (hts : ∀ w ∈ lw_tbl, w.before #[Value.ref b] s = true) (hs : ∀ c ∈ flatC (Jvm.Cond.and given_1 narrow_1), c.before #[Value.ref b] s = true) (hA : ∀ a : Nat, a < s.heap.size → ¬ s.heap.size ≤ a) : ∃ G : Gh, gh G = s.heap.size ∧ va_K (gD G) vwCl (tysOf G) s ∧ SF G s s.heap := by
  obtain ⟨dd, hdd⟩ := Classical.axiomOfChoice (wo_cl hg)
  obtain ⟨ay, hay⟩ := Classical.axiomOfChoice (wo_ar hg hts)
  obtain ⟨t0, e0, hT0⟩ := wo_t0 hs hA
  obtain ⟨t1, e1, hT1⟩ := wo_t1 hs hA
  obtain ⟨adK, adV, hStr, hStrE⟩ := wo_s hs hA
  have hSK : vk_S 1 [129] [txB] (fun _ => adK 0) (fun _ => adV 0) (fun q => s.heap.size ≤ q) s s.heap := by
    refine ⟨fun i hi => ?_, fun i j hi hj _ => by omega⟩
    have hi0 : i = 0 := by omega
    subst hi0
    exact hStr.1 0 (by decide)
  have hZq := va_Zqof (args := #[Value.ref b]) (s := s) (C := RJ3) (n := "SIOOBE_FORMATTER") (d := "Ljava/util/function/BiFunction;") (A := fun q => s.heap.size ≤ q) (hts _ (mem_tab (i := 7) rfl)) (hg _ (us (i := 29) rfl)) (hs _ (by decide +kernel)) hA
  let G : Gh := ((fun k => (dd k).1, fun k => (dd k).2), ay, s.heap.size, fun k => if k = 0 then t0 else if k = 1 then t1 else if k = 2 then adK 0 else adV 0)
  have hK : va_K (gD G) vwCl (tysOf G) s := by
    refine ⟨fun k q hq => hdd k q hq, fun k q hk => ?_⟩
    match k, hk with
    | 0, hk => cases hk; exact hay 13 _ rfl
    | 1, hk => cases hk; exact hay 14 _ rfl
    | 2, hk => cases hk; exact hay 15 _ rfl
    | 3, hk => cases hk; exact hay 16 _ rfl
    | 4, hk => cases hk; exact hay 17 _ rfl
    | 5, hk => cases hk; exact hay 18 _ rfl
    | 6, hk => cases hk; exact hay 19 _ rfl
    | 7, hk => cases hk; exact hay 20 _ rfl
    | n + 8, hk => simp [tysOf] at hk
  have hSF : SF G s s.heap := by
    refine ⟨⟨va_Zref (hts _ (mem_tab (i := 3) rfl)) (hg _ wn_X11) e0 hA, hT0⟩, ⟨va_Zref (hts _ (mem_tab (i := 4) rfl)) (hg _ wn_X11) e1 hA, hT1⟩, fun q hq => ?_, fun q hq => ?_, ⟨?_, ?_, ?_⟩, ?_, hSK, ?_, ?_⟩
    · exact va_tabs rfl rfl (hts _ (List.mem_append_right _ (nwF_in _ (List.mem_map.mpr ⟨q, hq, rfl⟩))))
    · exact va_tabs rfl rfl (hts _ (List.mem_append_right _ (nwM_in _ (List.mem_map.mpr ⟨q, hq, rfl⟩))))
    · exact va_AO.of (hts _ (mem_tab (i := 0) rfl))
    · exact va_AO.of (hts _ (mem_tab (i := 1) rfl))
    · exact va_AO.of (hts _ (mem_tab (i := 2) rfl))
    · exact vk_R.of (A := #[Value.ref b]) (hts _ (mem_tab (i := 5) rfl)) (hStrE 0 (by decide))
    · exact va_Zof (hts _ (mem_tab (i := 6) rfl)) (hg _ (us (i := 4) rfl)) (va_eqt (hs _ (by decide +kernel))) hA
    · rcases hZq with h | ⟨t, h⟩
      · exact ⟨.null, Or.inl rfl, h⟩
      · exact ⟨.ref t, Or.inr ⟨t, rfl⟩, h⟩
  exact ⟨G, rfl, hK, hSF⟩
theorem rm_f : 400 ≤ room_1.frames := by decide
theorem rm_l : 64 * 400 ≤ room_1.locals := by decide
theorem rm_c : room_1.cells = 600000 := rfl
theorem rm_s : room_1.slots = 7302250 := rfl
set_option maxRecDepth 100000 in
set_option maxHeartbeats 8000000 in
theorem whole_of (hpure : ∀ (xS : Nat → Int32) (LS : Nat), LS ≤ 3072 → ∃ q : Mem × Int32, f_L_law xS LS M00 = some q ∧ q.2 = 1 ∧ mn q.1 ≤ 600000 ∧ mz q.1 ≤ 7302250) {p : Program} {e : Env} {s : State} {m : MethodId} {below : List Frame} {meth : Method} {c : Code} (l : Launch) {b L : Nat} {xS : Nat → Int32} (hL : L ≤ 3072) (C0 : lw_At p s m meth c b L xS) : W p l e room_1 s m #[Value.ref b] below meth c s.heap [] 0 0 (lw_Z below #[Value.ref b] s) (entryFrame m ([Value.ref b] : List Value).toArray 4) := by
  obtain ⟨hexec, hb, hr, hml, hown, hts, hX, hbl, hlocks, hgv⟩ := C0
  have hg : ∀ w ∈ lw_good, w.before #[Value.ref b] s = true := fun w hw => hts w (List.mem_filter.mp hw).1
  have hs := flat_of_before _ hgv
  have hA : ∀ a : Nat, a < s.heap.size → ¬ s.heap.size ≤ a := fun a h => Nat.not_le.mpr h
  obtain ⟨G, hG0, hK, hSF⟩ := wo_G hg hts hs hA
  let X : Ctx := (p, l, e, room_1, s, m, #[Value.ref b], below, meth, c, G, 0, 0)
  have hCx : Cx X (Y_L_law meth.name) := ⟨hexec, hb, hown, hg, hK, hSF, by show s.heap.size = gh G + 0; rw [hG0]; rfl, hr, hlocks, rfl, rm_f, rm_l, hml⟩
  obtain ⟨q, hq, hq1, hq2, hq3⟩ := hpure xS L hL
  have hS0 := t_L_law (X := X) (M := M00) (nm := meth.name) hX hbl (by show ¬ gh G ≤ b; rw [hG0]; exact hA b hbl) q.1 (some (.int q.2)) (by rw [hq]; rfl)
  have hl := lv_entry ([.ref b] : List Value) (n := 4) (nle rfl)
  rw [lg_entry_eq]
  have h3 := hS0.2 hCx (by have h9 := rm_c; show mn q.1 ≤ 0 + room_1.cells; omega) (by have h9 := rm_s; show mz q.1 ≤ 0 + room_1.slots; omega) s.heap [] _ ⟨by show s.heap.size = gh G + 0; rw [hG0]; rfl, fun a ha => absurd ha (Nat.not_lt_zero a)⟩ (Nat.le_refl 0) va_S.rf ⟨hl.1, hl.2.1, fun i v hi => hl.2.2 (i, v) (Lof_in 3 [.ref b] rfl i v hi)⟩
  intro T hT XS
  obtain ⟨t, c1, o, c2, c3, ⟨hoo, -, -⟩, LL, hF, hfree⟩ := h3 T hT XS
  refine ⟨t, c1, o, c2, c3, ?_⟩
  rw [hq1] at hoo
  refine ⟨hoo, hF.1, hF.2.1, ?_⟩
  refine State.sameButNew.weaken hF.2.2 (fun x hx hlt => absurd hlt (Nat.not_lt.mpr (by rw [← hG0]; exact hfree x hx))) ?_ ?_
  · exact Nat.le_trans (Nat.sub_le _ _) hq2
  · exact Nat.le_trans (Nat.sub_le _ _) hq3
