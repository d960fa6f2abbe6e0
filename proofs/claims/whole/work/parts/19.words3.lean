def pb (x : Int32) : Prop := narrow .boolean (.int x) = .int x ∧ fits .boolean (.int x) = true
def psh (x : Int32) : Prop := narrow .short (.int x) = .int x ∧ fits .short (.int x) = true
/-! the one text: its length, its signs -/
def txCn (j : Nat) : Int32 := ((txB.getD j 0 &&& 255).toUInt32 % 65536).toInt32
def txC (i : Int32) : Int32 := txCn i.toNatClampNeg
def uw_str : List Cond := [.fieldLink RJ0 9 RJ0 "value" "[B", .fieldLink RJ0 15 RJ0 "coder" "B", .fieldLink RJ0 38 RJ0 "COMPACT_STRINGS" "Z", .fieldLink RJ0 1053 RJ3 "SIOOBE_FORMATTER" "Ljava/util/function/BiFunction;", .initialized RJ0, .initialized RJ1, .instanceMethod yJ0_length_8abf5, .selects RJ0 yJ0_length_8abf5 yJ0_length_8abf5, .code yJ0_length_8abf5 cJ0_length_8abf5 1 (some .int), .methodLink RJ0 335 yJ0_coder_7d493, .instanceMethod yJ0_coder_7d493, .selects RJ0 yJ0_coder_7d493 yJ0_coder_7d493, .code yJ0_coder_7d493 cJ0_coder_7d493 1 (some .byte), .instanceMethod yJ0_charAt_5068e, .selects RJ0 yJ0_charAt_5068e yJ0_charAt_5068e, .code yJ0_charAt_5068e cJ0_charAt_5068e 2 (some .char), .methodLink RJ0 492 yJ0_isLatin1_aae02, .instanceMethod yJ0_isLatin1_aae02, .selects RJ0 yJ0_isLatin1_aae02 yJ0_isLatin1_aae02, .code yJ0_isLatin1_aae02 cJ0_isLatin1_aae02 1 (some .boolean), .methodLink RJ0 495 yJ1_charAt_3b067, .static yJ1_charAt_3b067, .code yJ1_charAt_3b067 cJ1_charAt_3b067 2 (some .char), .methodLink RJ1 9 yJ0_checkIndex_df160, .static yJ0_checkIndex_df160, .code yJ0_checkIndex_df160 cJ0_checkIndex_df160 2 none, .methodLink RJ0 1059 yJ3_checkIndex_8e157, .static yJ3_checkIndex_8e157, .code yJ3_checkIndex_8e157 cJ3_checkIndex_8e157 3 (some .int), .initialized RJ3]
set_option maxRecDepth 100000 in
set_option maxHeartbeats 4000000 in
theorem uw_str_in : ∀ w ∈ uw_str, w ∈ lw_good := mem_goods [1882, 1883, 814, 830, 16, 17, 807, 808, 809, 810, 811, 812, 813, 817, 818, 819, 820, 821, 822, 823, 824, 825, 826, 827, 828, 829, 832, 833, 834, 18] rfl (by decide +kernel)
theorem us {i : Nat} {w : Cond} (h : uw_str[i]? = some w) : w ∈ lw_good := uw_str_in _ (List.mem_of_getElem? h)
section
variable {X : Ctx} {Y : Sta} {M M1 : Mem} {pc pc' : Nat} {L L' : List (Option Value)} {st st' : List Value} {t : Option (Mem × Option Value)} {idx : Nat}
theorem s_ldcS (hd : decode (yc Y) pc = .ok (.ldc 98, 2)) (ho : yo Y = RX7) (k : S0 X Y M (pc + 2) L (.ref (ga (xG X) 2) :: st) t) : S0 X Y M pc L st t := k.lift (fun C H locs cs ss Q ls hl w => va_ldcS C.1 C.2.1 (own := RX7) (by rw [← ho]; exact C.2.2.1) C.2.2.2.2.2.1.2.2.2.2.2.1 hd w)
theorem s_cstr (hd : decode (yc Y) pc = .ok (.getstatic 38, 3)) (ho : yo Y = RJ0) (k : S0 X Y M (pc + 3) L (.int 1 :: st) t) : S0 X Y M pc L st t := k.liftM (fun C H locs cs ss Q ls hH hS hl w => va_gets (own := RJ0) (ref := RJ0) C.1 C.2.1 C.2.2.2.2.2.1.2.2.2.2.2.2.2.1 hS (by rw [← ho]; exact C.2.2.1) (C.2.2.2.1 _ (us (i := 2) rfl)) (fun _ h => h) hd w)
theorem s_coder (hd : decode (yc Y) pc = .ok (.getfield 15, 3)) (ho : yo Y = RJ0) (k : S0 X Y M (pc + 3) L (.int 0 :: st) t) : S0 X Y M pc L (.ref (ga (xG X) 2) :: st) t := k.liftM (fun C H locs cs ss Q ls hH hS hl w => vk_getf (own := RJ0) (ref := RJ0) C.1 C.2.1 (C.2.2.2.2.2.1.2.2.2.2.2.2.1.1 0 (by decide)).2.1 hS (by rw [← ho]; exact C.2.2.1) (C.2.2.2.1 _ (us (i := 1) rfl)) (fun _ h => h) hd w)
theorem s_value (hd : decode (yc Y) pc = .ok (.getfield 9, 3)) (ho : yo Y = RJ0) (k : S0 X Y M (pc + 3) L (.ref (ga (xG X) 3) :: st) t) : S0 X Y M pc L (.ref (ga (xG X) 2) :: st) t := k.liftM (fun C H locs cs ss Q ls hH hS hl w => vk_getf (own := RJ0) (ref := RJ0) C.1 C.2.1 (C.2.2.2.2.2.1.2.2.2.2.2.2.1.1 0 (by decide)).2.2.1 hS (by rw [← ho]; exact C.2.2.1) (C.2.2.2.1 _ (us (i := 0) rfl)) (fun _ h => h) hd w)
theorem s_vlen (hd : decode (yc Y) pc = .ok (.arraylength, 1)) (k : S0 X Y M (pc + 1) L (.int 129 :: st) t) : S0 X Y M pc L (.ref (ga (xG X) 3) :: st) t := k.liftM (fun C H locs cs ss Q ls hH hS hl w => va_tlen C.1 C.2.1 (C.2.2.2.2.2.1.2.2.2.2.2.2.1.1 0 (by decide)).2.2.2 hS (by decide) hd w)
theorem s_vat {i : Int32} (hi : vp_in i 129) (hd : decode (yc Y) pc = .ok (.baload, 1)) (k : S0 X Y M (pc + 1) L (.int (txB.getD i.toNatClampNeg 0) :: st) t) : S0 X Y M pc L (.int i :: .ref (ga (xG X) 3) :: st) t := k.liftM (fun C H locs cs ss Q ls hH hS hl w => va_tb C.1 C.2.1 (C.2.2.2.2.2.1.2.2.2.2.2.2.1.1 0 (by decide)).2.2.2 hS hi rfl hd w)
theorem s_i2c {x : Int32} (hd : decode (yc Y) pc = .ok (.i2c, 1)) (k : S0 X Y M (pc + 1) L (.int (x.toUInt32 % 65536).toInt32 :: st) t) : S0 X Y M pc L (.int x :: st) t := k.lift (fun C H locs cs ss Q ls hl w => lv_i2c C.1 C.2.1 hd rfl w)
theorem s_eqF {x : Int32} {off : Int} (tgt : Nat) (h : ¬ x = 0) (hd : decode (yc Y) pc = .ok (.ifCond .eq off, 3)) (ht : (pc : Int) + off = (tgt : Int)) (k : S0 X Y M (pc + 3) L st t) : S0 X Y M pc L (.int x :: st) t := k.lift (fun C H locs cs ss Q ls hl w => lv_if_eq C.1 C.2.1 hd ht (fun e => absurd e h) (fun _ => w))
theorem s_neF {x : Int32} {off : Int} (tgt : Nat) (h : x = 0) (hd : decode (yc Y) pc = .ok (.ifCond .ne off, 3)) (ht : (pc : Int) + off = (tgt : Int)) (k : S0 X Y M (pc + 3) L st t) : S0 X Y M pc L (.int x :: st) t := k.lift (fun C H locs cs ss Q ls hl w => lv_if_ne C.1 C.2.1 hd ht (fun e => absurd h e) (fun _ => w))
theorem s_ltF {x : Int32} {off : Int} (tgt : Nat) (h : ¬ x < 0) (hd : decode (yc Y) pc = .ok (.ifCond .lt off, 3)) (ht : (pc : Int) + off = (tgt : Int)) (k : S0 X Y M (pc + 3) L st t) : S0 X Y M pc L (.int x :: st) t := k.lift (fun C H locs cs ss Q ls hl w => lv_if_lt C.1 C.2.1 hd ht (fun e => absurd e h) (fun _ => w))
theorem s_icltT {x y : Int32} {off : Int} (tgt : Nat) (h : x < y) (hd : decode (yc Y) pc = .ok (.if_icmp .lt off, 3)) (ht : (pc : Int) + off = (tgt : Int)) (k : S0 X Y M tgt L st t) : S0 X Y M pc L (.int y :: .int x :: st) t := k.lift (fun C H locs cs ss Q ls hl w => lv_icmp_lt C.1 C.2.1 hd ht (fun _ => w) (fun e => absurd h e))
theorem s_nret {x : Int32} {ty : FieldType} (hr : yr Y = some ty) (hb : narrow ty (.int x) = .int x) (hd : decode (yc Y) pc = .ok (.ireturn, 1)) : S0 X Y M pc L [.int x] (some (M, some (.int x))) :=
  s_ret (fun CX H locs cs ss ls hq hf => W.zret CX.1 CX.2.1 (CX.2.2.2.2.2.2.2.1.trans hr) hb hq hf hd CX.2.2.2.2.2.2.2.2.1)
theorem s_callT {y : MethodName} {Y' : Sta} {As st0 : List Value} {r : Option Value} {n : Nat} (hqc : RJ0 = y.cls) (hc : Cal y (yc Y') (yL Y') (yr Y') n) (hin : Cond.instanceMethod y ∈ lw_good) (hse : Cond.selects y.cls y y ∈ lw_good) (hl : Cond.methodLink (yo Y) idx y ∈ lw_good) (hn : As.length = n) (hst0 : st0 = As.reverse ++ .ref (ga (xG X) 2) :: st) (hlev : yv Y' + 1 ≤ yv Y) (hmx : yL Y' ≤ 45) (hst : (st.map fun v => v.category).sum ≤ 8) (hd : decode (yc Y) pc = .ok (.invokevirtual idx, 3)) (hC : Ctr (xl X) (xG X) y Y' M (.ref (ga (xG X) 2) :: As) M1 r) (k : S0 X Y M1 (pc + 3) L (r.toList ++ st) t) : S0 X Y M pc L st0 t := by
  subst hst0
  refine s_back (aa := (.ref (ga (xG X) 2) :: As).toArray) (hC.1 X) (fun CX H locs ls g1 g3 g4 h1 h2 => ?_) k
  have hrc := vk_recv (i := 0) CX.2.2.2.2.2.1.2.2.2.2.2.2.1 (by decide) g3
  have hrc2 : ∃ cellB : Cell, H[ga (xG X) 2]? = some cellB ∧ cellB.vm.isStatics = false ∧ (xs X).vm.findClass y.cls = some cellB.cls := by rw [← hqc]; exact hrc
  exact va_runV (s_fix CX) hC.2 ⟨callB_of n CX.2.2.2.1 (good_in hc.1) rfl rfl rfl (CX.2.2.2.1 _ hc.2.1) (CX.2.2.2.1 _ hl) hc.2.2 (s_room CX hlev hmx), CX.2.2.2.1 _ hin, CX.2.2.2.1 _ hse⟩ ⟨PW.blind, hrc2, fun U hU hW => ⟨rfl, s_PW CX g1 g3 hU hW⟩⟩ rfl hn g4.1 rfl (by show 2 * 0 + _ ≤ 8; omega) hd ⟨h1, h2⟩
end
abbrev Y_coder : Sta := (RJ0, "coder", cJ0_coder_7d493, 1, some .byte, 1)
theorem t_coder {l : Launch} {G : Gh} {M : Mem} : Ctr l G yJ0_coder_7d493 Y_coder M [.ref (ga G 2)] M (some (.int 0)) := by
  refine Ctr.of (Y := Y_coder) (L := [some (.ref (ga G 2))]) (t := some (M, some (.int 0))) (by decide) rfl rfl (nle rfl) (Lof_in 0 _ rfl) (fun X hG hl => ?_) rfl
  subst hG
  refine s_cstr (pc := 0) dJ0_coder_7d493_0 rfl ?_
  refine s_eqF (pc := 3) 13 (by decide) dJ0_coder_7d493_3 rfl ?_
  refine s_aload_n (pc := 6) 0 dJ0_coder_7d493_6 rfl rfl ?_
  refine s_coder (pc := 7) dJ0_coder_7d493_7 rfl ?_
  refine s_goto (pc := 10) 14 dJ0_coder_7d493_10 rfl ?_
  exact s_nret rfl rfl dJ0_coder_7d493_14
abbrev Y_isLatin1 : Sta := (RJ0, "isLatin1", cJ0_isLatin1_aae02, 1, some .boolean, 1)
theorem t_isLatin1 {l : Launch} {G : Gh} {M : Mem} : Ctr l G yJ0_isLatin1_aae02 Y_isLatin1 M [.ref (ga G 2)] M (some (.int 1)) := by
  refine Ctr.of (Y := Y_isLatin1) (L := [some (.ref (ga G 2))]) (t := some (M, some (.int 1))) (by decide) rfl rfl (nle rfl) (Lof_in 0 _ rfl) (fun X hG hl => ?_) rfl
  subst hG
  refine s_cstr (pc := 0) dJ0_isLatin1_aae02_0 rfl ?_
  refine s_eqF (pc := 3) 17 (by decide) dJ0_isLatin1_aae02_3 rfl ?_
  refine s_aload_n (pc := 6) 0 dJ0_isLatin1_aae02_6 rfl rfl ?_
  refine s_coder (pc := 7) dJ0_isLatin1_aae02_7 rfl ?_
  refine s_neF (pc := 10) 17 rfl dJ0_isLatin1_aae02_10 rfl ?_
  refine s_iconst (pc := 13) 1 dJ0_isLatin1_aae02_13 kc_1 ?_
  refine s_goto (pc := 14) 18 dJ0_isLatin1_aae02_14 rfl ?_
  exact s_nret rfl rfl dJ0_isLatin1_aae02_18
abbrev Y_length : Sta := (RJ0, "length", cJ0_length_8abf5, 1, some .int, 2)
theorem t_length {l : Launch} {G : Gh} {M : Mem} : Ctr l G yJ0_length_8abf5 Y_length M [.ref (ga G 2)] M (some (.int 129)) := by
  refine Ctr.of (Y := Y_length) (L := [some (.ref (ga G 2))]) (t := some (M, some (.int 129))) (by decide) rfl rfl (nle rfl) (Lof_in 0 _ rfl) (fun X hG hl => ?_) rfl
  subst hG
  subst hl
  refine s_aload_n (pc := 0) 0 dJ0_length_8abf5_0 rfl rfl ?_
  refine s_value (pc := 1) dJ0_length_8abf5_1 rfl ?_
  refine s_vlen (pc := 4) dJ0_length_8abf5_4 ?_
  refine s_aload_n (pc := 5) 0 dJ0_length_8abf5_5 rfl rfl ?_
  refine s_callT (pc := 6) (As := []) (st := [.int 129]) rfl ⟨us (i := 12) rfl, us (i := 4) rfl, by decide, by decide, by decide +kernel⟩ (us (i := 10) rfl) (us (i := 11) rfl) (us (i := 9) rfl) rfl rfl (nle rfl) (nle rfl) (nle rfl) dJ0_length_8abf5_6 (t_coder (l := xl X) (G := xG X) (M := M)) ?_
  show S0 X _ M 9 [some (.ref (ga (xG X) 2))] [.int 0, .int 129] _
  refine s_ishr (pc := 9) dJ0_length_8abf5_9 ?_
  rw [show sr 129 0 = 129 by decide]
  exact s_iret rfl dJ0_length_8abf5_10
abbrev Y_pcheck : Sta := (RJ3, "checkIndex", cJ3_checkIndex_8e157, 3, some .int, 1)
theorem t_pcheck {l : Launch} {G : Gh} {M : Mem} {i n : Int32} {v : Value} (hv : v = .null ∨ ∃ b, v = .ref b) (h0 : ¬ i < 0) (hi : i < n) : Ctr l G yJ3_checkIndex_8e157 Y_pcheck M [.int i, .int n, v] M (some (.int i)) := by
  have hL : [some (.int i), some (.int n), some v] = Lof [.int i, .int n, v] ++ List.replicate 0 none := by
    rcases hv with rfl | ⟨b, rfl⟩ <;> rfl
  have hk : (lg_sl [.int i, .int n, v]).length ≤ yL Y_pcheck := by
    rcases hv with rfl | ⟨b, rfl⟩ <;> exact nle rfl
  refine Ctr.of (Y := Y_pcheck) (L := [some (.int i), some (.int n), some v]) (t := some (M, some (.int i))) (by decide) rfl rfl hk (Lof_in 0 _ hL) (fun X hG hl => ?_) rfl
  refine s_iload_n (pc := 0) 0 dJ3_checkIndex_8e157_0 rfl rfl ?_
  refine s_ltF (pc := 1) 9 h0 dJ3_checkIndex_8e157_1 rfl ?_
  refine s_iload_n (pc := 4) 0 dJ3_checkIndex_8e157_4 rfl rfl ?_
  refine s_iload_n (pc := 5) 1 dJ3_checkIndex_8e157_5 rfl rfl ?_
  refine s_icltT (pc := 6) 16 hi dJ3_checkIndex_8e157_6 rfl ?_
  refine s_iload_n (pc := 16) 0 dJ3_checkIndex_8e157_16 rfl rfl ?_
  exact s_iret rfl dJ3_checkIndex_8e157_17
abbrev Y_scheck : Sta := (RJ0, "checkIndex", cJ0_checkIndex_df160, 2, none, 2)
theorem s_sioobe {X : Ctx} {Y : Sta} {M : Mem} {pc : Nat} {L : List (Option Value)} {st : List Value} {t : Option (Mem × Option Value)} (hd : decode (yc Y) pc = .ok (.getstatic 1053, 3)) (ho : yo Y = RJ0) (k : ∀ v : Value, (v = .null ∨ ∃ b, v = .ref b) → S0 X Y M (pc + 3) L (v :: st) t) : S0 X Y M pc L st t := by
  intro M' r e
  refine ⟨(k .null (Or.inl rfl) M' r e).1, fun C b1 b2 H locs ls g1 g2 g3 g4 => ?_⟩
  obtain ⟨v, hv, hz⟩ := C.2.2.2.2.2.1.2.2.2.2.2.2.2.2
  exact va_gets (own := RJ0) (ref := RJ3) C.1 C.2.1 hz g3 (by rw [← ho]; exact C.2.2.1) (C.2.2.2.1 _ (us (i := 3) rfl)) (fun _ h => h) hd ((k v hv M' r e).2 C b1 b2 H locs ls g1 g2 g3 g4)
theorem t_scheck {l : Launch} {G : Gh} {M : Mem} {i n : Int32} (h0 : ¬ i < 0) (hi : i < n) : Ctr l G yJ0_checkIndex_df160 Y_scheck M [.int i, .int n] M none := by
  refine Ctr.of (Y := Y_scheck) (L := [some (.int i), some (.int n)]) (t := some (M, none)) (by decide) rfl rfl (nle rfl) (Lof_in 0 _ rfl) (fun X hG hl => ?_) rfl
  subst hG
  subst hl
  refine s_iload_n (pc := 0) 0 dJ0_checkIndex_df160_0 rfl rfl ?_
  refine s_iload_n (pc := 1) 1 dJ0_checkIndex_df160_1 rfl rfl ?_
  refine s_sioobe (pc := 2) dJ0_checkIndex_df160_2 rfl (fun v hv => ?_)
  refine s_callS (n := 3) (pc := 5) (As := [.int i, .int n, v]) (st := []) ⟨us (i := 28) rfl, us (i := 29) rfl, by decide, by decide, by decide +kernel⟩ (us (i := 27) rfl) (us (i := 26) rfl) rfl rfl (nle rfl) (nle rfl) (nle rfl) dJ0_checkIndex_df160_5 (t_pcheck (l := xl X) (G := xG X) (M := M) hv h0 hi) ?_
  show S0 X _ M 8 [some (.int i), some (.int n)] [.int i] _
  refine s_pop (pc := 8) dJ0_checkIndex_df160_8 rfl ?_
  exact s_vret rfl dJ0_checkIndex_df160_9
theorem tx_lt {i : Int32} (hi : vp_in i 129) : ¬ i < 0 ∧ i < 129 ∧ i.toNatClampNeg < 129 := by
  have h0 : ¬ i < 0 := fun q => hi (Or.inl q)
  have hlt : i.toNatClampNeg < 129 := Nat.not_le.mp fun q => hi (Or.inr q)
  refine ⟨h0, ?_, hlt⟩
  rw [Int32.lt_iff_toInt_lt, i_nn h0]
  show (i.toNatClampNeg : Int) < 129
  omega
theorem tx_nar : ∀ j, j < 129 → narrow .char (.int (txCn j)) = .int (txCn j) := by decide +kernel
abbrev Y_lchar : Sta := (RJ1, "charAt", cJ1_charAt_3b067, 2, some .char, 3)
theorem t_lchar {l : Launch} {G : Gh} {M : Mem} {i : Int32} (hi : vp_in i 129) : Ctr l G yJ1_charAt_3b067 Y_lchar M [.ref (ga G 3), .int i] M (some (.int (txC i))) := by
  obtain ⟨h0, h1, h2⟩ := tx_lt hi
  refine Ctr.of (Y := Y_lchar) (L := [some (.ref (ga G 3)), some (.int i)]) (t := some (M, some (.int (txC i)))) (by decide) rfl rfl (nle rfl) (Lof_in 0 _ rfl) (fun X hG hl => ?_) rfl
  subst hG
  subst hl
  refine s_iload_n (pc := 0) 1 dJ1_charAt_3b067_0 rfl rfl ?_
  refine s_aload_n (pc := 1) 0 dJ1_charAt_3b067_1 rfl rfl ?_
  refine s_vlen (pc := 2) dJ1_charAt_3b067_2 ?_
  refine s_callS (n := 2) (pc := 3) (As := [.int i, .int 129]) (st := []) ⟨us (i := 25) rfl, us (i := 4) rfl, by decide, by decide, by decide +kernel⟩ (us (i := 24) rfl) (us (i := 23) rfl) rfl rfl (nle rfl) (nle rfl) (nle rfl) dJ1_charAt_3b067_3 (t_scheck (l := xl X) (G := xG X) (M := M) h0 h1) ?_
  show S0 X _ M 6 [some (.ref (ga (xG X) 3)), some (.int i)] [] _
  refine s_aload_n (pc := 6) 0 dJ1_charAt_3b067_6 rfl rfl ?_
  refine s_iload_n (pc := 7) 1 dJ1_charAt_3b067_7 rfl rfl ?_
  refine s_vat (pc := 8) hi dJ1_charAt_3b067_8 ?_
  refine s_sipush (pc := 9) 255 dJ1_charAt_3b067_9 ks_255 ?_
  refine s_iand (pc := 12) dJ1_charAt_3b067_12 ?_
  refine s_i2c (pc := 13) dJ1_charAt_3b067_13 ?_
  exact s_nret rfl (tx_nar _ h2) dJ1_charAt_3b067_14
abbrev Y_charAt : Sta := (RJ0, "charAt", cJ0_charAt_5068e, 2, some .char, 4)
theorem t_charAt {l : Launch} {G : Gh} {M : Mem} {i : Int32} (hi : vp_in i 129) : Ctr l G yJ0_charAt_5068e Y_charAt M [.ref (ga G 2), .int i] M (some (.int (txC i))) := by
  obtain ⟨h0, h1, h2⟩ := tx_lt hi
  refine Ctr.of (Y := Y_charAt) (L := [some (.ref (ga G 2)), some (.int i)]) (t := some (M, some (.int (txC i)))) (by decide) rfl rfl (nle rfl) (Lof_in 0 _ rfl) (fun X hG hl => ?_) rfl
  subst hG
  subst hl
  refine s_aload_n (pc := 0) 0 dJ0_charAt_5068e_0 rfl rfl ?_
  refine s_callT (pc := 1) (As := []) (st := []) rfl ⟨us (i := 19) rfl, us (i := 4) rfl, by decide, by decide, by decide +kernel⟩ (us (i := 17) rfl) (us (i := 18) rfl) (us (i := 16) rfl) rfl rfl (nle rfl) (nle rfl) (nle rfl) dJ0_charAt_5068e_1 (t_isLatin1 (l := xl X) (G := xG X) (M := M)) ?_
  show S0 X _ M 4 [some (.ref (ga (xG X) 2)), some (.int i)] [.int 1] _
  refine s_eqF (pc := 4) 16 (by decide) dJ0_charAt_5068e_4 rfl ?_
  refine s_aload_n (pc := 7) 0 dJ0_charAt_5068e_7 rfl rfl ?_
  refine s_value (pc := 8) dJ0_charAt_5068e_8 rfl ?_
  refine s_iload_n (pc := 11) 1 dJ0_charAt_5068e_11 rfl rfl ?_
  refine s_callS (n := 2) (pc := 12) (As := [.ref (ga (xG X) 3), .int i]) (st := []) ⟨us (i := 22) rfl, us (i := 5) rfl, by decide, by decide, by decide +kernel⟩ (us (i := 21) rfl) (us (i := 20) rfl) rfl rfl (nle rfl) (nle rfl) (nle rfl) dJ0_charAt_5068e_12 (t_lchar (l := xl X) (G := xG X) (M := M) hi) ?_
  show S0 X _ M 15 [some (.ref (ga (xG X) 2)), some (.int i)] [.int (txC i)] _
  exact s_nret rfl (tx_nar _ h2) dJ0_charAt_5068e_15
section
variable {X : Ctx} {Y : Sta} {M M1 : Mem} {pc pc' : Nat} {L L' : List (Option Value)} {st st' : List Value} {t : Option (Mem × Option Value)} {idx : Nat}
theorem s_strlen (hl : Cond.methodLink (yo Y) idx yJ0_length_8abf5 ∈ lw_good) (hv : 3 ≤ yv Y) (hst : (st.map fun v => v.category).sum ≤ 8) (hd : decode (yc Y) pc = .ok (.invokevirtual idx, 3)) (k : S0 X Y M (pc + 3) L (.int 129 :: st) t) : S0 X Y M pc L (.ref (ga (xG X) 2) :: st) t :=
  s_callT (As := []) (st := st) (Y' := Y_length) rfl ⟨us (i := 8) rfl, us (i := 4) rfl, by decide, by decide, by decide +kernel⟩ (us (i := 6) rfl) (us (i := 7) rfl) hl rfl rfl hv (nle rfl) hst hd (t_length (l := xl X) (G := xG X) (M := M)) k
theorem s_charAt {i : Int32} (hi : vp_in i 129) (hl : Cond.methodLink (yo Y) idx yJ0_charAt_5068e ∈ lw_good) (hv : 5 ≤ yv Y) (hst : (st.map fun v => v.category).sum ≤ 8) (hd : decode (yc Y) pc = .ok (.invokevirtual idx, 3)) (k : S0 X Y M (pc + 3) L (.int (txC i) :: st) t) : S0 X Y M pc L (.int i :: .ref (ga (xG X) 2) :: st) t :=
  s_callT (n := 1) (As := [.int i]) (st := st) (Y' := Y_charAt) rfl ⟨us (i := 15) rfl, us (i := 4) rfl, by decide, by decide, by decide +kernel⟩ (us (i := 13) rfl) (us (i := 14) rfl) hl rfl rfl hv (nle rfl) hst hd (t_charAt (l := xl X) (G := xG X) (M := M) hi) k
end
