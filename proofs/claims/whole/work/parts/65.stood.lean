/-! stood in for, on both sides -/
theorem nodup_le : ∀ (n : Nat) (L : List Nat), (∀ x ∈ L, x < n) → L.Nodup → L.length ≤ n := by
  intro n
  induction n with
  | zero =>
    intro L h _
    cases L with
    | nil => exact Nat.le_refl 0
    | cons a L => exact absurd (h a List.mem_cons_self) (by omega)
  | succ n ih =>
    intro L h hd
    by_cases hm : n ∈ L
    · have h1 := ih (L.erase n) (fun x hx => by
        have h2 := (List.Nodup.mem_erase_iff hd).mp hx
        have h3 := h x h2.2
        have h4 := h2.1
        omega) (hd.erase n)
      rw [List.length_erase_of_mem hm] at h1
      omega
    · have := ih L (fun x hx => by
        have h3 := h x hx
        have h4 : x ≠ n := fun e => hm (e ▸ hx)
        omega) hd
      omega
/-- the chain of what stands in -/
def chn (sd : Nat → Option Nat) (o : Option Nat) : Nat → Option Nat
  | 0 => o
  | k + 1 => (chn sd o k).bind sd
def gF (gt : Nat → Bool) (sd : Nat → Option Nat) : Nat → Option Nat → Option Nat
  | 0, _ => none
  | _ + 1, none => none
  | f + 1, some t => if gt t then some t else gF gt sd f (sd t)
theorem gF_none {gt : Nat → Bool} {sd : Nat → Option Nat} {f : Nat} : gF gt sd f none = none := by
  cases f <;> rfl
theorem chn_shift {sd : Nat → Option Nat} {o : Option Nat} : ∀ k, chn sd (o.bind sd) k = chn sd o (k + 1)
  | 0 => rfl
  | k + 1 => by rw [chn, chn_shift k]; rfl
theorem gF_chn {gt : Nat → Bool} {sd : Nat → Option Nat} : ∀ (f : Nat) (o : Option Nat), gF gt sd (f + 1) o = gF gt sd f o ∨ (∃ u, chn sd o f = some u ∧ gt u = true ∧ ∀ k, k < f → ∀ v, chn sd o k = some v → gt v = false)
  | 0, o => by
    cases o with
    | none => exact Or.inl rfl
    | some t =>
      by_cases h : gt t = true
      · exact Or.inr ⟨t, rfl, h, fun k hk => by omega⟩
      · refine Or.inl ?_
        show (if gt t then some t else gF gt sd 0 (sd t)) = none
        rw [if_neg h]
        rfl
  | f + 1, o => by
    cases o with
    | none => exact Or.inl (by rw [gF_none, gF_none])
    | some t =>
      by_cases h : gt t = true
      · exact Or.inl (by rw [gF, if_pos h, gF, if_pos h])
      · rcases gF_chn (gt := gt) (sd := sd) f (sd t) with q | ⟨u, q1, q2, q3⟩
        · refine Or.inl ?_
          rw [gF, if_neg h, q, gF, if_neg h]
        · refine Or.inr ⟨u, ?_, q2, fun k hk v hv => ?_⟩
          · rw [← chn_shift]
            exact q1
          · cases k with
            | zero =>
              cases hv
              simpa using h
            | succ k =>
              rw [← chn_shift] at hv
              exact q3 k (by omega) v hv
theorem gF_67 {gt : Nat → Bool} {sd : Nat → Option Nat} (hsd : ∀ t, t < 6 → ∀ u, sd t = some u → u < 6) {t : Nat} (ht : t < 6) : gF gt sd 7 (some t) = gF gt sd 6 (some t) := by
  rcases gF_chn (gt := gt) (sd := sd) 6 (some t) with q | ⟨u, q1, q2, q3⟩
  · exact q
  exfalso
  have lt : ∀ k v, chn sd (some t) k = some v → v < 6 := by
    intro k
    induction k with
    | zero => intro v hv; cases hv; exact ht
    | succ k ih =>
      intro v hv
      rw [chn] at hv
      obtain ⟨w, hw, hv2⟩ := Option.bind_eq_some_iff.mp hv
      exact hsd w (ih w hw) v hv2
  have ex : ∀ j k, k + j = 6 → ∃ v, chn sd (some t) k = some v := by
    intro j
    induction j with
    | zero => intro k hk; exact ⟨u, by rw [show k = 6 by omega]; exact q1⟩
    | succ j ih =>
      intro k hk
      obtain ⟨v, hv⟩ := ih (k + 1) (by omega)
      rw [chn] at hv
      obtain ⟨w, hw, _⟩ := Option.bind_eq_some_iff.mp hv
      exact ⟨w, hw⟩
  have eq : ∀ i j, chn sd (some t) i = chn sd (some t) j → ∀ d, chn sd (some t) (i + d) = chn sd (some t) (j + d) := by
    intro i j e d
    induction d with
    | zero => exact e
    | succ d ih => rw [← Nat.add_assoc, ← Nat.add_assoc, chn, chn, ih]
  let L := (List.range 7).map (fun k => (chn sd (some t) k).getD 0)
  have hL : L.length = 7 := by simp [L]
  have hle : L.length ≤ 6 := by
    apply nodup_le 6 L
    · intro x hx
      obtain ⟨k, hk, rfl⟩ := List.mem_map.mp hx
      obtain ⟨v, hv⟩ := ex (6 - k) k (by have := List.mem_range.mp hk; omega)
      rw [hv]
      exact lt k v hv
    · have key : ∀ i j, i < j → j < 7 → (chn sd (some t) i).getD 0 ≠ (chn sd (some t) j).getD 0 := by
        intro i j hij hj e
        obtain ⟨a, ha⟩ := ex (6 - i) i (by omega)
        obtain ⟨b, hb⟩ := ex (6 - j) j (by omega)
        rw [ha, hb] at e
        have e2 : chn sd (some t) i = chn sd (some t) j := by rw [ha, hb]; exact congrArg some e
        have e3 := eq i j e2 (6 - j)
        rw [show j + (6 - j) = 6 by omega, q1] at e3
        have := q3 (i + (6 - j)) (by omega) u e3
        rw [q2] at this
        cases this
      show List.Nodup ((List.range 7).map _)
      rw [List.Nodup, List.pairwise_map]
      have hp : List.Pairwise (· < ·) (List.range 7) := List.pairwise_lt_range
      exact List.Pairwise.imp_of_mem (fun {a b} _ hb hab => key a b hab (List.mem_range.mp hb)) hp
  omega
section
variable {M : Mem} {sw : Nat → Nat} {gt : Nat → Bool} {sd : Nat → Option Nat}
theorem gF_lt (hsd : ∀ t, t < 6 → ∀ u, sd t = some u → u < 6) : ∀ (f : Nat) (o : Option Nat), (∀ t, o = some t → t < 6) → ∀ u, gF gt sd f o = some u → u < 6
  | 0, _, _, u, h => by cases h
  | f + 1, none, _, u, h => by cases h
  | f + 1, some t, ho, u, h => by
    rw [gF] at h
    split at h
    · cases h; exact ho t rfl
    · exact gF_lt hsd f (sd t) (hsd t (ho t rfl)) u h
theorem c_gotI (hC : LayC M) (ht : THV M sw gt sd) {t : Nat} (h6 : t < 6) : f_X10_gotInstead M 1 (nI t) = some (oI (gF gt sd 6 (some t))) := by
  apply TT.is
  unfold f_X10_gotInstead
  unfold LayC at hC
  rw [TT_bind]
  simp only [hC, grd_T, Option.bind_some]
  refine TT_for 6 (fun k s => ∃ o, s = (oI o, nI k) ∧ (∀ u, o = some u → u < 6) ∧ gF gt sd (6 - k) o = gF gt sd 6 (some t)) ?_ (Nat.zero_le 6) ⟨some t, rfl, fun u hu => by cases hu; exact h6, rfl⟩
  rintro k _ hk ⟨o, rfl, ho, he⟩
  rw [show (6 : Int32) = nI 6 from rfl, TT_if, nleI (by omega) (by omega)]
  refine ⟨fun q => ?_, fun q => ?_⟩
  · rw [TT_some]
    show TT (some _) _
    rw [TT_some, ← he, show 6 - k = 0 by omega]
    rfl
  · simp only [c_isThing, Option.bind_some]
    cases o with
    | none =>
      rw [if_neg (show ¬ (0 ≤ oI none ∧ oI none ≤ 5) from fun w => absurd w.1 (by decide)), if_pos rfl, TT_some]
      show TT (some _) _
      rw [TT_some, ← he, gF_none]
      rfl
    | some u =>
      have hu := ho u rfl
      rw [oI_some, if_pos (show 0 ≤ nI u ∧ nI u ≤ 5 from ⟨by rw [show (0 : Int32) = nI 0 from rfl, nleI (by omega) (by omega)]; omega, by rw [show (5 : Int32) = nI 5 from rfl, nleI (by omega) (by omega)]; omega⟩), if_neg (by decide), grd_y ((nvp (by omega)).mpr (by omega)), grd_y ((nvp (by omega)).mpr (by omega)), nclampI (by omega)]
      obtain ⟨-, hs, -, -, -, -, e3, e4⟩ := ht u hu
      obtain ⟨f, hf⟩ : ∃ f, 6 - k = f + 1 := ⟨5 - k, by omega⟩
      rw [hf, gF] at he
      rw [e3, e4]
      cases hg : gt u with
      | true =>
        rw [hg, if_pos rfl] at he
        rw [if_pos rfl, if_pos rfl, TT_some]
        show TT (some _) _
        rw [TT_some, ← he]
        rfl
      | false =>
        rw [hg, if_neg (by decide)] at he
        rw [if_neg (by decide)]
        simp only [bv]
        rw [TT_some]
        exact ⟨by omega, sd u, by rw [nsucc], fun v hv => (hs v hv).1, by rw [← he, show 6 - (k + 1) = f by omega]⟩
theorem r_gotF (hM : LayM M) (ht : THV M sw gt sd) {t : Nat} (h6 : t < 6) : f_X12_gotFor M 47 (nI t) = some (oI (gF gt sd 6 (some t))) := by
  have hsd : ∀ t, t < 6 → ∀ u, sd t = some u → u < 6 := fun t h u hu => ((ht t h).2.1 u hu).1
  rw [← gF_67 hsd h6]
  apply TT.is
  unfold f_X12_gotFor
  unfold LayM at hM
  rw [TT_bind]
  simp only [hM, grd_T, Option.bind_some]
  refine TT_for 7 (fun k s => ∃ o, s = (oI o, nI k) ∧ (∀ u, o = some u → u < 6) ∧ gF gt sd (7 - k) o = gF gt sd 7 (some t)) ?_ (Nat.zero_le 7) ⟨some t, rfl, fun u hu => by cases hu; exact h6, rfl⟩
  rintro k _ hk ⟨o, rfl, ho, he⟩
  rw [show (6 : Int32) = nI 6 from rfl, show (12 : Int32) = nI 12 from rfl, TT_if, nltI (by omega) (by omega)]
  refine ⟨fun q => ?_, fun q => ?_⟩
  · rw [TT_some]
    show TT (some _) _
    rw [TT_some, ← he, show 7 - k = 0 by omega]
    rfl
  · simp only
    cases o with
    | none =>
      rw [oI_none, if_pos rfl, TT_some]
      show TT (some _) _
      rw [TT_some, ← he, gF_none]
      rfl
    | some u =>
      have hu := ho u rfl
      rw [oI_some, if_neg (nne_m1 (by omega)), nadd, nadd, grd_y ((nvp (by omega)).mpr (by omega)), grd_y ((nvp (by omega)).mpr (by omega)), nclampI (by omega), nclampI (by omega)]
      obtain ⟨-, hs, -, e3, e4, -⟩ := ht u hu
      obtain ⟨f, hf⟩ : ∃ f, 7 - k = f + 1 := ⟨6 - k, by omega⟩
      rw [hf, gF] at he
      rw [e3, e4]
      cases hg : gt u with
      | true =>
        rw [hg, if_pos rfl] at he
        rw [if_pos rfl, if_pos rfl, TT_some]
        show TT (some _) _
        rw [TT_some, ← he]
        rfl
      | false =>
        rw [hg, if_neg (by decide)] at he
        rw [if_neg (by decide)]
        simp only [bv]
        rw [TT_some]
        exact ⟨by omega, sd u, by rw [nsucc], fun v hv => (hs v hv).1, by rw [← he, show 7 - (k + 1) = f by omega]⟩
def stO (gt : Nat → Bool) (sd : Nat → Option Nat) (t : Nat) : Option Nat := gF gt sd 6 (some t)
/-- the whole dish stood in for, and its answer -/
def stA (gt : Nat → Bool) (sd : Nat → Option Nat) (l : List Nat) : Int32 := if l.all (fun t => (stO gt sd t).isSome) then nI (num (l.map (fun t => (stO gt sd t).getD 0))) else -1
theorem stO_lt (ht : THV M sw gt sd) {t u : Nat} (h6 : t < 6) (h : stO gt sd t = some u) : u < 6 := gF_lt (fun t h u hu => ((ht t h).2.1 u hu).1) 6 (some t) (fun v hv => by cases hv; exact h6) u h
theorem c_stood (hC : LayC M) (ht : THV M sw gt sd) {l : List Nat} (hl : DL l) : f_X11_stood M 0 (nI (num l)) = some (stA gt sd l) := by
  have hC0 := hC
  have hr := hl.rank
  have h5 := hl.1
  apply TT.is
  unfold f_X11_stood
  unfold LayC at hC
  have hnum := hl.num
  rw [p_rank_y hl, Option.bind_some]
  simp only [bv]
  rw [if_neg (nne_m1 (by omega)), if_neg (nne_m1 (by omega))]
  simp only [hC, grd_T, Option.bind_some]
  rw [TT_bind]
  refine TT_for l.length (fun k s => ∃ (d r : List Nat), l.reverse = d ++ r ∧ d.length = k ∧ (∀ t ∈ d, (stO gt sd t).isSome = true) ∧ s = (nI (nr r), nI (nr (d.map (fun t => (stO gt sd t).getD 0))), nI (10 ^ k), nI k)) ?_ (Nat.zero_le _) ⟨[], l.reverse, rfl, rfl, by simp, rfl⟩
  rintro k _ hk ⟨d, r, hdr, hdk, hall, rfl⟩
  have hlen := congrArg List.length hdr
  rw [List.length_reverse, List.length_append] at hlen
  have hDr : DD r := ⟨by omega, fun x hx => hl.rev.2 x (by rw [hdr]; exact List.mem_append_right _ hx)⟩
  have hrn := hDr.nr
  have fin : r = [] → nI (nr (d.map (fun t => (stO gt sd t).getD 0))) = stA gt sd l := by
    rintro rfl
    have e : l = d.reverse := by
      rw [List.append_nil] at hdr
      rw [← hdr, List.reverse_reverse]
    unfold stA
    rw [if_pos, e, List.map_reverse, num, List.reverse_reverse]
    rw [e, List.all_eq_true]
    exact fun t ht => hall t (List.mem_reverse.mp ht)
  rw [show (5 : Int32) = nI 5 from rfl, TT_if, nleI (by omega) (by omega)]
  refine ⟨fun q => ?_, fun q => ?_⟩
  · rw [TT_some]
    show TT (some _) _
    rw [TT_some]
    exact fin (List.length_eq_zero_iff.mp (by omega))
  cases r with
  | nil =>
    rw [if_pos (show nI (nr []) ≤ 0 by decide), TT_some]
    show TT (some _) _
    rw [TT_some]
    exact fin rfl
  | cons x r =>
    obtain ⟨hDr2, hx⟩ := hDr.tl
    obtain ⟨e1, e2, e3, e4⟩ := nr_div (t := r) hx
    simp only
    rw [show (0 : Int32) = nI 0 from rfl, show (10 : Int32) = nI 10 from rfl, show (1 : Int32) = nI 1 from rfl, show (-nI 1 : Int32) = -1 from rfl, if_neg (by rw [nleI (by omega) (by omega)]; omega), nrem (by omega) (by omega) (by omega), e2, nsub (by omega), Nat.add_sub_cancel, c_gotI hC0 ht hx, Option.bind_some, ndiv (by omega) (by omega) (by omega), e1]
    cases hs : gF gt sd 6 (some x) with
    | none =>
      rw [oI_none, if_pos rfl, TT_some]
      show TT (some _) _
      rw [TT_some]
      unfold stA
      rw [if_neg]
      intro w
      rw [List.all_eq_true] at w
      have := w x (List.mem_reverse.mp (by rw [hdr]; simp))
      unfold stO at this
      rw [hs] at this
      cases this
    | some u =>
      have hu := stO_lt ht hx hs
      rw [oI_some, if_neg (nne_m1 (by omega))]
      rw [nadd, nmul, nadd, nmul, nadd, TT_some]
      rw [List.length_cons] at hlen
      refine ⟨by omega, d ++ [x], r, by rw [hdr]; simp, by rw [List.length_append, List.length_singleton, hdk], fun t htm => ?_, ?_⟩
      · rcases List.mem_append.mp htm with w | w
        · exact hall t w
        · rw [List.mem_singleton.mp w, stO, hs]
          rfl
      · rw [List.map_append, List.map_singleton, nr_app, List.length_map, hdk, stO, hs, Nat.pow_succ, Nat.mul_comm (u + 1)]
        rfl
theorem r_stood (hM : LayM M) (ht : THV M sw gt sd) {l : List Nat} (hl : DL l) : TT (f_X12_stood M 47 (nI (num l))) (fun q => Fr Spin M q.1 ∧ q.2 = stA gt sd l) := by
  have hM0 := hM
  have h5 := hl.1
  unfold f_X12_stood
  unfold LayM at hM
  rw [p_dish_y hl, Option.bind_some, if_neg (by decide)]
  simp only [hM, grd_T]
  rw [TT_bind]
  refine (p_opens hM0 hl).mono ?_
  rintro M1 ⟨hF, h7, hp⟩
  rw [TT_bind]
  let g : Nat → Nat := fun t => (stO gt sd t).getD 0
  refine TT_for l.length (fun k s => s.2 = nI k ∧ Fr Spin M s.1 ∧ mI s.1 47 7 = nI l.length ∧ (∀ t ∈ l.take k, (stO gt sd t).isSome = true) ∧ (∀ j, j < k → mI s.1 52 j = nI ((l.map g).getD j 0)) ∧ ∀ j, k ≤ j → j < l.length → mI s.1 52 j = nI (l.getD j 0)) ?_ (Nat.zero_le _) ⟨rfl, hF, h7, by simp, fun j hj => by omega, fun j _ hj => hp j hj⟩
  rintro k ⟨M2, x1⟩ hk ⟨e, hF2, e7, hA, hB, hD⟩
  simp only at e hF2 e7 hA hB hD ⊢
  subst e
  have hM2 := hM0.fr hF2
  have hM3 := hM2
  have ht2 : THV M2 sw gt sd := fun t h => by
    have e : ∀ a k, (a = 49 ∨ a = 2 ∨ a = 3 ∨ a = 4) → mI M2 a k = mI M a k := fun a k h => hF2.i (fun q => by unfold Spin at q; omega)
    rw [e 49 _ (by omega), e 49 _ (by omega), e 49 _ (by omega), e 2 _ (by omega), e 3 _ (by omega), e 4 _ (by omega)]
    exact ht t h
  unfold LayM at hM3
  have hgl : DL (l.map g) ∨ True := Or.inr trivial
  rw [e7, TT_if, nleI (by omega) (by omega)]
  refine ⟨fun q => ?_, fun q => ?_⟩
  · obtain rfl : k = l.length := by omega
    rw [List.take_length] at hA
    rw [TT_some]
    show TT (Option.bind _ _) _
    have hDg : DL (l.map g) := ⟨by rw [List.length_map]; exact h5, fun d hd => by
      obtain ⟨t, hm, rfl⟩ := List.mem_map.mp hd
      have hs := hA t hm
      obtain ⟨u, hu⟩ := Option.isSome_iff_exists.mp hs
      show (stO gt sd t).getD 0 < 6
      rw [hu]
      exact stO_lt ht (hl.2 t hm) hu⟩
    rw [TT_bind, p_closes hM2 hDg (by rw [List.length_map]; exact e7) (fun j hj => hB j (by rw [List.length_map] at hj; exact hj)), TT_some, TT_some]
    refine ⟨hF2, ?_⟩
    unfold stA
    rw [if_pos]
    rw [List.all_eq_true]
    exact hA
  · have hg : l.getD k 0 < 6 := getD_lt hl
    have hmem : l.getD k 0 ∈ l := by
      rw [List.getD_eq_getElem?_getD, List.getElem?_eq_getElem (by omega)]
      exact List.getElem_mem _
    simp only [hM3, grd_T, Option.bind_some, mR_wI, ok_wI, mL_wI, bv]
    rw [grd_y ((nvp (by omega)).mpr (by omega)), nclampI (by omega), hD k (by omega) (by omega), r_gotF hM2 ht2 hg, Option.bind_some, grd_y ((nvp (by omega)).mpr (by omega)), grd_y ((nvp (by omega)).mpr (by omega)), mI_wIs]
    cases hs : gF gt sd 6 (some (l.getD k 0)) with
    | none =>
      rw [oI_none, if_pos rfl, TT_some]
      show TT (some _) _
      rw [TT_some]
      refine ⟨hF2.wI (Or.inl rfl), ?_⟩
      unfold stA
      rw [if_neg]
      intro w
      rw [List.all_eq_true] at w
      have := w _ hmem
      unfold stO at this
      rw [hs] at this
      cases this
    | some u =>
      have hu := stO_lt ht hg hs
      rw [oI_some, if_neg (nne_m1 (by omega)), TT_some]
      refine ⟨by omega, by rw [nsucc], hF2.wI (Or.inl rfl), ?_, ?_, fun j hj => ?_, fun j h1 h2 => ?_⟩
      · rw [mI_wI_row (by decide)]
        exact e7
      · rw [take_succ (by omega)]
        intro t htm
        rcases List.mem_append.mp htm with w | w
        · exact hA t w
        · rw [List.mem_singleton.mp w, stO, hs]
          rfl
      · rw [mI_wI]
        by_cases hj2 : j = k
        · subst hj2
          rw [if_pos ⟨rfl, rfl⟩]
          congr 1
          have e : (stO gt sd (l.getD j 0)).getD 0 = u := by rw [stO, hs]; rfl
          rw [List.getD_eq_getElem?_getD, List.getElem?_map, List.getElem?_eq_getElem (by omega)]
          rw [List.getD_eq_getElem?_getD, List.getElem?_eq_getElem (by omega)] at e
          exact e.symm
        · rw [if_neg (fun w => hj2 w.2)]
          exact hB j (by omega)
      · rw [mI_wI_ne (by omega)]
        exact hD j (by omega) h2
end
theorem both_stood {M : Mem} (h : REL M) (p : Int32) : ∃ x, f_X11_stood M 0 p = some x ∧ TT (f_X12_stood M 47 p) (fun q => Fr Spin M q.1 ∧ q.2 = x) := by
  obtain ⟨sw, gt, sd, ht⟩ := h.thv
  rcases dn_or p with ⟨l, hl, rfl⟩ | hp
  · exact ⟨_, c_stood h.1 ht hl, r_stood h.2.1 ht hl⟩
  · refine ⟨-1, ?_, ?_⟩
    · apply TT.is
      unfold f_X11_stood
      rw [p_rankOf_n hp, Option.bind_some]
      simp only [bv, if_true]
      rw [TT_bind]
      refine TT_for 0 (fun k s => s = (-1, -1, 1, 0)) ?_ (Nat.le_refl 0) rfl
      rintro k _ hk rfl
      rw [if_neg (by decide), if_pos (by decide), TT_some]
      show TT (some _) _
      rw [TT_some]
    · unfold f_X12_stood
      rw [p_isDish_n hp, Option.bind_some, if_pos rfl, TT_some]
      exact ⟨Fr.rf, rfl⟩
