/-! LINES: the reference tries all rows -/
def S73 (a _k : Nat) : Prop := a = 73
def S723 (a _k : Nat) : Prop := a = 72 ∨ a = 73
noncomputable def rl6 (a0 : Nat) (nn : Int32) : Mem × Int32 → Option ((Mem × Int32) ⊕ (Mem)) := (fun s172 => if nn ≤ s172.2 then (some (.inr s172.1)) else (Option.bind (mR s172.1 a0 43) (fun r181 => Option.bind (mR s172.1 a0 42) (fun r182 => grd (okO s172.1 14 r182) (grd (vp_in s172.2 (mL s172.1 r182)) (grd (okO s172.1 14 r181) (grd (vp_in s172.2 (mL s172.1 r181)) (bv (wI s172.1 r181 s172.2.toNatClampNeg (mI s172.1 r182 s172.2.toNatClampNeg)) (fun M187 => bv (s172.2 + 1 : Int32) (fun x191 => some (.inl (M187, x191))))))))))))
theorem r_rl6 {M : Mem} (hM : LayM M) {n : Nat} (hn : n ≤ 6) : TT (loopO (rl6 47 (nI n)) (M, 0)) (fun M1 => Fr S73 M M1 ∧ ∀ k, k < n → mI M1 73 k = mI M 72 k) := by
  refine TT_for n (fun k s => ∃ M', s = (M', nI k) ∧ Fr S73 M M' ∧ ∀ j, j < k → mI M' 73 j = mI M 72 j) ?_ (Nat.zero_le _) ⟨M, rfl, Fr.rf, fun j hj => by omega⟩
  rintro k s hk ⟨M', rfl, hF, hv⟩
  obtain ⟨l1, l2, l3, l4, l5, l6⟩ := ly72 (hM.fr hF)
  unfold rl6
  simp only
  by_cases w : k = n
  · rw [if_pos ((nleI (by omega) (by omega)).mpr (by omega)), TT_some]
    subst w
    exact ⟨hF, hv⟩
  · rw [if_neg (fun q => w (by have := (nleI (by omega) (by omega)).mp q; omega)), l4, Option.bind_some, l1, Option.bind_some, grd_y l2, l3, grd_y ((nvp (by omega)).mpr (by omega)), grd_y l5, l6, grd_y ((nvp (by omega)).mpr (by omega)), nclampI (by omega), TT_bv, TT_bv, TT_some]
    refine ⟨by omega, _, by rw [nsucc], hF.wI rfl, fun j hj => ?_⟩
    rw [mI_wI]
    by_cases z : j = k
    · rw [if_pos ⟨rfl, z⟩, z, hF.i (by unfold S73; omega)]
    · rw [if_neg (fun q => z q.2)]
      exact hv j (by omega)
def RFI (W : Nat → Nat → Nat) (n X lst rows : Nat) (M : Mem) : Prop := (∀ c, c < X → TREE (mkC n c) n → cs W (mkC n c) n < 1000000 → lst ≤ cs W (mkC n c) n) ∧ ((lst = 1000000 ∧ rows = 0) ∨ (lst < 1000000 ∧ rows = cg (GDL W n lst) X ∧ 1 ≤ rows ∧ ∀ c, fg (GDL W n lst) X = some c → ∀ k, k < n → mI M 73 k = oI (mkC n c k)))
noncomputable def rl4 (a0 : Nat) (nn all : Int32) : Mem × Int32 × Int32 × Int32 → Option ((Mem × Int32 × Int32 × Int32) ⊕ (Mem × Int32 × Int32)) := (fun s109 => if all ≤ s109.2.2.2 then (some (.inr (s109.1, s109.2.1, s109.2.2.1))) else (bv (nn - 1 : Int32) (fun x118 => Option.bind (loopO (rl5 a0 nn) (s109.1, s109.2.2.2, 0, x118)) (fun (x126 : Mem × Int32) => bv (fun (s158 : Mem × Int32 × Int32) => bv (s109.2.2.2 + 1 : Int32) (fun x162 => some (.inl (s158.1, s158.2.1, s158.2.2, x162)))) (fun j157 => if 1000000 ≤ x126.2 then (j157 (x126.1, s109.2.1, s109.2.2.1)) else (if s109.2.1 < x126.2 then (j157 (x126.1, s109.2.1, s109.2.2.1)) else (Option.bind (f_X12_isTree x126.1 a0 nn) (fun q163 => if q163 = 0 then (j157 (x126.1, s109.2.1, s109.2.2.1)) else (bv (fun (s167 : Mem × Int32 × Int32) => bv (s167.2.2 + 1 : Int32) (fun x171 => j157 (s167.1, s167.2.1, x171))) (fun j166 => if s109.2.1 ≤ x126.2 then (j166 (x126.1, s109.2.1, s109.2.2.1)) else (Option.bind (loopO (rl6 a0 nn) (x126.1, 0)) (fun (x179 : Mem) => j166 (x179, x126.2, 0)))))))))))))
theorem RFI.fr {W : Nat → Nat → Nat} {n X lst rows : Nat} {M M1 : Mem} (h : RFI W n X lst rows M) (hF : Fr S72 M M1) : RFI W n X lst rows M1 := ⟨h.1, by
  rcases h.2 with q | ⟨q1, q2, q3, q4⟩
  · exact Or.inl q
  · exact Or.inr ⟨q1, q2, q3, fun c hc k hk => by rw [hF.i (by unfold S72; omega)]; exact q4 c hc k hk⟩⟩
/-- a row that is passed by -/
theorem RFI.skip {W : Nat → Nat → Nat} {n X lst rows : Nat} {M : Mem} (h : RFI W n X lst rows M) (hno : TREE (mkC n X) n → cs W (mkC n X) n < 1000000 → lst < cs W (mkC n X) n) : RFI W n (X + 1) lst rows M := by
  refine ⟨fun c hc ht hl => ?_, ?_⟩
  · by_cases z : c = X
    · subst z
      exact Nat.le_of_lt (hno ht hl)
    · exact h.1 c (by omega) ht hl
  · rcases h.2 with q | ⟨q1, q2, q3, q4⟩
    · exact Or.inl q
    · have hg : ¬ GDL W n lst X := fun g => by
        have := hno g.1 (by rw [g.2]; exact q1)
        rw [g.2] at this
        omega
      obtain ⟨a, b⟩ := cg_n hg
      exact Or.inr ⟨q1, by rw [a]; exact q2, q3, by rw [b]; exact q4⟩
theorem r_rl4 {M : Mem} (hM : LayM M) {n : Nat} (hn0 : 0 < n) (hn : n ≤ 6) {W : Nat → Nat → Nat} (hW : APW M n W) (bW : ∀ i j, W i j ≤ 1000000) : TT (loopO (rl4 47 (nI n) (nI ((n + 1) ^ n))) (M, 1000000, 0, 0)) (fun z => ∃ M1 lst rows, z = (M1, nI lst, nI rows) ∧ rows ≤ 117649 ∧ lst ≤ 1000000 ∧ Fr S723 M M1 ∧ RFI W n ((n + 1) ^ n) lst rows M1) := by
  have hp := pow6 hn (Nat.le_refl n)
  refine TT_for ((n + 1) ^ n) (fun X s => ∃ M' lst rows, s = (M', nI lst, nI rows, nI X) ∧ rows ≤ X ∧ lst ≤ 1000000 ∧ Fr S723 M M' ∧ RFI W n X lst rows M') ?_ (Nat.zero_le _) ⟨M, 1000000, 0, rfl, Nat.le_refl _, Nat.le_refl _, Fr.rf, (fun c hc => by omega), Or.inl ⟨rfl, rfl⟩⟩
  rintro X s hX ⟨M', lst, rows, rfl, hrw, hlb, hF, hI⟩
  have hM' := hM.fr hF
  unfold rl4
  simp only
  by_cases w : X = (n + 1) ^ n
  · rw [if_pos ((nleI (by omega) (by omega)).mpr (by omega)), TT_some]
    subst w
    exact ⟨M', lst, rows, rfl, by omega, hlb, hF, hI⟩
  · have hlt : X < (n + 1) ^ n := by omega
    rw [if_neg (fun q => w (by have := (nleI (by omega) (by omega)).mp q; omega)), TT_bv, TT_bind]
    have hW' : APW M' n W := fun i j hi hj => by rw [hF.i (by unfold S723; omega)]; exact hW i j hi hj
    refine (r_rl5 hM' hn0 hn hW' bW (c := X) (by omega)).mono ?_
    rintro z ⟨M1, rfl, f1, hm1⟩
    have bR : ∀ k, cR W (mkC n X) k ≤ 1000000 := fun k => by
      unfold cR
      split
      · omega
      · split
        · omega
        · exact bW _ _
    have hsb := (sfr_le (f := cR W (mkC n X)) (n := n) (B := 1000000) (fun i _ => bR i) n (Nat.le_refl _)).1
    have hsb2 : 1000000 * n ≤ 6000000 := by omega
    have hM1 := hM'.fr f1
    have hF1 : Fr S723 M M1 := hF.tr (f1.up (fun a k w => Or.inl w))
    have hI1 := hI.fr f1
    have ht : TREE (mkC n X) n → sfr (cR W (mkC n X)) n n = cs W (mkC n X) n := fun h => by
      rw [cR_tree h n (Nat.le_refl _)]
      have := cs_split (W := W) (m := mkC n X) (n := n) n (Nat.le_refl _)
      rw [Nat.sub_self] at this
      have h0 : cs W (mkC n X) 0 = 0 := rfl
      omega
    simp only
    generalize sfr (cR W (mkC n X)) n n = sm at hsb ht
    rw [TT_bv]
    have fin : ∀ M2 lst2 rows2, Fr S723 M M2 → rows2 ≤ X + 1 → lst2 ≤ 1000000 → RFI W n (X + 1) lst2 rows2 M2 → TT (some (Sum.inl (M2, nI lst2, nI rows2, nI X + 1)) : Option ((Mem × Int32 × Int32 × Int32) ⊕ (Mem × Int32 × Int32))) (fun r => r.elim (fun s' => X < (n + 1) ^ n ∧ ∃ M' lst rows, s' = (M', nI lst, nI rows, nI (X + 1)) ∧ rows ≤ X + 1 ∧ lst ≤ 1000000 ∧ Fr S723 M M' ∧ RFI W n (X + 1) lst rows M') (fun z => ∃ M1 lst rows, z = (M1, nI lst, nI rows) ∧ rows ≤ 117649 ∧ lst ≤ 1000000 ∧ Fr S723 M M1 ∧ RFI W n ((n + 1) ^ n) lst rows M1)) := fun M2 lst2 rows2 q1 q2 q3 q4 => by
      rw [TT_some]
      exact ⟨hlt, M2, lst2, rows2, by rw [nsucc], q2, q3, q1, q4⟩
    by_cases w1 : 1000000 ≤ sm
    · rw [if_pos (show (1000000 : Int32) ≤ nI sm from show nI 1000000 ≤ nI sm from (nleI (by omega) (by omega)).mpr w1)]
      exact fin M1 lst rows hF1 (by omega) hlb (hI1.skip (fun h1 h2 => by rw [← ht h1] at h2; omega))
    · rw [if_neg (show ¬ (1000000 : Int32) ≤ nI sm from fun q : nI 1000000 ≤ nI sm => w1 ((nleI (by omega) (by omega)).mp q))]
      by_cases w2 : lst < sm
      · rw [if_pos ((nltI (by omega) (by omega)).mpr w2)]
        exact fin M1 lst rows hF1 (by omega) hlb (hI1.skip (fun h1 _ => by rw [← ht h1]; exact w2))
      · rw [if_neg (fun q => w2 ((nltI (by omega) (by omega)).mp q))]
        obtain ⟨b, eb, hb⟩ := r_isTree hM1 hn0 hn hm1 (fun k i _ h => mkC_lt hn0 h)
        rw [eb, Option.bind_some]
        cases b with
        | false =>
          rw [if_pos (show b1 false = 0 from rfl)]
          refine fin M1 lst rows hF1 (by omega) hlb (hI1.skip (fun h1 _ => ?_))
          have := hb.mpr h1
          cases this
        | true =>
          have hT := hb.mp rfl
          have hsm := ht hT
          rw [if_neg (by decide), TT_bv]
          by_cases w3 : lst ≤ sm
          · have he : sm = lst := by omega
            rw [if_pos ((nleI (by omega) (by omega)).mpr w3), TT_bv, nsucc rows]
            refine fin M1 lst (rows + 1) hF1 (by omega) hlb ⟨fun c hc h1 h2 => ?_, ?_⟩
            · by_cases z : c = X
              · subst z
                omega
              · exact hI1.1 c (by omega) h1 h2
            · have hg : GDL W n lst X := ⟨hT, by omega⟩
              rcases hI1.2 with q | ⟨q1, q2, q3, q4⟩
              · omega
              · refine Or.inr ⟨q1, by rw [cg_y hg, q2], by omega, fun c hc => ?_⟩
                cases hfg : fg (GDL W n lst) X with
                | none =>
                  have := (fg_0 X).mpr hfg
                  omega
                | some c' =>
                  rw [fg_s hfg] at hc
                  cases hc
                  exact q4 _ hfg
          · rw [if_neg (fun q => w3 ((nleI (by omega) (by omega)).mp q)), TT_bind]
            refine (r_rl6 hM1 hn).mono ?_
            rintro M2 ⟨f2, v2⟩
            rw [TT_bv]
            have hcg : cg (GDL W n sm) X = 0 := by
              have h0 : ∀ c, 0 ≤ c → c < 0 + X → ¬ GDL W n sm c := fun c _ hc g => by
                have := hI1.1 c (by omega) g.1 (by rw [g.2]; omega)
                rw [g.2] at this
                omega
              have := (cg_no (G := GDL W n sm) X 0 h0).1
              rw [Nat.zero_add] at this
              exact this
            have hg : GDL W n sm X := ⟨hT, hsm.symm⟩
            refine fin M2 sm 1 (hF1.tr (f2.up (fun a k w => Or.inr w))) (by omega) (by omega) ⟨fun c hc h1 h2 => ?_, Or.inr ⟨by omega, by rw [cg_y hg, hcg], Nat.le_refl _, fun c hc k hk => ?_⟩⟩
            · by_cases z : c = X
              · subst z
                omega
              · have := hI1.1 c (by omega) h1 h2
                omega
            · rw [fg_y hg ((fg_0 X).mp hcg)] at hc
              cases hc
              rw [v2 k hk]
              exact hm1 k hk
/-- both tell the same LINES -/
theorem lines_same {W : Nat → Nat → Nat} {n : Nat} {M M2 : Mem} {lst rows : Nat} (h : LNS W n M) (hr : RFI W n ((n + 1) ^ n) lst rows M2) : (rows = 0 ∧ mI M 34 11 = nI 0) ∨ (1 ≤ rows ∧ rows = cg (GDL W n lst) ((n + 1) ^ n) ∧ mI M 34 11 = nI rows ∧ mI M 34 10 = nI lst ∧ lst < 1000000 ∧ ∃ c, fg (GDL W n lst) ((n + 1) ^ n) = some c ∧ ∀ k, k < n → mI M 38 k = oI (mkC n c k) ∧ mI M2 73 k = oI (mkC n c k)) := by
  obtain ⟨L, h1, h2, h3, h4, h5⟩ := h
  rcases h5 with ⟨rfl, q⟩ | ⟨hl, hR⟩
  · left
    refine ⟨?_, q⟩
    rcases hr.2 with z | ⟨z1, z2, z3, z4⟩
    · exact z.2
    · exfalso
      cases hf : fg (GDL W n lst) ((n + 1) ^ n) with
      | none =>
        have := (fg_0 _).mpr hf
        omega
      | some c =>
        have hg := (fg_lt _ c hf).2
        have := h2 c hg.1
        rw [hg.2] at this
        omega
  · right
    obtain ⟨c0, hc0, hg0⟩ := h1 hl
    have hle : lst ≤ L := by
      have := hr.1 c0 hc0 hg0.1 (by rw [hg0.2]; exact hl)
      rw [hg0.2] at this
      exact this
    rcases hr.2 with z | ⟨z1, z2, z3, z4⟩
    · omega
    · cases hf : fg (GDL W n lst) ((n + 1) ^ n) with
      | none =>
        have := (fg_0 _).mpr hf
        omega
      | some c =>
        have hg := (fg_lt _ c hf).2
        have hge := h2 c hg.1
        rw [hg.2] at hge
        have : lst = L := by omega
        subst this
        exact ⟨z3, z2, by rw [z2]; exact hR.1, h4, z1, c, rfl, fun k hk => ⟨hR.2 c hf k hk, z4 c hf k hk⟩⟩
