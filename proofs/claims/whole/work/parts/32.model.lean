/-! LAYOUT of the reference's cells -/
def LayM (M : Mem) : Prop := okO M 12 47 ∧ okO M 14 48 ∧ mL M 48 = 7 ∧ okO M 14 49 ∧ mL M 49 = 5666 ∧ okO M 14 50 ∧ mL M 50 = 11332 ∧ okO M 17 51 ∧ mL M 51 = 2 ∧ okO M 14 52 ∧ mL M 52 = 7 ∧ okO M 14 53 ∧ mL M 53 = 46 ∧ okO M 14 54 ∧ mL M 54 = 46 ∧ okO M 13 55 ∧ mL M 55 = 130 ∧ okO M 13 56 ∧ mL M 56 = 400 ∧ okO M 14 57 ∧ mL M 57 = 5 ∧ okO M 14 58 ∧ mL M 58 = 401 ∧ okO M 14 59 ∧ mL M 59 = 401 ∧ okO M 14 60 ∧ mL M 60 = 401 ∧ okO M 14 61 ∧ mL M 61 = 8 ∧ okO M 14 62 ∧ mL M 62 = 4 ∧ okO M 14 63 ∧ mL M 63 = 429226 ∧ okO M 14 64 ∧ mL M 64 = 9331 ∧ okO M 14 65 ∧ mL M 65 = 9331 ∧ okO M 14 66 ∧ mL M 66 = 9331 ∧ okO M 17 67 ∧ mL M 67 = 9331 ∧ okO M 14 68 ∧ mL M 68 = 46 ∧ okO M 14 69 ∧ mL M 69 = 9331 ∧ okO M 14 70 ∧ mL M 70 = 6 ∧ okO M 14 71 ∧ mL M 71 = 36 ∧ okO M 14 72 ∧ mL M 72 = 6 ∧ okO M 14 73 ∧ mL M 73 = 6 ∧ okO M 15 74 ∧ mL M 74 = 9331 ∧ okO M 15 75 ∧ mL M 75 = 9331 ∧ okO M 15 76 ∧ mL M 76 = 3 ∧ okO M 14 77 ∧ mL M 77 = 61 ∧ mR M 47 2 = some 48 ∧ mR M 47 3 = some 49 ∧ mR M 47 4 = some 50 ∧ mR M 47 5 = some 51 ∧ mR M 47 6 = some 52 ∧ mR M 47 9 = some 53 ∧ mR M 47 10 = some 54 ∧ mR M 47 13 = some 55 ∧ mR M 47 15 = some 56 ∧ mR M 47 16 = some 57 ∧ mR M 47 19 = some 58 ∧ mR M 47 20 = some 59 ∧ mR M 47 21 = some 60 ∧ mR M 47 30 = some 61 ∧ mR M 47 31 = some 62 ∧ mR M 47 32 = some 63 ∧ mR M 47 33 = some 64 ∧ mR M 47 35 = some 65 ∧ mR M 47 36 = some 66 ∧ mR M 47 37 = some 67 ∧ mR M 47 38 = some 68 ∧ mR M 47 39 = some 69 ∧ mR M 47 40 = some 70 ∧ mR M 47 41 = some 71 ∧ mR M 47 42 = some 72 ∧ mR M 47 43 = some 73 ∧ mR M 47 44 = some 74 ∧ mR M 47 45 = some 75 ∧ mR M 47 55 = some 76 ∧ mR M 47 56 = some 77
theorem LayM.fr {S : Nat → Nat → Prop} {M M1 : Mem} (h : LayM M) (hf : Fr S M M1) : LayM M1 := by
  obtain ⟨h1, h2, h3, h4, h5, -⟩ := hf
  unfold LayM okO at h ⊢
  rw [h1, h3, h4, h5]
  exact h
theorem LayM_wI {M : Mem} {a k : Nat} {v : Int32} : LayM (wI M a k v) = LayM M := rfl
theorem LayM_wJ {M : Mem} {a k : Nat} {v : Int64} : LayM (wJ M a k v) = LayM M := rfl
theorem grd_T {α : Type} {t : Option α} : grd True t = t := if_pos trivial
/-! dishes from the left -/
def num (l : List Nat) : Nat := nr l.reverse
def rank (l : List Nat) : Nat := rk l.reverse
def DL (l : List Nat) : Prop := l.length ≤ 5 ∧ ∀ d ∈ l, d < 6
theorem DL.rev {l : List Nat} (h : DL l) : DD l.reverse := ⟨by rw [List.length_reverse]; exact h.1, fun d hd => h.2 d (List.mem_reverse.mp hd)⟩
theorem num_snoc (l : List Nat) (d : Nat) : num (l ++ [d]) = 10 * num l + (d + 1) := by
  unfold num
  rw [List.reverse_append]
  rfl
theorem num_nil : num [] = 0 := rfl
/-- the model's closes: what stands in the row of pinches -/
theorem p_closes {M : Mem} (hL : LayM M) {l : List Nat} (hl : DL l) (hn : mI M 47 7 = nI l.length) (hp : ∀ k, k < l.length → mI M 52 k = nI (l.getD k 0)) : f_X12_closes M 47 = some (nI (num l)) := by
  apply TT.is
  unfold f_X12_closes
  rw [TT_bind]
  have h5 := hl.1
  unfold LayM at hL
  refine TT_loop (fun s => ∃ k : Nat, k ≤ l.length ∧ s = (nI (num (l.take k)), nI k)) (fun s => 5 - s.2.toNatClampNeg) ?_ _ ⟨0, by omega, rfl⟩
  rintro _ ⟨k, hk, rfl⟩
  simp only [hL, hn, grd_T, Option.bind_some]
  simp (disch := omega) only [nleI, nvp, nclampI, nlit]
  rw [TT_if]
  refine ⟨fun h => ?_, fun h => ?_⟩
  · rw [TT_some]
    have : k = l.length := by omega
    subst this
    show TT (some _) _
    rw [TT_some, List.take_length]
  · rw [TT_grd]
    refine ⟨by omega, ?_⟩
    rw [hp k (by omega)]
    simp only [nmul, nadd, TT_bv, TT_some]
    refine ⟨⟨k + 1, by omega, ?_⟩, ?_⟩
    · have e : l.take (k + 1) = l.take k ++ [l.getD k 0] := by
        rw [List.take_add_one, List.getD_eq_getElem?_getD]
        have hk2 : k < l.length := by omega
        simp [hk2]
      rw [e, num_snoc]
      congr 2
    · simp (disch := omega) only [nclampI]
      omega
def Spin (a k : Nat) : Prop := a = 52 ∨ (a = 47 ∧ k = 7)
theorem p_opens {M : Mem} (hL : LayM M) {l : List Nat} (hl : DL l) : TT (f_X12_opens M 47 (nI (num l))) (fun M' => Fr Spin M M' ∧ mI M' 47 7 = nI l.length ∧ ∀ k, k < l.length → mI M' 52 k = nI (l.getD k 0)) := by
  have h5 := hl.1
  have hD := hl.rev
  have hL0 := hL
  unfold f_X12_opens
  unfold LayM at hL
  simp only [hL, grd_T, TT_bv, TT_bind]
  refine TT.mono (Q := fun M' => Fr Spin M M' ∧ mI M' 47 7 = nI l.length) ?_ ?_
  · refine TT_loop (fun s => ∃ (t : List Nat) (n : Nat), s.2 = nI (nr t) ∧ DD t ∧ n + t.length = l.length ∧ Fr Spin M s.1 ∧ mI s.1 47 7 = nI n) (fun s => s.2.toNatClampNeg) ?_ _ ⟨l.reverse, 0, rfl, hD, by simp, Fr.rf.wI (Or.inr ⟨rfl, rfl⟩), by rw [mI_wIs]; rfl⟩
    rintro ⟨M1, x⟩ ⟨t, n, hx, ht, hn, hF, hm⟩
    simp only at hx hF hm ⊢
    subst hx
    have htn := ht.nr
    cases t with
    | nil =>
      simp only [List.length_nil] at hn
      simp (disch := omega) only [nlit, nleI]
      rw [if_pos (by decide), TT_some]
      exact ⟨hF, by rw [hm]; congr 1⟩
    | cons d t =>
      obtain ⟨ht2, hd⟩ := ht.tl
      obtain ⟨e1, e2, e3, e4⟩ := nr_div (t := t) hd
      simp only [List.length_cons] at hn
      simp (disch := omega) only [nlit, nleI, ndiv, e1, bv, hm, nadd]
      rw [if_neg (by omega), TT_some]
      refine ⟨⟨t, n + 1, rfl, ht2, by omega, hF.wI (Or.inr ⟨rfl, rfl⟩), by rw [mI_wIs]⟩, ?_⟩
      simp only
      rw [nclampI (by omega), nclampI (by omega)]
      exact e4
  · rintro M1 ⟨hF, hm⟩
    rw [hm]
    refine TT.mono (Q := fun M' => Fr Spin M M' ∧ mI M' 47 7 = nI l.length ∧ ∀ k, k < l.length → mI M' 52 k = nI (l.getD k 0)) ?_ (fun M' h => TT_some.mpr h)
    refine TT_loop (fun s => ∃ (t pre : List Nat), l.reverse = pre ++ t ∧ s.2.2 = nI (nr t) ∧ s.2.1 = ii ((t.length : Int) - 1) ∧ Fr Spin M s.1 ∧ mI s.1 47 7 = nI l.length ∧ ∀ k, t.length ≤ k → k < l.length → mI s.1 52 k = nI (l.getD k 0)) (fun s => s.2.2.toNatClampNeg) ?_ _ ⟨l.reverse, [], rfl, rfl, ?_, hF, hm, fun k h1 h2 => by rw [List.length_reverse] at h1; omega⟩
    · rintro ⟨M2, x, y⟩ ⟨t, pre, hpre, hy, hx, hF2, hm2, hp⟩
      simp only at hx hy hF2 hm2 hp ⊢
      subst hx
      subst hy
      have hDt : DD t := by
        have hlen := congrArg List.length hpre
        rw [List.length_append, List.length_reverse] at hlen
        exact ⟨by omega, fun d hd => hD.2 d (by rw [hpre]; exact List.mem_append_right _ hd)⟩
      have htn := hDt.nr
      have hLM := hL0.fr hF2
      unfold LayM at hLM
      cases t with
      | nil =>
        simp (disch := omega) only [nlit, nleI]
        rw [if_pos (by decide), TT_some]
        exact ⟨hF2, hm2, fun k hk => hp k (by simp) hk⟩
      | cons d t =>
        obtain ⟨ht2, hd⟩ := hDt.tl
        obtain ⟨e1, e2, e3, e4⟩ := nr_div (t := t) hd
        have hlen := congrArg List.length hpre
        rw [List.length_append, List.length_reverse, List.length_cons] at hlen
        have ek : ii ((((d :: t).length : Nat) : Int) - 1) = nI t.length := by
          rw [nI_ii, List.length_cons]
          congr 1
          omega
        rw [ek]
        simp only [hLM, grd_T, Option.bind_some]
        simp (disch := omega) only [nlit, nleI, ndiv, nrem, e1, e2, bv, nsub, nvp, nclampI]
        rw [if_neg (by omega), TT_grd]
        refine ⟨by omega, ?_⟩
        rw [TT_some]
        refine ⟨⟨t, pre ++ [d], by rw [hpre]; simp, rfl, ?_, hF2.wI (Or.inl rfl), ?_, ?_⟩, ?_⟩
        · show nI t.length + -nI 1 = ii ((t.length : Int) - 1)
          rw [nI_ii t.length, nI_ii 1, ii_neg, ii_add]
          congr 1
        · rw [mI_wI_row (by decide)]
          exact hm2
        · intro k h1 h2
          rw [mI_wI]
          by_cases hkt : k = t.length
          · subst hkt
            rw [if_pos ⟨rfl, rfl⟩]
            congr 1
            have hg : l.getD t.length 0 = d := by
              have e : l = t.reverse ++ [d] ++ pre.reverse := by
                have := congrArg List.reverse hpre
                rw [List.reverse_reverse] at this
                rw [this]
                simp
              rw [e, List.getD_eq_getElem?_getD]
              simp
            omega
          · rw [if_neg (fun q => hkt q.2)]
            exact hp k (by rw [List.length_cons]; omega) h2
        · simp (disch := omega) only [nclampI]
          exact e4
    · rw [List.length_reverse, nlit, nI_ii, nI_ii, ii_sub]
      rfl
