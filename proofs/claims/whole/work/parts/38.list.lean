/-! all changes of a dish, in order -/
def thn (s : Nat) : Nat := if s = 1 then 6 else 1
theorem thn_or (s : Nat) : (s = 1 ∧ thn s = 6) ∨ (s ≠ 1 ∧ thn s = 1) := by
  unfold thn
  split
  · exact Or.inl ⟨by assumption, rfl⟩
  · exact Or.inr ⟨by assumption, rfl⟩
section
variable (gt : Nat → Bool) (sd : Nat → Option Nat) (lw : Nat → Nat → Nat → Nat → Nat → Option Nat) (l : List Nat)
def inn (s i : Nat) : List (List Nat × Nat) := (List.range i).filterMap (fun j => cmk gt sd lw l s (j / thn s) (j % thn s))
def chp : Nat → Nat → List (List Nat × Nat)
  | 0, i => inn gt sd lw l 0 i
  | s + 1, i => chp s ((l.length + 1) * thn s) ++ inn gt sd lw l (s + 1) i
def chs : List (List Nat × Nat) := chp gt sd lw l 4 ((l.length + 1) * thn 4)
end
section
variable {gt : Nat → Bool} {sd : Nat → Option Nat} {lw : Nat → Nat → Nat → Nat → Nat → Option Nat} {l : List Nat}
theorem inn_succ (s i : Nat) : inn gt sd lw l s (i + 1) = inn gt sd lw l s i ++ (cmk gt sd lw l s (i / thn s) (i % thn s)).toList := by
  unfold inn
  rw [List.range_succ, List.filterMap_append]
  cases h : cmk gt sd lw l s (i / thn s) (i % thn s) with
  | none => simp [List.filterMap_cons, h]
  | some c => simp [List.filterMap_cons, h]
theorem chp_succ (s i : Nat) : chp gt sd lw l s (i + 1) = chp gt sd lw l s i ++ (cmk gt sd lw l s (i / thn s) (i % thn s)).toList := by
  cases s with
  | zero => exact inn_succ 0 i
  | succ s =>
    rw [chp, chp, inn_succ, List.append_assoc]
theorem chp_next (s : Nat) : chp gt sd lw l (s + 1) 0 = chp gt sd lw l s ((l.length + 1) * thn s) := by
  rw [chp]
  simp [inn]
theorem chp_zero : chp gt sd lw l 0 0 = [] := rfl
theorem inn_cap (s c : Nat) (h : ∀ j, c ≤ j → cmk gt sd lw l s (j / thn s) (j % thn s) = none) : ∀ i, (inn gt sd lw l s i).length ≤ c := by
  intro i
  have key : ∀ i, (inn gt sd lw l s i).length ≤ i ∧ (c ≤ i → inn gt sd lw l s i = inn gt sd lw l s c) := by
    intro i
    induction i with
    | zero =>
      refine ⟨by simp [inn], fun hc => ?_⟩
      have : c = 0 := by omega
      rw [this]
    | succ i ih =>
      rw [inn_succ]
      refine ⟨?_, fun hc => ?_⟩
      · rw [List.length_append]
        have : (cmk gt sd lw l s (i / thn s) (i % thn s)).toList.length ≤ 1 := by
          cases cmk gt sd lw l s (i / thn s) (i % thn s) <;> simp
        have := ih.1
        omega
      · by_cases hci : c ≤ i
        · rw [h i hci, ih.2 hci]
          simp
        · have : c = i + 1 := by omega
          subst this
          rw [inn_succ]
  by_cases hci : c ≤ i
  · rw [(key i).2 hci]
    exact (key c).1
  · have := (key i).1
    omega
theorem cmk_none {s p t : Nat} (h : chg sd l s p t = none) : cmk gt sd lw l s p t = none := by
  unfold cmk
  rw [h]
  rfl
theorem chp_len (hl : DL l) (s i : Nat) (hs : s ≤ 4) : (chp gt sd lw l s i).length ≤ 45 := by
  have h5 := hl.1
  have c0 : ∀ i, (inn gt sd lw l 0 i).length ≤ l.length := inn_cap 0 _ (fun j hj => cmk_none (by simp only [chg]; rw [if_neg]; rw [show thn 0 = 1 from rfl, Nat.div_one]; omega))
  have c1 : ∀ i, (inn gt sd lw l 1 i).length ≤ if l.length < 5 then 6 * (l.length + 1) else 0 := by
    by_cases h : l.length < 5
    · rw [if_pos h]
      refine inn_cap 1 _ (fun j hj => cmk_none ?_)
      simp only [chg]
      rw [if_neg]
      rw [show thn 1 = 6 from rfl]
      intro q
      have := q.1
      omega
    · rw [if_neg h]
      refine inn_cap 1 _ (fun j hj => cmk_none ?_)
      simp only [chg]
      rw [if_neg (fun q => h q.2)]
  have c2 : ∀ i, (inn gt sd lw l 2 i).length ≤ l.length - 1 := inn_cap 2 _ (fun j hj => cmk_none (by simp only [chg]; rw [if_neg]; rw [show thn 2 = 1 from rfl, Nat.div_one]; intro q; have := q.1; omega))
  have c3 : ∀ i, (inn gt sd lw l 3 i).length ≤ if l.length < 5 then l.length else 0 := by
    by_cases h : l.length < 5
    · rw [if_pos h]
      exact inn_cap 3 _ (fun j hj => cmk_none (by simp only [chg]; rw [if_neg]; rw [show thn 3 = 1 from rfl, Nat.div_one]; intro q; have := q.1; omega))
    · rw [if_neg h]
      exact inn_cap 3 _ (fun j hj => cmk_none (by simp only [chg]; rw [if_neg (fun q => h q.2)]))
  have c4 : ∀ i, (inn gt sd lw l 4 i).length ≤ l.length := inn_cap 4 _ (fun j hj => cmk_none (by simp only [chg]; rw [if_neg]; rw [show thn 4 = 1 from rfl, Nat.div_one]; omega))
  have a0 := c0 i
  have b0 := c0 ((l.length + 1) * thn 0)
  have a1 := c1 i
  have b1 := c1 ((l.length + 1) * thn 1)
  have a2 := c2 i
  have b2 := c2 ((l.length + 1) * thn 2)
  have a3 := c3 i
  have b3 := c3 ((l.length + 1) * thn 3)
  have a4 := c4 i
  by_cases h : l.length < 5
  · simp only [h, if_true] at a1 b1 a3 b3
    match s, hs with
    | 0, _ => simp only [chp]; omega
    | 1, _ => simp only [chp, List.length_append, Nat.zero_add]; omega
    | 2, _ => simp only [chp, List.length_append, Nat.zero_add, Nat.reduceAdd]; omega
    | 3, _ => simp only [chp, List.length_append, Nat.zero_add, Nat.reduceAdd]; omega
    | 4, _ => simp only [chp, List.length_append, Nat.zero_add, Nat.reduceAdd]; omega
  · simp only [h, if_false] at a1 b1 a3 b3
    match s, hs with
    | 0, _ => simp only [chp]; omega
    | 1, _ => simp only [chp, List.length_append, Nat.zero_add]; omega
    | 2, _ => simp only [chp, List.length_append, Nat.zero_add, Nat.reduceAdd]; omega
    | 3, _ => simp only [chp, List.length_append, Nat.zero_add, Nat.reduceAdd]; omega
    | 4, _ => simp only [chp, List.length_append, Nat.zero_add, Nat.reduceAdd]; omega
theorem chp_room (hl : DL l) {s i : Nat} (hs : s ≤ 4) {c : List Nat × Nat} (h : cmk gt sd lw l s (i / thn s) (i % thn s) = some c) : (chp gt sd lw l s i).length ≤ 44 := by
  have h1 := chp_len (gt := gt) (sd := sd) (lw := lw) hl s (i + 1) hs
  rw [chp_succ, h, List.length_append] at h1
  simp only [Option.toList, List.length_singleton] at h1
  omega
end
theorem TT_bvif {α β : Type} {F : α → Option β} {c : Prop} [Decidable c] {a b : α} {Q : β → Prop} : TT (bv F (fun j => if c then j a else j b)) Q ↔ TT (F (if c then a else b)) Q := by
  show TT (if c then F a else F b) Q ↔ _
  by_cases h : c
  · rw [if_pos h, if_pos h]
  · rw [if_neg h, if_neg h]
theorem chg_DL {l : List Nat} (hl : DL l) {sd : Nat → Option Nat} (hsd : ∀ t, t < 6 → ∀ u, sd t = some u → u < 6) {s p t : Nat} (ht : t < 6) {c : List Nat × Nat} (h : chg sd l s p t = some c) : DL c.1 ∧ c.2 < 6 := by
  have hg := getD_lt hl (k := p)
  have hg1 := getD_lt hl (k := p + 1)
  unfold chg at h
  split at h
  · split at h
    · cases h; exact ⟨hl.erase, hg⟩
    · cases h
  · split at h
    · rename_i hc; cases h; exact ⟨hl.insert hc.1 hc.2 ht, ht⟩
    · cases h
  · split at h
    · cases h; exact ⟨(hl.set hg1).set hg, hg⟩
    · cases h
  · split at h
    · rename_i hc; cases h; exact ⟨hl.insert (Nat.le_of_lt hc.1) hc.2 hg, hg⟩
    · cases h
  · split at h
    · cases hu : sd (l.getD p 0) with
      | none => rw [hu] at h; cases h
      | some u => rw [hu] at h; cases h; exact ⟨hl.set (hsd _ hg u hu), hg⟩
    · cases h
theorem cmk_DL {l : List Nat} (hl : DL l) {gt : Nat → Bool} {lw : Nat → Nat → Nat → Nat → Nat → Option Nat} (hlw : ∀ s t p n h w, lw s t p n h = some w → w ≤ 99) {sd : Nat → Option Nat} (hsd : ∀ t, t < 6 → ∀ u, sd t = some u → u < 6) {s p t : Nat} (ht : t < 6) {c : List Nat × Nat} (h : cmk gt sd lw l s p t = some c) : DL c.1 ∧ c.2 ≤ 99 := by
  unfold cmk at h
  cases hc : chg sd l s p t with
  | none => rw [hc] at h; cases h
  | some d =>
    rw [hc] at h
    simp only [Option.bind_some] at h
    cases hw : wq gt lw s d.2 p l.length (l.count d.2) with
    | none => rw [hw] at h; cases h
    | some w =>
      rw [hw] at h
      cases h
      refine ⟨(chg_DL hl hsd ht hc).1, ?_⟩
      unfold wq at hw
      split at hw
      · cases hw
      · exact hlw _ _ _ _ _ _ hw
/-- what the cook's rows hold -/
def MADE (M : Mem) (L : List (List Nat × Nat)) : Prop := mI M 26 5 = nI L.length ∧ mI M 26 6 = nI (L.map (·.2)).sum ∧ ∀ k c, L[k]? = some c → mI M 30 k = nI (rank c.1) ∧ mI M 31 k = nI c.2
def Sq5 (a k : Nat) : Prop := (a = 26 ∧ (k = 5 ∨ k = 6)) ∨ a = 30 ∨ a = 31
def Sla (a k : Nat) : Prop := Ssc a k ∨ (26 ≤ a ∧ a ≤ 31)
theorem MADE.fr {M M1 : Mem} {S : Nat → Nat → Prop} {L : List (List Nat × Nat)} (h : MADE M L) (hF : Fr S M M1) (hs : ∀ a k, S a k → a ≠ 30 ∧ a ≠ 31 ∧ ¬ (a = 26 ∧ (k = 5 ∨ k = 6))) : MADE M1 L := by
  refine ⟨?_, ?_, fun k c hk => ?_⟩
  · rw [hF.i (fun q => (hs _ _ q).2.2 ⟨rfl, Or.inl rfl⟩)]; exact h.1
  · rw [hF.i (fun q => (hs _ _ q).2.2 ⟨rfl, Or.inr rfl⟩)]; exact h.2.1
  · rw [hF.i (fun q => (hs _ _ q).1 rfl), hF.i (fun q => (hs _ _ q).2.1 rfl)]; exact h.2.2 k c hk
theorem STd.fr {M M1 : Mem} {S : Nat → Nat → Prop} {sd : Nat → Option Nat} (h : STd M sd) (hF : Fr S M M1) (hs : ∀ k, ¬ S 4 k) : STd M1 sd := fun t ht => by
  rw [hF.i (hs _)]
  exact h t ht
set_option maxHeartbeats 4000000 in
theorem p_listAll {SC : Mem → Prop} {gt : Nat → Bool} {lw : Nat → Nat → Nat → Nat → Nat → Option Nat} (hW : WSp SC gt lw) {M : Mem} (hL : LayC M) (hSC : SC M) {l : List Nat} (hl : DL l) {sd : Nat → Option Nat} (hsd : STd M sd) : TT (f_X1_listAll M 26 (nI (rank l))) (fun M' => Fr Sla M M' ∧ SC M' ∧ PLT M' l ∧ MADE M' (chs gt sd lw l)) := by
  have h5 := hl.1
  have hLL := hL
  unfold LayC at hLL
  unfold f_X1_listAll
  simp only [hLL, grd_T, Option.bind_some]
  rw [TT_bind]
  refine (p_load hL hl).mono ?_
  rintro M1 ⟨hF1, hP1⟩
  have hSC1 : SC M1 := hW.2.2 _ _ _ (fun a k h => by unfold Spl at h; omega) hF1 hSC
  have hF1' : Fr Sla M M1 := hF1.up (fun a k h => by unfold Spl at h; unfold Sla; omega)
  rw [TT_bv, TT_bv, TT_bind]
  have hF2 : Fr Sla M (wI (wI M1 26 5 0) 26 6 0) := (hF1'.wI (Or.inr (by omega))).wI (Or.inr (by omega))
  have hF12 : Fr (fun a k => a = 26 ∧ (k = 5 ∨ k = 6)) M1 (wI (wI M1 26 5 0) 26 6 0) := (Fr.rf.wI ⟨rfl, Or.inl rfl⟩).wI ⟨rfl, Or.inr rfl⟩
  have hP2 : PLT (wI (wI M1 26 5 0) 26 6 0) l := hP1.fr hF12 (fun a k h => by omega)
  have hSC2 : SC (wI (wI M1 26 5 0) 26 6 0) := hW.2.2 _ _ _ (fun a k h => by omega) hF12 hSC1
  have hM2 : MADE (wI (wI M1 26 5 0) 26 6 0) [] := ⟨by rw [mI_wI_ne (by decide), mI_wIs]; rfl, by rw [mI_wIs]; rfl, fun k c h => by simp at h⟩
  generalize wI (wI M1 26 5 0) 26 6 0 = M2 at hF2 hP2 hSC2 hM2 ⊢
  refine TT.mono (Q := fun M' => Fr Sla M M' ∧ SC M' ∧ PLT M' l ∧ MADE M' (chs gt sd lw l)) ?_ (fun M' h => TT_some.mpr h)
  refine TT_loop (fun q => ∃ s : Nat, s ≤ 5 ∧ q.2 = nI s ∧ Fr Sla M q.1 ∧ SC q.1 ∧ PLT q.1 l ∧ MADE q.1 (if s = 5 then chs gt sd lw l else chp gt sd lw l s 0)) (fun q => 5 - q.2.toNatClampNeg) ?_ _ ⟨0, by omega, rfl, hF2, hSC2, hP2, hM2⟩
  rintro ⟨M3, x⟩ ⟨s, hs, hx, hF3, hSC3, hP3, hM3⟩
  simp only at hx hF3 hSC3 hP3 hM3 ⊢
  subst hx
  rw [TT_if]
  refine ⟨fun h => ?_, fun h => ?_⟩
  · simp (disch := omega) only [nlit, nltI] at h
    have : s = 5 := by omega
    subst this
    rw [TT_some]
    exact ⟨hF3, hSC3, hP3, hM3⟩
  · simp (disch := omega) only [nlit, nltI] at h
    have hs4 : s ≤ 4 := by omega
    rw [if_neg (by omega)] at hM3
    have eth : (if nI s = 1 then (6 : Int32) else 1) = nI (thn s) := by
      rcases thn_or s with ⟨h1, h2⟩ | ⟨h1, h2⟩
      · rw [h2, if_pos (by rw [h1]; rfl)]; rfl
      · rw [h2, if_neg (by simp (disch := omega) only [nlit, neqI]; exact h1)]; rfl
    have htn : 0 < thn s ∧ thn s ≤ 6 := by rcases thn_or s with ⟨h1, h2⟩ | ⟨h1, h2⟩ <;> omega
    have hmul : (l.length + 1) * thn s ≤ 36 := by
      have := Nat.mul_le_mul (show l.length + 1 ≤ 6 by omega) htn.2
      omega
    rw [TT_bvif, eth, TT_bind]
    refine TT.mono (Q := fun M' => Fr Sla M M' ∧ SC M' ∧ PLT M' l ∧ MADE M' (chp gt sd lw l s ((l.length + 1) * thn s))) ?_ ?_
    · refine TT_loop (fun q => ∃ i : Nat, i ≤ (l.length + 1) * thn s ∧ q.2 = nI i ∧ Fr Sla M q.1 ∧ SC q.1 ∧ PLT q.1 l ∧ MADE q.1 (chp gt sd lw l s i)) (fun q => 40 - q.2.toNatClampNeg) ?_ _ ⟨0, by omega, rfl, hF3, hSC3, hP3, hM3⟩
      rintro ⟨M4, y⟩ ⟨i, hi, hy, hF4, hSC4, hP4, hM4⟩
      simp only at hy hF4 hSC4 hP4 hM4 ⊢
      subst hy
      have hL4 := hL.fr hF4
      have hLL4 := hL4
      unfold LayC at hLL4
      simp only [hLL4, grd_T, Option.bind_some, hP4.1]
      rw [show nI l.length + 1 = nI (l.length + 1) from nadd _ 1, nmul, TT_if]
      refine ⟨fun h => ?_, fun h => ?_⟩
      · rw [nleI (by omega) (by omega)] at h
        have : i = (l.length + 1) * thn s := by omega
        subst this
        rw [TT_some]
        exact ⟨hF4, hSC4, hP4, hM4⟩
      · rw [nleI (by omega) (by omega)] at h
        have hdp : i / thn s ≤ l.length := by
          have := Nat.div_lt_of_lt_mul (show i < thn s * (l.length + 1) by rw [Nat.mul_comm]; omega)
          omega
        have hmt : i % thn s < thn s := Nat.mod_lt _ htn.1
        rw [TT_grd, TT_grd, ndiv (by omega) (by omega) htn.1, nrem (by omega) (by omega) htn.1, TT_bind]
        refine ⟨by rw [show (0 : Int32) = nI 0 from rfl, neqI (by omega) (by omega)]; omega, by rw [show (0 : Int32) = nI 0 from rfl, neqI (by omega) (by omega)]; omega, ?_⟩
        have hsd4 : STd M4 sd := hsd.fr hF4 (fun k => by unfold Sla Ssc; omega)
        refine (p_cmakes hW hL4 hSC4 hl hP4 hsd4 (s := s) (p := i / thn s) (t := i % thn s) (by omega) (by omega) (by omega)).mono ?_
        rintro ⟨M5, z⟩ ⟨hF5, hSC5, hP5, hres⟩
        simp only at hF5 hSC5 hP5 hres ⊢
        have hF45 : Fr Sla M M5 := hF4.tr (hF5.up (fun a k h => by unfold Scm Ssc at h; unfold Sla Ssc; omega))
        have hM5 : MADE M5 (chp gt sd lw l s i) := hM4.fr hF5 (fun a k h => by unfold Scm Ssc at h; omega)
        have hmeas : 40 - (nI i + 1).toNatClampNeg < 40 - (nI i).toNatClampNeg := by
          rw [show nI i + 1 = nI (i + 1) from nadd i 1, nclampI (by omega), nclampI (by omega)]
          omega
        cases hc : cmk gt sd lw l s (i / thn s) (i % thn s) with
        | none =>
          rw [hc] at hres
          simp only at hres
          subst hres
          simp only [bv]
          rw [if_pos trivial, TT_some]
          refine ⟨⟨i + 1, by omega, nadd i 1, hF45, hSC5, hP5, ?_⟩, hmeas⟩
          rw [chp_succ, hc]
          simpa using hM5
        | some c =>
          rw [hc] at hres
          obtain ⟨hz, h7⟩ := hres
          subst hz
          have hroom := chp_room hl hs4 hc
          have hL5 := hL.fr hF45
          have hLL5 := hL5
          unfold LayC at hLL5
          obtain ⟨hcD, hc99⟩ := cmk_DL hl hW.2.1 (fun t ht => (hsd t ht).2) (by omega) hc
          have hcr := hcD.rank
          simp only [bv]
          rw [if_neg (nne_m1 (by omega)), hM5.1, if_neg (by simp (disch := omega) only [nlit, nleI]; omega)]
          simp only [hLL5, grd_T, Option.bind_some, mR_wI, ok_wI, mL_wI]
          rw [mI_wI_row (M := M5) (a := 30) (b := 26) (by decide), hM5.1, nclampI (by omega), TT_grd, TT_grd]
          refine ⟨(nvp (by omega)).mpr (by omega), (nvp (by omega)).mpr (by omega), ?_⟩
          rw [h7]
          generalize hn : (chp gt sd lw l s i).length = n at *
          have hF6 : Fr Sq5 M5 (wI (wI M5 30 n (nI (rank c.1))) 31 n (nI c.2)) := (Fr.rf.wI (Or.inr (Or.inl rfl))).wI (Or.inr (Or.inr rfl))
          have e5 : mI (wI (wI M5 30 n (nI (rank c.1))) 31 n (nI c.2)) 26 5 = nI n := by rw [mI_wI_row (by decide), mI_wI_row (by decide), hM5.1, hn]
          have e6 : mI (wI (wI M5 30 n (nI (rank c.1))) 31 n (nI c.2)) 26 6 = nI ((chp gt sd lw l s i).map (·.2)).sum := by rw [mI_wI_row (by decide), mI_wI_row (by decide)]; exact hM5.2.1
          have e7 : mI (wI (wI M5 30 n (nI (rank c.1))) 31 n (nI c.2)) 26 7 = nI c.2 := by rw [mI_wI_row (by decide), mI_wI_row (by decide)]; exact h7
          have er : ∀ k d, (chp gt sd lw l s i ++ [c])[k]? = some d → mI (wI (wI M5 30 n (nI (rank c.1))) 31 n (nI c.2)) 30 k = nI (rank d.1) ∧ mI (wI (wI M5 30 n (nI (rank c.1))) 31 n (nI c.2)) 31 k = nI d.2 := by
            intro k d hk
            by_cases hkn : k = n
            · subst hkn
              rw [← hn, List.getElem?_append_right (Nat.le_refl _), Nat.sub_self] at hk
              simp only [List.getElem?_cons_zero, Option.some.injEq] at hk
              subst hk
              exact ⟨by rw [mI_wI_row (by decide), mI_wIs], mI_wIs⟩
            · have hlt : k < n := by
                have := (List.getElem?_eq_some_iff.mp hk).1
                rw [List.length_append, hn, List.length_singleton] at this
                omega
              rw [List.getElem?_append_left (by omega)] at hk
              obtain ⟨q1, q2⟩ := hM5.2.2 k d hk
              rw [mI_wI_row (a := 31) (b := 30) (by decide), mI_wI_ne hkn, mI_wI_ne hkn, mI_wI_row (a := 30) (b := 31) (by decide)]
              exact ⟨q1, q2⟩
          generalize wI (wI M5 30 n (nI (rank c.1))) 31 n (nI c.2) = M6 at hF6 e5 e6 e7 er ⊢
          rw [e6, e7, mI_wI_ne (by decide), e5, TT_some]
          rw [show nI n + 1 = nI (n + 1) from nadd n 1, nadd]
          have hF7 : Fr Sq5 M5 (wI (wI M6 26 6 (nI (((chp gt sd lw l s i).map (·.2)).sum + c.2))) 26 5 (nI (n + 1))) := (hF6.wI (Or.inl ⟨rfl, Or.inr rfl⟩)).wI (Or.inl ⟨rfl, Or.inl rfl⟩)
          refine ⟨⟨i + 1, by omega, nadd i 1, hF45.tr (hF7.up (fun a k h => by unfold Sq5 at h; unfold Sla; omega)), hW.2.2 _ _ _ (fun a k h => by unfold Sq5 at h; omega) hF7 hSC5, hP5.fr hF7 (fun a k h => by unfold Sq5 at h; omega), ?_⟩, hmeas⟩
          rw [chp_succ, hc]
          refine ⟨?_, ?_, fun k d hk => ?_⟩
          · rw [mI_wIs, List.length_append, hn]
            rfl
          · rw [mI_wI_ne (by decide), mI_wIs]
            simp
          · rw [mI_wI_row (by decide), mI_wI_row (by decide), mI_wI_row (by decide), mI_wI_row (by decide)]
            exact er k d hk
    · rintro M4 ⟨hF4, hSC4, hP4, hM4⟩
      rw [TT_bv, TT_some]
      refine ⟨⟨s + 1, by omega, nadd s 1, hF4, hSC4, hP4, ?_⟩, ?_⟩
      · by_cases h4 : s = 4
        · subst h4
          rw [if_pos rfl]
          exact hM4
        · rw [if_neg (by omega), chp_next]
          exact hM4
      · simp only
        rw [show nI s + 1 = nI (s + 1) from nadd s 1, nclampI (by omega), nclampI (by omega)]
        omega
