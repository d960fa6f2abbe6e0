/-! the cook's changes, over what the scale tells -/
def Ssc (a _k : Nat) : Prop := a = 23 ∨ a = 24 ∨ a = 25
def Scm (a k : Nat) : Prop := Ssc a k ∨ (a = 26 ∧ k = 7)
/-- what a change weighs, none: it can't be -/
def wq (gt : Nat → Bool) (lw : Nat → Nat → Nat → Nat → Nat → Option Nat) (s t p n h : Nat) : Option Nat := if (s = 1 ∨ s = 3) ∧ gt t = false then none else lw s t p n h
/-- what is asked of the scale: it tells weights, and stays as it is while others' cells change -/
def WSp (SC : Mem → Prop) (gt : Nat → Bool) (lw : Nat → Nat → Nat → Nat → Nat → Option Nat) : Prop :=
  (∀ M, LayC M → SC M → ∀ s t p n h, s < 5 → t < 6 → p < 6 → n ≤ 5 → h ≤ 5 → TT (f_X8_weightOf M 21 (nI s) (nI t) (nI p) (nI n) (nI h)) (fun q => Fr Ssc M q.1 ∧ SC q.1 ∧ q.2 = oI (wq gt lw s t p n h))) ∧
  (∀ s t p n h w, lw s t p n h = some w → w ≤ 99) ∧
  ∀ (S : Nat → Nat → Prop) M M1, (∀ a k, S a k → 26 ≤ a ∧ a ≤ 31) → Fr S M M1 → SC M → SC M1
/-- a change that can be: what it makes, what it weighs -/
def cmk (gt : Nat → Bool) (sd : Nat → Option Nat) (lw : Nat → Nat → Nat → Nat → Nat → Option Nat) (l : List Nat) (s p t : Nat) : Option (List Nat × Nat) :=
  (chg sd l s p t).bind (fun c => (wq gt lw s c.2 p l.length (l.count c.2)).map (fun w => (c.1, w)))
def cmQ (SC : Mem → Prop) (M : Mem) (l : List Nat) (o : Option (List Nat × Nat)) (q : Mem × Int32) : Prop := Fr Scm M q.1 ∧ SC q.1 ∧ PLT q.1 l ∧ match o with
  | none => q.2 = -1
  | some c => q.2 = nI (rank c.1) ∧ mI q.1 26 7 = nI c.2
theorem PLT.fr {M M1 : Mem} {S : Nat → Nat → Prop} {l : List Nat} (h : PLT M l) (hF : Fr S M M1) (hs : ∀ a k, S a k → a ≠ 27 ∧ a ≠ 28 ∧ a ≠ 29) : PLT M1 l := by
  refine ⟨?_, ?_, fun k hk => ?_, fun u hu => ?_⟩
  · rw [hF.i (fun q => (hs _ _ q).1 rfl)]; exact h.1
  · rw [hF.i (fun q => (hs _ _ q).1 rfl)]; exact h.2.1
  · rw [hF.i (fun q => (hs _ _ q).2.1 rfl)]; exact h.2.2.1 k hk
  · rw [hF.i (fun q => (hs _ _ q).2.2 rfl)]; exact h.2.2.2 u hu
theorem cm_tail {SC : Mem → Prop} {gt : Nat → Bool} {lw : Nat → Nat → Nat → Nat → Nat → Option Nat} (hW : WSp SC gt lw) {M : Mem} (hL : LayC M) (hSC : SC M) {l l' : List Nat} (hl : DL l) (hP : PLT M l) {s p th : Nat} (hs : s < 5) (hp : p < 6) (hth : th < 6) : TT (Option.bind (f_X8_weightOf M 21 (nI s) (nI th) (nI p) (nI l.length) (nI (l.count th))) (fun q19 => if mI (wI q19.1 26 7 q19.2) 26 7 = (-1) then some (wI q19.1 26 7 q19.2, -1) else some (wI q19.1 26 7 q19.2, nI (rank l')))) (cmQ SC M l ((wq gt lw s th p l.length (l.count th)).map (fun w => (l', w)))) := by
  rw [TT_bind]
  have hc : l.count th ≤ 5 := Nat.le_trans List.count_le_length hl.1
  refine (hW.1 M hL hSC s th p l.length (l.count th) hs hth hp hl.1 hc).mono ?_
  rintro ⟨M1, x⟩ ⟨hF, hS1, hx⟩
  simp only at hF hS1 hx ⊢
  subst hx
  have hF2 : Fr Scm M (wI M1 26 7 (oI (wq gt lw s th p l.length (l.count th)))) := (hF.up (fun a k h => Or.inl h)).wI (Or.inr ⟨rfl, rfl⟩)
  have hS2 : SC (wI M1 26 7 (oI (wq gt lw s th p l.length (l.count th)))) := hW.2.2 (fun a k => a = 26 ∧ k = 7) M1 _ (fun a k h => by omega) (Fr.rf.wI ⟨rfl, rfl⟩) hS1
  have hP2 := hP.fr hF2 (fun a k h => by unfold Scm Ssc at h; omega)
  rw [mI_wIs]
  cases hw : wq gt lw s th p l.length (l.count th) with
  | none =>
    rw [hw] at hF2 hS2 hP2
    rw [if_pos (show oI none = -1 from rfl), TT_some]
    exact ⟨hF2, hS2, hP2, rfl⟩
  | some w =>
    rw [hw] at hF2 hS2 hP2
    have hw9 : w ≤ 99 := by
      unfold wq at hw
      split at hw
      · cases hw
      · exact hW.2.1 _ _ _ _ _ _ hw
    rw [if_neg (show ¬ oI (some w) = -1 from nne_m1 (a := w) (by omega)), TT_some]
    exact ⟨hF2, hS2, hP2, rfl, mI_wIs⟩
def STd (M : Mem) (sd : Nat → Option Nat) : Prop := ∀ t, t < 6 → mI M 4 t = oI (sd t) ∧ ∀ u, sd t = some u → u < 6
set_option maxHeartbeats 4000000 in
theorem p_cmakes {SC : Mem → Prop} {gt : Nat → Bool} {lw : Nat → Nat → Nat → Nat → Nat → Option Nat} (hW : WSp SC gt lw) {M : Mem} (hL : LayC M) (hSC : SC M) {l : List Nat} (hl : DL l) (hP : PLT M l) {sd : Nat → Option Nat} (hsd : STd M sd) {s p t : Nat} (hs : s < 5) (hp : p < 6) (ht : t < 6) : TT (f_X1_makes M 26 (nI s) (nI p) (nI t)) (cmQ SC M l (cmk gt sd lw l s p t)) := by
  have h5 := hl.1
  have hL0 := hL
  unfold f_X1_makes
  unfold LayC at hL
  have none_ : cmQ SC M l none (M, -1) := ⟨Fr.rf, hSC, hP, rfl⟩
  have v5 : p < l.length → vp_in (nI p) 5 := fun hk => (nvp (by omega)).mpr (by omega)
  have v6 : ∀ {k : Nat}, k < 6 → vp_in (nI k) 6 := fun hk => (nvp (by omega)).mpr (by omega)
  simp only [bv, hL, grd_T, Option.bind_some, swC, swO]
  have hg := getD_lt hl (k := p)
  match s, hs with
  | 0, hs =>
    rw [if_pos (by decide), p_without hL0 hl hP (by omega)]
    simp only [Option.bind_some]
    by_cases h : p < l.length
    · rw [if_pos h, if_neg (nne_m1 (by have := (hl.erase (p := p)).rank; omega)), if_neg (by decide)]
      rw [nclampI (by omega), hP.2.2.1 p h, nclampI (by omega), hP.2.2.2 _ hg, hP.1, TT_grd, TT_grd]
      refine ⟨v5 h, v6 hg, ?_⟩
      have ec : cmk gt sd lw l 0 p t = (wq gt lw 0 (l.getD p 0) p l.length (l.count (l.getD p 0))).map (fun w => (l.eraseIdx p, w)) := by simp only [cmk, chg]; rw [if_pos h]; rfl
      rw [ec]
      exact cm_tail hW hL0 hSC hl hP hs hp hg
    · have ec : cmk gt sd lw l 0 p t = none := by simp only [cmk, chg]; rw [if_neg h]; rfl
      rw [ec, if_neg h, if_pos rfl, TT_some]
      exact none_
  | 1, hs =>
    rw [if_neg (by decide), if_pos (by decide), p_with hL0 hl hP (by omega) ht]
    simp only [Option.bind_some]
    by_cases h : p ≤ l.length ∧ l.length < 5
    · rw [if_pos h, if_neg (nne_m1 (by have := (hl.insert h.1 h.2 ht).rank; omega)), if_pos (by decide)]
      rw [nclampI (by omega), hP.2.2.2 _ ht, hP.1, TT_grd]
      refine ⟨v6 ht, ?_⟩
      have ec : cmk gt sd lw l 1 p t = (wq gt lw 1 t p l.length (l.count t)).map (fun w => (l.insertIdx p t, w)) := by simp only [cmk, chg]; rw [if_pos h]; rfl
      rw [ec]
      exact cm_tail hW hL0 hSC hl hP hs hp ht
    · have ec : cmk gt sd lw l 1 p t = none := by simp only [cmk, chg]; rw [if_neg h]; rfl
      rw [ec, if_neg h, if_pos rfl, TT_some]
      exact none_
  | 2, hs =>
    rw [if_neg (by decide), if_neg (by decide), if_pos (by decide), p_swapped hL0 hl hP (by omega)]
    simp only [Option.bind_some]
    by_cases h : p + 1 < l.length ∧ l.getD p 0 ≠ l.getD (p + 1) 0
    · rw [if_pos h, if_neg (nne_m1 (by have := ((hl.set (p := p) (getD_lt hl (k := p + 1))).set (p := p + 1) hg).rank; omega)), if_neg (by decide)]
      rw [nclampI (by omega), hP.2.2.1 p (by omega), nclampI (by omega), hP.2.2.2 _ hg, hP.1, TT_grd, TT_grd]
      refine ⟨v5 (by omega), v6 hg, ?_⟩
      have ec : cmk gt sd lw l 2 p t = (wq gt lw 2 (l.getD p 0) p l.length (l.count (l.getD p 0))).map (fun w => ((l.set p (l.getD (p + 1) 0)).set (p + 1) (l.getD p 0), w)) := by simp only [cmk, chg]; rw [if_pos h]; rfl
      rw [ec]
      exact cm_tail hW hL0 hSC hl hP hs hp hg
    · have ec : cmk gt sd lw l 2 p t = none := by simp only [cmk, chg]; rw [if_neg h]; rfl
      rw [ec, if_neg h, if_pos rfl, TT_some]
      exact none_
  | 3, hs =>
    rw [if_neg (by decide), if_neg (by decide), if_neg (by decide), if_pos (by decide), p_doubled hL0 hl hP (by omega)]
    simp only [Option.bind_some]
    by_cases h : p < l.length ∧ l.length < 5
    · rw [if_pos h, if_neg (nne_m1 (by have := (hl.insert (Nat.le_of_lt h.1) h.2 hg).rank; omega)), if_neg (by decide)]
      rw [nclampI (by omega), hP.2.2.1 p h.1, nclampI (by omega), hP.2.2.2 _ hg, hP.1, TT_grd, TT_grd]
      refine ⟨v5 h.1, v6 hg, ?_⟩
      have ec : cmk gt sd lw l 3 p t = (wq gt lw 3 (l.getD p 0) p l.length (l.count (l.getD p 0))).map (fun w => (l.insertIdx p (l.getD p 0), w)) := by simp only [cmk, chg]; rw [if_pos h]; rfl
      rw [ec]
      exact cm_tail hW hL0 hSC hl hP hs hp hg
    · have ec : cmk gt sd lw l 3 p t = none := by simp only [cmk, chg]; rw [if_neg h]; rfl
      rw [ec, if_neg h, if_pos rfl, TT_some]
      exact none_
  | 4, hs =>
    rw [if_neg (by decide), if_neg (by decide), if_neg (by decide), if_neg (by decide), p_hasPlace hL0 hl hP (by omega)]
    simp only [Option.bind_some]
    by_cases h : p < l.length
    · rw [if_pos h, if_neg (by decide), nclampI (by omega), hP.2.2.1 p h, nclampI (by omega), (hsd _ hg).1, TT_grd, TT_grd]
      refine ⟨v5 h, v6 hg, ?_⟩
      rw [p_replaced hL0 hl hP (by omega) (hsd _ hg).2, if_pos h]
      simp only [Option.bind_some]
      cases ho : sd (l.getD p 0) with
      | none =>
        have ec : cmk gt sd lw l 4 p t = none := by simp only [cmk, chg]; rw [if_pos h, ho]; rfl
        rw [ec, if_pos (show oI (Option.map _ none) = -1 from rfl), TT_some]
        exact none_
      | some u =>
        have hu := (hsd _ hg).2 u ho
        have ec : cmk gt sd lw l 4 p t = (wq gt lw 4 (l.getD p 0) p l.length (l.count (l.getD p 0))).map (fun w => (l.set p u, w)) := by simp only [cmk, chg]; rw [if_pos h, ho]; rfl
        rw [ec, show oI (Option.map (fun u => rank (l.set p u)) (some u)) = nI (rank (l.set p u)) from rfl, if_neg (nne_m1 (by have := (hl.set (p := p) hu).rank; omega)), if_neg (by decide), TT_grd, TT_grd, hP.2.2.2 _ hg, hP.1]
        exact ⟨v5 h, v6 hg, cm_tail hW hL0 hSC hl hP hs hp hg⟩
    · have ec : cmk gt sd lw l 4 p t = none := by simp only [cmk, chg]; rw [if_neg h]; rfl
      rw [ec, if_neg h, if_pos rfl, if_pos trivial, TT_some]
      exact none_
