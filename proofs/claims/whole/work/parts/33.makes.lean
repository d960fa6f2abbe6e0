/-! CHANGES of a dish: what it becomes, and whose pinch it is -/
def chg (sd : Nat → Option Nat) (l : List Nat) (sort place thing : Nat) : Option (List Nat × Nat) :=
  match sort with
  | 0 => if place < l.length then some (l.eraseIdx place, l.getD place 0) else none
  | 1 => if place ≤ l.length ∧ l.length < 5 then some (l.insertIdx place thing, thing) else none
  | 2 => if place + 1 < l.length ∧ l.getD place 0 ≠ l.getD (place + 1) 0 then some ((l.set place (l.getD (place + 1) 0)).set (place + 1) (l.getD place 0), l.getD place 0) else none
  | 3 => if place < l.length ∧ l.length < 5 then some (l.insertIdx place (l.getD place 0), l.getD place 0) else none
  | _ => if place < l.length then (sd (l.getD place 0)).map (fun t => (l.set place t, l.getD place 0)) else none
/-- what is got: for the sorts that put a pinch in -/
def chgG (gt : Nat → Bool) (sd : Nat → Option Nat) (l : List Nat) (sort place thing : Nat) : Option (List Nat × Nat) :=
  (chg sd l sort place thing).bind (fun q => if (sort = 1 ∨ sort = 3) ∧ gt q.2 = false then none else some q)
def oI (o : Option Nat) : Int32 := match o with
  | none => -1
  | some t => nI t
theorem getD_lt {l : List Nat} (h : DL l) {k : Nat} : l.getD k 0 < 6 := by
  rw [List.getD_eq_getElem?_getD]
  cases hk : l[k]? with
  | none => simp
  | some d =>
    simp
    exact h.2 d (List.mem_of_getElem? hk)
theorem DL.erase {l : List Nat} (h : DL l) {p : Nat} : DL (l.eraseIdx p) := ⟨Nat.le_trans (List.length_eraseIdx_le l p) h.1, fun d hd => h.2 d (List.mem_of_mem_eraseIdx hd)⟩
theorem DL.insert {l : List Nat} (h : DL l) {p t : Nat} (hp : p ≤ l.length) (hl : l.length < 5) (ht : t < 6) : DL (l.insertIdx p t) := by
  refine ⟨?_, fun d hd => ?_⟩
  · rw [List.length_insertIdx]
    split <;> omega
  · rcases (List.mem_insertIdx hp).mp hd with q | q
    · omega
    · exact h.2 d q
theorem DL.set {l : List Nat} (h : DL l) {p t : Nat} (ht : t < 6) : DL (l.set p t) := by
  refine ⟨by rw [List.length_set]; exact h.1, fun d hd => ?_⟩
  rcases List.mem_or_eq_of_mem_set hd with q | q
  · exact h.2 d q
  · omega
theorem erase_getD {l : List Nat} {p j : Nat} : (l.eraseIdx p).getD j 0 = if j < p then l.getD j 0 else l.getD (j + 1) 0 := by
  rw [List.getD_eq_getElem?_getD, List.getElem?_eraseIdx]
  split <;> simp
theorem insert_getD {l : List Nat} {p t j : Nat} (hp : p ≤ l.length) : (l.insertIdx p t).getD j 0 = if j < p then l.getD j 0 else if j = p then t else l.getD (j - 1) 0 := by
  rw [List.getD_eq_getElem?_getD, List.getElem?_insertIdx]
  by_cases h1 : j < p
  · simp [h1]
  · by_cases h2 : j = p
    · subst h2
      simp [hp]
    · simp [h1, h2]
theorem setD_at {l : List Nat} {p t j : Nat} (hp : p < l.length) : (l.set p t).getD j 0 = if j = p then t else l.getD j 0 := by
  rw [List.getD_eq_getElem?_getD, List.getElem?_set]
  by_cases h : p = j
  · subst h
    simp [hp]
  · have h' : ¬ j = p := fun e => h e.symm
    simp [h, h']
def Smk (a k : Nat) : Prop := a = 52 ∨ (a = 47 ∧ (k = 7 ∨ k = 8))
theorem Spin_mk : ∀ a k, Spin a k → Smk a k := fun a k h => by
  rcases h with h | ⟨h1, h2⟩
  · exact Or.inl h
  · exact Or.inr ⟨h1, Or.inl h2⟩
/-- what the model's makes owes -/
def mkQ (M : Mem) (o : Option (List Nat × Nat)) (q : Mem × Int32) : Prop := Fr Smk M q.1 ∧ match o with
  | none => q.2 = -1
  | some c => q.2 = nI (num c.1) ∧ mI q.1 47 8 = nI c.2
def KGS (M : Mem) (gt : Nat → Bool) (sd : Nat → Option Nat) : Prop := ∀ t, t < 6 → mI M 49 (6 + t) = (if gt t then 1 else 0) ∧ mI M 49 (12 + t) = oI (sd t) ∧ ∀ u, sd t = some u → u < 6
/-- the ways out of makes: closes -/
theorem mk_close {M M1 : Mem} (hL : LayM M) (hF : Fr Smk M M1) {l : List Nat} {th : Nat} (hl : DL l) (hn : mI M1 47 7 = nI l.length) (hp : ∀ k, k < l.length → mI M1 52 k = nI (l.getD k 0)) (ht : mI M1 47 8 = nI th) : TT (Option.bind (f_X12_closes M1 47) (fun q => some (M1, q))) (mkQ M (some (l, th))) := by
  rw [p_closes (hL.fr hF) hl hn hp]
  exact ⟨_, rfl, hF, rfl, ht⟩
theorem KGS.fr {M M1 : Mem} {S : Nat → Nat → Prop} {gt : Nat → Bool} {sd : Nat → Option Nat} (h : KGS M gt sd) (hF : Fr S M M1) (hs : ∀ k, ¬ S 49 k) : KGS M1 gt sd := fun t ht => by
  rw [hF.i (hs _), hF.i (hs _)]
  exact h t ht
set_option maxHeartbeats 4000000 in
theorem p_makes {M : Mem} (hL : LayM M) {l : List Nat} (hl : DL l) {gt : Nat → Bool} {sd : Nat → Option Nat} (hK : KGS M gt sd) {sort p thing : Nat} {p4 : Int32} (hs : sort < 5) (hp : p < 2147483000) (h4 : sort = 1 → p4 = nI thing ∧ thing < 6) : TT (f_X12_makes M 47 (nI (num l)) (nI sort) (nI p) p4) (mkQ M (chgG gt sd l sort p thing)) := by
  have h5 := hl.1
  have hLL := hL
  unfold LayM at hLL
  unfold f_X12_makes
  simp only [hLL, grd_T]
  rw [TT_bind]
  refine (p_opens hL hl).mono ?_
  rintro M2 ⟨hF2', hn2, hp2⟩
  have hF2 : Fr Smk M M2 := hF2'.up Spin_mk
  have hL2 := hL.fr hF2
  have hK2 : KGS M2 gt sd := hK.fr hF2 (fun k => by unfold Smk; omega)
  have hLL2 := hL2
  unfold LayM at hLL2
  have hll : l.length < 2147483648 := by omega
  have lt7 : ∀ {k : Nat}, k ≤ 5 → vp_in (nI k) 7 := fun h => (nvp (by omega)).mpr (by omega)
  match sort, hs with
  | 0, _ =>
    simp only [show (nI 0 = (1 : Int32)) = False from by simp (disch := omega) [nlit, neqI], show (nI 0 = (2 : Int32)) = False from by simp (disch := omega) [nlit, neqI], show (nI 0 = (3 : Int32)) = False from by simp (disch := omega) [nlit, neqI], show (nI 0 = (4 : Int32)) = False from by simp (disch := omega) [nlit, neqI], show (nI 0 = (0 : Int32)) = True from by simp [nlit], if_false, if_true, bv, hn2]
    rw [lies_bind]
    have ec : (0 ≤ nI p ∧ nI p ≤ nI l.length - 1) ↔ p < l.length := by
      rw [nlit, nlit, nI_ii p, nI_ii l.length, nI_ii 0, nI_ii 1, ii_sub, ii_le ⟨by omega, by omega⟩ ⟨by omega, by omega⟩, ii_le ⟨by omega, by omega⟩ ⟨by omega, by omega⟩]
      omega
    by_cases hpl : p < l.length
    · rw [if_pos (ec.mpr hpl)]
      simp only [hLL2, Option.bind_some, grd_T]
      rw [nclampI (by omega), hp2 p hpl, TT_grd]
      refine ⟨lt7 (by omega), ?_⟩
      have hth := getD_lt hl (k := p)
      have hF18 : Fr Smk M (wI M2 47 8 (nI (l.getD p 0))) := hF2.wI (Or.inr ⟨rfl, Or.inr rfl⟩)
      have hn18 : mI (wI M2 47 8 (nI (l.getD p 0))) 47 7 = nI l.length := by rw [mI_wI_ne (by decide)]; exact hn2
      have ht18 : mI (wI M2 47 8 (nI (l.getD p 0))) 47 8 = nI (l.getD p 0) := mI_wIs
      have hp18 : ∀ k, k < l.length → mI (wI M2 47 8 (nI (l.getD p 0))) 52 k = nI (l.getD k 0) := fun k hk => by rw [mI_wI_row (by decide)]; exact hp2 k hk
      generalize wI M2 47 8 (nI (l.getD p 0)) = M18 at hF18 hn18 ht18 hp18 ⊢
      rw [ht18, if_neg (nne_m1 (by omega)), hn18, TT_bind]
      have ech : chgG gt sd l 0 p thing = some (l.eraseIdx p, l.getD p 0) := by simp [chgG, chg, hpl]
      rw [ech]
      refine TT.mono (Q := fun M' => Fr Smk M M' ∧ mI M' 47 7 = nI (l.eraseIdx p).length ∧ mI M' 47 8 = nI (l.getD p 0) ∧ ∀ k, k < (l.eraseIdx p).length → mI M' 52 k = nI ((l.eraseIdx p).getD k 0)) ?_ (fun M' h => mk_close hL h.1 hl.erase h.2.1 h.2.2.2 h.2.2.1)
      have elen : (l.eraseIdx p).length = l.length - 1 := by rw [List.length_eraseIdx, if_pos hpl]
      rw [elen]
      rw [show nI l.length - 1 = nI (l.length - 1) from nsub (b := 1) (by omega)]
      refine TT_loop (fun s => ∃ k : Nat, s.2 = nI k ∧ p ≤ k ∧ k ≤ l.length - 1 ∧ Fr Smk M s.1 ∧ mI s.1 47 7 = nI (l.length - 1) ∧ mI s.1 47 8 = nI (l.getD p 0) ∧ ∀ j, j < l.length → mI s.1 52 j = nI (if p ≤ j ∧ j < k then l.getD (j + 1) 0 else l.getD j 0)) (fun s => 10 - s.2.toNatClampNeg) ?_ _ ⟨p, rfl, by omega, by omega, hF18.wI (Or.inr ⟨rfl, Or.inl rfl⟩), mI_wIs, by rw [mI_wI_ne (by decide)]; exact ht18, fun j hj => by rw [mI_wI_row (by decide), hp18 j hj, if_neg (by omega)]⟩
      rintro ⟨M3, x⟩ ⟨k, hx, hk1, hk2, hF3, hn3, ht3, hp3⟩
      simp only at hx hF3 hn3 ht3 hp3 ⊢
      subst hx
      have hLL3 := hL.fr hF3
      unfold LayM at hLL3
      simp only [hLL3, Option.bind_some, grd_T, hn3]
      simp (disch := omega) only [nlit, nleI, nadd, nclampI]
      rw [TT_if]
      refine ⟨fun h => ?_, fun h => ?_⟩
      · have hkk : k = l.length - 1 := by omega
        subst hkk
        rw [TT_some]
        refine ⟨hF3, hn3, ht3, fun j hj => ?_⟩
        rw [hp3 j (by omega), erase_getD]
        congr 1
        by_cases hjp : j < p
        · rw [if_pos hjp, if_neg (by omega)]
        · rw [if_neg hjp, if_pos (by omega)]
      · rw [TT_grd, TT_grd]
        refine ⟨lt7 (by omega), lt7 (by omega), ?_⟩
        rw [hp3 (k + 1) (by omega), if_neg (by omega), TT_some]
        refine ⟨⟨k + 1, rfl, by omega, by omega, hF3.wI (Or.inl rfl), by rw [mI_wI_row (by decide)]; exact hn3, by rw [mI_wI_row (by decide)]; exact ht3, fun j hj => ?_⟩, ?_⟩
        · rw [mI_wI]
          by_cases hjk : j = k
          · subst hjk
            rw [if_pos ⟨rfl, rfl⟩, if_pos (by omega)]
          · rw [if_neg (fun q => hjk q.2), hp3 j hj]
            congr 1
            by_cases hjj : p ≤ j ∧ j < k
            · rw [if_pos hjj, if_pos (by omega)]
            · rw [if_neg hjj, if_neg (by omega)]
        · simp (disch := omega) only [nclampI]
          omega
    · rw [if_neg (fun h => hpl (ec.mp h)), TT_some]
      have ech : chgG gt sd l 0 p thing = none := by simp [chgG, chg, hpl]
      rw [ech]
      exact ⟨hF2, rfl⟩
  | 1, _ =>
    obtain ⟨rfl, hth⟩ := h4 rfl
    simp only [show (nI 1 = (0 : Int32)) = False from by simp (disch := omega) [nlit, neqI], show (nI 1 = (1 : Int32)) = True from by simp [nlit], show (nI 1 = (2 : Int32)) = False from by simp (disch := omega) [nlit, neqI], show (nI 1 = (3 : Int32)) = False from by simp (disch := omega) [nlit, neqI], show (nI 1 = (4 : Int32)) = False from by simp (disch := omega) [nlit, neqI], if_false, if_true, bv, hn2]
    rw [lies_bind]
    have ec : (0 ≤ nI p ∧ nI p ≤ nI l.length) ↔ p ≤ l.length := by
      simp (disch := omega) only [nlit, nleI]
      omega
    by_cases hpl : p ≤ l.length
    · rw [if_pos (ec.mpr hpl)]
      have hF18 : Fr Smk M (wI M2 47 8 (nI thing)) := hF2.wI (Or.inr ⟨rfl, Or.inr rfl⟩)
      have hn18 : mI (wI M2 47 8 (nI thing)) 47 7 = nI l.length := by rw [mI_wI_ne (by decide)]; exact hn2
      have ht18 : mI (wI M2 47 8 (nI thing)) 47 8 = nI thing := mI_wIs
      have hp18 : ∀ k, k < l.length → mI (wI M2 47 8 (nI thing)) 52 k = nI (l.getD k 0) := fun k hk => by rw [mI_wI_row (by decide)]; exact hp2 k hk
      generalize wI M2 47 8 (nI thing) = M18 at hF18 hn18 ht18 hp18 ⊢
      have hLL18 := hL.fr hF18
      unfold LayM at hLL18
      have hK18 : KGS M18 gt sd := hK.fr hF18 (fun k => by unfold Smk; omega)
      rw [ht18, hn18]
      by_cases hlen : l.length = 5
      · rw [if_pos (by rw [hlen]; rfl), TT_some]
        have ech : chgG gt sd l 1 p thing = none := by simp [chgG, chg, hlen]
        rw [ech]
        exact ⟨hF18, rfl⟩
      · rw [if_neg (by simp (disch := omega) only [nlit, neqI]; exact hlen)]
        simp only [hLL18, Option.bind_some, grd_T]
        rw [show (6 : Int32) + nI (thing) = nI (6 + (thing)) from nadd 6 _, nclampI (by omega), TT_grd]
        refine ⟨(nvp (by omega)).mpr (by omega), ?_⟩
        rw [(hK18 (thing) (by omega)).1]
        have hl5 : l.length < 5 := by omega
        cases hg : gt (thing) with
        | false =>
          rw [if_neg (show ¬ (false = true) by decide), if_pos rfl, TT_some]
          have ech : chgG gt sd l 1 p thing = none := by
            simp only [chgG, chg]
            rw [if_pos ⟨hpl, hl5⟩]
            show (if _ then none else _) = none
            exact if_pos ⟨by decide, hg⟩
          rw [ech]
          exact ⟨hF18, rfl⟩
        | true =>
          rw [if_pos rfl, if_neg (by decide)]
          have ech : chgG gt sd l 1 p thing = some (l.insertIdx p (thing), thing) := by
            simp only [chgG, chg]
            rw [if_pos ⟨hpl, hl5⟩]
            show (if _ then none else _) = some _
            exact if_neg (fun q => by have q2 := q.2; simp only [hg] at q2; exact absurd q2 (by decide))
          rw [ech]
          rw [if_neg (nne_m1 (by omega)), TT_bind]
          refine TT.mono (Q := fun M' => Fr Smk M M' ∧ mI M' 47 7 = nI l.length ∧ mI M' 47 8 = nI (thing) ∧ ∀ j, j < l.length + 1 → (p < j → mI M' 52 j = nI (l.getD (j - 1) 0)) ∧ (j < p → mI M' 52 j = nI (l.getD j 0))) ?_ ?_
          · refine TT_loop (fun s => ∃ k : Nat, s.2 = nI k ∧ p ≤ k ∧ k ≤ l.length ∧ Fr Smk M s.1 ∧ mI s.1 47 7 = nI l.length ∧ mI s.1 47 8 = nI (thing) ∧ ∀ j, j < l.length + 1 → (k < j → mI s.1 52 j = nI (l.getD (j - 1) 0)) ∧ (j < k → mI s.1 52 j = nI (l.getD j 0))) (fun s => s.2.toNatClampNeg) ?_ _ ⟨l.length, rfl, by omega, by omega, hF18, hn18, ht18, fun j hj => ⟨fun h => by omega, fun h => hp18 j h⟩⟩
            rintro ⟨M3, x⟩ ⟨k, hx, hk1, hk2, hF3, hn3, ht3, hp3⟩
            simp only at hx hF3 hn3 ht3 hp3 ⊢
            subst hx
            have hLL3 := hL.fr hF3
            unfold LayM at hLL3
            simp only [hLL3, Option.bind_some, grd_T]
            simp (disch := omega) only [nlit, nleI]
            rw [TT_if]
            refine ⟨fun h => ?_, fun h => ?_⟩
            · have hkk : k = p := by omega
              subst hkk
              rw [TT_some]
              exact ⟨hF3, hn3, ht3, hp3⟩
            · simp (disch := omega) only [nsub, npred, nclampI]
              rw [TT_grd, TT_grd]
              refine ⟨lt7 (by omega), lt7 (by omega), ?_⟩
              rw [(hp3 (k - 1) (by omega)).2 (by omega), TT_some]
              refine ⟨⟨k - 1, rfl, by omega, by omega, hF3.wI (Or.inl rfl), by rw [mI_wI_row (by decide)]; exact hn3, by rw [mI_wI_row (by decide)]; exact ht3, fun j hj => ⟨fun hh => ?_, fun hh => ?_⟩⟩, ?_⟩
              · rw [mI_wI]
                by_cases hjk : j = k
                · subst hjk
                  rw [if_pos ⟨rfl, rfl⟩]
                · rw [if_neg (fun q => hjk q.2)]
                  exact (hp3 j hj).1 (by omega)
              · rw [mI_wI, if_neg (fun q => by have := q.2; omega)]
                exact (hp3 j hj).2 (by omega)
              · simp (disch := omega) only [nclampI]
                omega
          · rintro M4 ⟨hF4, hn4, ht4, hp4⟩
            have hLL4 := hL.fr hF4
            unfold LayM at hLL4
            simp only [hLL4, Option.bind_some, grd_T]
            try rw [nclampI (by omega)]
            rw [TT_grd]
            refine ⟨lt7 (by omega), ?_⟩
            have elen : (l.insertIdx p (thing)).length = l.length + 1 := by rw [List.length_insertIdx, if_pos (by omega)]
            refine mk_close hL ((hF4.wI (Or.inl rfl)).wI (Or.inr ⟨rfl, Or.inl rfl⟩)) (hl.insert (by omega) (by omega) (by omega)) ?_ ?_ ?_
            · rw [mI_wIs, mI_wI_row (by decide), hn4, elen, nlit, nadd]
            · intro j hj
              rw [elen] at hj
              rw [mI_wI_row (by decide), mI_wI, insert_getD (by omega)]
              by_cases hjp : j = p
              · subst hjp
                rw [if_pos ⟨rfl, rfl⟩, if_neg (by omega), if_pos rfl]
              · rw [if_neg (fun q => hjp q.2)]
                by_cases hj2 : j < p
                · rw [if_pos hj2]
                  exact (hp4 j hj).2 hj2
                · rw [if_neg hj2, if_neg hjp]
                  exact (hp4 j hj).1 (by omega)
            · rw [mI_wI_ne (by decide), mI_wI_row (by decide)]
              exact ht4
    · rw [if_neg (fun h => hpl (ec.mp h)), TT_some]
      have ech : chgG gt sd l 1 p thing = none := by simp [chgG, chg, hpl]
      rw [ech]
      exact ⟨hF2, rfl⟩
  | 2, _ =>
    simp only [show (nI 2 = (0 : Int32)) = False from by simp (disch := omega) [nlit, neqI], show (nI 2 = (1 : Int32)) = False from by simp (disch := omega) [nlit, neqI], show (nI 2 = (2 : Int32)) = True from by simp [nlit], show (nI 2 = (3 : Int32)) = False from by simp (disch := omega) [nlit, neqI], show (nI 2 = (4 : Int32)) = False from by simp (disch := omega) [nlit, neqI], if_false, if_true, bv, hn2]
    rw [lies_bind]
    have ec : (0 ≤ nI p ∧ nI p ≤ nI l.length - 2) ↔ p + 1 < l.length := by
      rw [nlit, nlit, nI_ii p, nI_ii l.length, nI_ii 0, nI_ii 2, ii_sub, ii_le ⟨by omega, by omega⟩ ⟨by omega, by omega⟩, ii_le ⟨by omega, by omega⟩ ⟨by omega, by omega⟩]
      omega
    by_cases hpl : p + 1 < l.length
    · rw [if_pos (ec.mpr hpl)]
      simp only [hLL2, Option.bind_some, grd_T]
      rw [nclampI (by omega), hp2 p (by omega), TT_grd]
      refine ⟨lt7 (by omega), ?_⟩
      have hth := getD_lt hl (k := p)
      have hF18 : Fr Smk M (wI M2 47 8 (nI (l.getD p 0))) := hF2.wI (Or.inr ⟨rfl, Or.inr rfl⟩)
      have hn18 : mI (wI M2 47 8 (nI (l.getD p 0))) 47 7 = nI l.length := by rw [mI_wI_ne (by decide)]; exact hn2
      have ht18 : mI (wI M2 47 8 (nI (l.getD p 0))) 47 8 = nI (l.getD p 0) := mI_wIs
      have hp18 : ∀ k, k < l.length → mI (wI M2 47 8 (nI (l.getD p 0))) 52 k = nI (l.getD k 0) := fun k hk => by rw [mI_wI_row (by decide)]; exact hp2 k hk
      generalize wI M2 47 8 (nI (l.getD p 0)) = M18 at hF18 hn18 ht18 hp18 ⊢
      have hLL18 := hL.fr hF18
      unfold LayM at hLL18
      have hK18 : KGS M18 gt sd := hK.fr hF18 (fun k => by unfold Smk; omega)
      rw [ht18, if_neg (nne_m1 (by omega))]
      simp only [hLL18, Option.bind_some, grd_T]
      rw [show nI p + 1 = nI (p + 1) from nadd p 1, nclampI (by omega), TT_grd, TT_grd]
      refine ⟨lt7 (by omega), lt7 (by omega), ?_⟩
      have hth2 := getD_lt hl (k := p + 1)
      rw [hp18 p (by omega), hp18 (p + 1) hpl, TT_if]
      refine ⟨fun heq => ?_, fun hne => ?_⟩
      · rw [neqI (by omega) (by omega)] at heq
        rw [TT_some]
        have ech : chgG gt sd l 2 p thing = none := by simp only [chgG, chg]; rw [if_neg (fun q => q.2 heq)]; rfl
        rw [ech]
        exact ⟨hF18, rfl⟩
      · rw [neqI (by omega) (by omega)] at hne
        have ech : chgG gt sd l 2 p thing = some ((l.set p (l.getD (p + 1) 0)).set (p + 1) (l.getD p 0), l.getD p 0) := by
          simp only [chgG, chg]
          rw [if_pos ⟨hpl, hne⟩]
          simp
        rw [ech]
        have hF19 := hF18.wI (a := 52) (k := p) (v := nI (l.getD (p + 1) 0)) (Or.inl rfl)
        have hLL19 := hL.fr hF19
        unfold LayM at hLL19
        simp only [hLL19, Option.bind_some, grd_T]
        rw [TT_grd, TT_grd, TT_grd]
        refine ⟨lt7 (by omega), lt7 (by omega), lt7 (by omega), ?_⟩
        refine mk_close hL (hF19.wI (Or.inl rfl)) ((hl.set hth2).set hth) ?_ ?_ ?_
        · rw [mI_wI_row (by decide), mI_wI_row (by decide), hn18, List.length_set, List.length_set]
        · intro j hj
          rw [List.length_set, List.length_set] at hj
          rw [setD_at (by rw [List.length_set]; omega), setD_at (by omega), mI_wI]
          by_cases hj1 : j = p + 1
          · subst hj1
            rw [if_pos ⟨rfl, rfl⟩, if_pos rfl]
          · rw [if_neg (fun q => hj1 q.2), if_neg hj1, mI_wI]
            by_cases hj2 : j = p
            · subst hj2
              rw [if_pos ⟨rfl, rfl⟩, if_pos rfl]
            · rw [if_neg (fun q => hj2 q.2), if_neg hj2]
              exact hp18 j hj
        · rw [mI_wI_row (by decide), mI_wI_row (by decide)]
          exact ht18
    · rw [if_neg (fun h => hpl (ec.mp h)), TT_some]
      have ech : chgG gt sd l 2 p thing = none := by simp [chgG, chg, hpl]
      rw [ech]
      exact ⟨hF2, rfl⟩
  | 3, _ =>
    simp only [show (nI 3 = (0 : Int32)) = False from by simp (disch := omega) [nlit, neqI], show (nI 3 = (1 : Int32)) = False from by simp (disch := omega) [nlit, neqI], show (nI 3 = (2 : Int32)) = False from by simp (disch := omega) [nlit, neqI], show (nI 3 = (3 : Int32)) = True from by simp [nlit], show (nI 3 = (4 : Int32)) = False from by simp (disch := omega) [nlit, neqI], if_false, if_true, bv, hn2]
    rw [lies_bind]
    have ec : (0 ≤ nI p ∧ nI p ≤ nI l.length - 1) ↔ p < l.length := by
      rw [nlit, nlit, nI_ii p, nI_ii l.length, nI_ii 0, nI_ii 1, ii_sub, ii_le ⟨by omega, by omega⟩ ⟨by omega, by omega⟩, ii_le ⟨by omega, by omega⟩ ⟨by omega, by omega⟩]
      omega
    by_cases hpl : p < l.length
    · rw [if_pos (ec.mpr hpl)]
      simp only [hLL2, Option.bind_some, grd_T]
      rw [nclampI (by omega), hp2 p (by omega), TT_grd]
      refine ⟨lt7 (by omega), ?_⟩
      have hth := getD_lt hl (k := p)
      have hF18 : Fr Smk M (wI M2 47 8 (nI (l.getD p 0))) := hF2.wI (Or.inr ⟨rfl, Or.inr rfl⟩)
      have hn18 : mI (wI M2 47 8 (nI (l.getD p 0))) 47 7 = nI l.length := by rw [mI_wI_ne (by decide)]; exact hn2
      have ht18 : mI (wI M2 47 8 (nI (l.getD p 0))) 47 8 = nI (l.getD p 0) := mI_wIs
      have hp18 : ∀ k, k < l.length → mI (wI M2 47 8 (nI (l.getD p 0))) 52 k = nI (l.getD k 0) := fun k hk => by rw [mI_wI_row (by decide)]; exact hp2 k hk
      generalize wI M2 47 8 (nI (l.getD p 0)) = M18 at hF18 hn18 ht18 hp18 ⊢
      have hLL18 := hL.fr hF18
      unfold LayM at hLL18
      have hK18 : KGS M18 gt sd := hK.fr hF18 (fun k => by unfold Smk; omega)
      rw [ht18, hn18]
      by_cases hlen : l.length = 5
      · rw [if_pos (by rw [hlen]; rfl), TT_some]
        have ech : chgG gt sd l 3 p thing = none := by simp [chgG, chg, hlen]
        rw [ech]
        exact ⟨hF18, rfl⟩
      · rw [if_neg (by simp (disch := omega) only [nlit, neqI]; exact hlen)]
        simp only [hLL18, Option.bind_some, grd_T]
        rw [show (6 : Int32) + nI (l.getD p 0) = nI (6 + (l.getD p 0)) from nadd 6 _, nclampI (by omega), TT_grd]
        refine ⟨(nvp (by omega)).mpr (by omega), ?_⟩
        rw [(hK18 (l.getD p 0) (by omega)).1]
        have hl5 : l.length < 5 := by omega
        cases hg : gt (l.getD p 0) with
        | false =>
          rw [if_neg (show ¬ (false = true) by decide), if_pos rfl, TT_some]
          have ech : chgG gt sd l 3 p thing = none := by
            simp only [chgG, chg]
            rw [if_pos ⟨hpl, hl5⟩]
            show (if _ then none else _) = none
            exact if_pos ⟨by decide, hg⟩
          rw [ech]
          exact ⟨hF18, rfl⟩
        | true =>
          rw [if_pos rfl, if_neg (by decide)]
          have ech : chgG gt sd l 3 p thing = some (l.insertIdx p (l.getD p 0), l.getD p 0) := by
            simp only [chgG, chg]
            rw [if_pos ⟨hpl, hl5⟩]
            show (if _ then none else _) = some _
            exact if_neg (fun q => by have q2 := q.2; simp only [hg] at q2; exact absurd q2 (by decide))
          rw [ech]
          rw [if_neg (nne_m1 (by omega)), TT_bind]
          refine TT.mono (Q := fun M' => Fr Smk M M' ∧ mI M' 47 7 = nI l.length ∧ mI M' 47 8 = nI (l.getD p 0) ∧ ∀ j, j < l.length + 1 → (p < j → mI M' 52 j = nI (l.getD (j - 1) 0)) ∧ (j < p → mI M' 52 j = nI (l.getD j 0))) ?_ ?_
          · refine TT_loop (fun s => ∃ k : Nat, s.2 = nI k ∧ p ≤ k ∧ k ≤ l.length ∧ Fr Smk M s.1 ∧ mI s.1 47 7 = nI l.length ∧ mI s.1 47 8 = nI (l.getD p 0) ∧ ∀ j, j < l.length + 1 → (k < j → mI s.1 52 j = nI (l.getD (j - 1) 0)) ∧ (j < k → mI s.1 52 j = nI (l.getD j 0))) (fun s => s.2.toNatClampNeg) ?_ _ ⟨l.length, rfl, by omega, by omega, hF18, hn18, ht18, fun j hj => ⟨fun h => by omega, fun h => hp18 j h⟩⟩
            rintro ⟨M3, x⟩ ⟨k, hx, hk1, hk2, hF3, hn3, ht3, hp3⟩
            simp only at hx hF3 hn3 ht3 hp3 ⊢
            subst hx
            have hLL3 := hL.fr hF3
            unfold LayM at hLL3
            simp only [hLL3, Option.bind_some, grd_T]
            simp (disch := omega) only [nlit, nleI]
            rw [TT_if]
            refine ⟨fun h => ?_, fun h => ?_⟩
            · have hkk : k = p := by omega
              subst hkk
              rw [TT_some]
              exact ⟨hF3, hn3, ht3, hp3⟩
            · simp (disch := omega) only [nsub, npred, nclampI]
              rw [TT_grd, TT_grd]
              refine ⟨lt7 (by omega), lt7 (by omega), ?_⟩
              rw [(hp3 (k - 1) (by omega)).2 (by omega), TT_some]
              refine ⟨⟨k - 1, rfl, by omega, by omega, hF3.wI (Or.inl rfl), by rw [mI_wI_row (by decide)]; exact hn3, by rw [mI_wI_row (by decide)]; exact ht3, fun j hj => ⟨fun hh => ?_, fun hh => ?_⟩⟩, ?_⟩
              · rw [mI_wI]
                by_cases hjk : j = k
                · subst hjk
                  rw [if_pos ⟨rfl, rfl⟩]
                · rw [if_neg (fun q => hjk q.2)]
                  exact (hp3 j hj).1 (by omega)
              · rw [mI_wI, if_neg (fun q => by have := q.2; omega)]
                exact (hp3 j hj).2 (by omega)
              · simp (disch := omega) only [nclampI]
                omega
          · rintro M4 ⟨hF4, hn4, ht4, hp4⟩
            have hLL4 := hL.fr hF4
            unfold LayM at hLL4
            simp only [hLL4, Option.bind_some, grd_T]
            try rw [nclampI (by omega)]
            rw [TT_grd]
            refine ⟨lt7 (by omega), ?_⟩
            have elen : (l.insertIdx p (l.getD p 0)).length = l.length + 1 := by rw [List.length_insertIdx, if_pos (by omega)]
            refine mk_close hL ((hF4.wI (Or.inl rfl)).wI (Or.inr ⟨rfl, Or.inl rfl⟩)) (hl.insert (by omega) (by omega) (by omega)) ?_ ?_ ?_
            · rw [mI_wIs, mI_wI_row (by decide), hn4, elen, nlit, nadd]
            · intro j hj
              rw [elen] at hj
              rw [mI_wI_row (by decide), mI_wI, insert_getD (by omega)]
              by_cases hjp : j = p
              · subst hjp
                rw [if_pos ⟨rfl, rfl⟩, if_neg (by omega), if_pos rfl]
              · rw [if_neg (fun q => hjp q.2)]
                by_cases hj2 : j < p
                · rw [if_pos hj2]
                  exact (hp4 j hj).2 hj2
                · rw [if_neg hj2, if_neg hjp]
                  exact (hp4 j hj).1 (by omega)
            · rw [mI_wI_ne (by decide), mI_wI_row (by decide)]
              exact ht4
    · rw [if_neg (fun h => hpl (ec.mp h)), TT_some]
      have ech : chgG gt sd l 3 p thing = none := by simp [chgG, chg, hpl]
      rw [ech]
      exact ⟨hF2, rfl⟩
  | 4, _ =>
    simp only [show (nI 4 = (0 : Int32)) = False from by simp (disch := omega) [nlit, neqI], show (nI 4 = (1 : Int32)) = False from by simp (disch := omega) [nlit, neqI], show (nI 4 = (2 : Int32)) = False from by simp (disch := omega) [nlit, neqI], show (nI 4 = (3 : Int32)) = False from by simp (disch := omega) [nlit, neqI], show (nI 4 = (4 : Int32)) = True from by simp [nlit], if_false, if_true, bv, hn2]
    rw [lies_bind]
    have ec : (0 ≤ nI p ∧ nI p ≤ nI l.length - 1) ↔ p < l.length := by
      rw [nlit, nlit, nI_ii p, nI_ii l.length, nI_ii 0, nI_ii 1, ii_sub, ii_le ⟨by omega, by omega⟩ ⟨by omega, by omega⟩, ii_le ⟨by omega, by omega⟩ ⟨by omega, by omega⟩]
      omega
    by_cases hpl : p < l.length
    · rw [if_pos (ec.mpr hpl)]
      simp only [hLL2, Option.bind_some, grd_T]
      rw [nclampI (by omega), hp2 p (by omega), TT_grd]
      refine ⟨lt7 (by omega), ?_⟩
      have hth := getD_lt hl (k := p)
      have hF18 : Fr Smk M (wI M2 47 8 (nI (l.getD p 0))) := hF2.wI (Or.inr ⟨rfl, Or.inr rfl⟩)
      have hn18 : mI (wI M2 47 8 (nI (l.getD p 0))) 47 7 = nI l.length := by rw [mI_wI_ne (by decide)]; exact hn2
      have ht18 : mI (wI M2 47 8 (nI (l.getD p 0))) 47 8 = nI (l.getD p 0) := mI_wIs
      have hp18 : ∀ k, k < l.length → mI (wI M2 47 8 (nI (l.getD p 0))) 52 k = nI (l.getD k 0) := fun k hk => by rw [mI_wI_row (by decide)]; exact hp2 k hk
      generalize wI M2 47 8 (nI (l.getD p 0)) = M18 at hF18 hn18 ht18 hp18 ⊢
      have hLL18 := hL.fr hF18
      unfold LayM at hLL18
      have hK18 : KGS M18 gt sd := hK.fr hF18 (fun k => by unfold Smk; omega)
      rw [ht18]
      simp only [hLL18, Option.bind_some, grd_T]
      rw [show (12 : Int32) + nI (l.getD p 0) = nI (12 + l.getD p 0) from nadd 12 _, nclampI (by omega), TT_grd]
      refine ⟨(nvp (by omega)).mpr (by omega), ?_⟩
      obtain ⟨-, hk2, hk3⟩ := hK18 (l.getD p 0) hth
      rw [hk2]
      cases hsd : sd (l.getD p 0) with
      | none =>
        rw [if_pos (by rfl), TT_some]
        have ech : chgG gt sd l 4 p thing = none := by simp only [chgG, chg]; rw [if_pos hpl, hsd]; rfl
        rw [ech]
        exact ⟨hF18, rfl⟩
      | some u =>
        have hu := hk3 u hsd
        have ech : chgG gt sd l 4 p thing = some (l.set p u, l.getD p 0) := by simp only [chgG, chg]; rw [if_pos hpl, hsd]; simp
        rw [ech]
        rw [show oI (some u) = nI u from rfl, if_neg (nne_m1 (by omega)), TT_grd]
        refine ⟨lt7 (by omega), ?_⟩
        refine mk_close hL (hF18.wI (Or.inl rfl)) (hl.set hu) ?_ ?_ ?_
        · rw [mI_wI_row (by decide), hn18, List.length_set]
        · intro j hj
          rw [List.length_set] at hj
          rw [setD_at hpl, mI_wI]
          by_cases hj2 : j = p
          · subst hj2
            rw [if_pos ⟨rfl, rfl⟩, if_pos rfl]
          · rw [if_neg (fun q => hj2 q.2), if_neg hj2]
            exact hp18 j hj
        · rw [mI_wI_row (by decide)]
          exact ht18
    · rw [if_neg (fun h => hpl (ec.mp h)), TT_some]
      have ech : chgG gt sd l 4 p thing = none := by simp [chgG, chg, hpl]
      rw [ech]
      exact ⟨hF2, rfl⟩
