/-! the reference's list of all changes -/
def wv (p3 : Int32) (w : Nat) : Int32 := if p3 = 0 then 0 else nI w
def LSTS (p3 : Int32) (M : Mem) (L : List (List Nat × Nat)) : Prop := mI M 47 11 = nI L.length ∧ ∀ k c, L[k]? = some c → mI M 53 k = nI (num c.1) ∧ mI M 54 k = wv p3 c.2
def Sls (a k : Nat) : Prop := Sch a k ∨ (a = 47 ∧ k = 11) ∨ a = 53 ∨ a = 54
theorem Sls_iff (a k : Nat) : Sls a k ↔ (a = 52 ∨ (a = 47 ∧ (k = 7 ∨ k = 8 ∨ k = 11 ∨ (26 ≤ k ∧ k ≤ 29))) ∨ a = 61 ∨ a = 53 ∨ a = 54) := by
  unfold Sls Sch Smk Sas Stl
  omega
theorem LSTS.fr {p3 : Int32} {M M1 : Mem} {S : Nat → Nat → Prop} {L : List (List Nat × Nat)} (h : LSTS p3 M L) (hF : Fr S M M1) (hs : ∀ a k, S a k → a ≠ 53 ∧ a ≠ 54 ∧ ¬ (a = 47 ∧ k = 11)) : LSTS p3 M1 L := by
  refine ⟨?_, fun k c hk => ?_⟩
  · rw [hF.i (fun q => (hs _ _ q).2.2 ⟨rfl, rfl⟩)]; exact h.1
  · rw [hF.i (fun q => (hs _ _ q).1 rfl), hF.i (fun q => (hs _ _ q).2.1 rfl)]; exact h.2 k c hk
/-- a change more -/
theorem LSTS.more {p3 : Int32} {M M1 : Mem} {L : List (List Nat × Nat)} {c : List Nat × Nat} {n : Nat} (h : LSTS p3 M L) (hn : L.length = n) (h11 : mI M1 47 11 = nI (n + 1)) (h53 : ∀ k, mI M1 53 k = if k = n then nI (num c.1) else mI M 53 k) (h54 : ∀ k, mI M1 54 k = if k = n then wv p3 c.2 else mI M 54 k) : LSTS p3 M1 (L ++ [c]) := by
  refine ⟨by rw [h11, List.length_append, hn]; rfl, fun k d hk => ?_⟩
  rw [h53, h54]
  by_cases hkn : k = n
  · subst hkn
    rw [← hn, List.getElem?_append_right (Nat.le_refl _), Nat.sub_self] at hk
    simp only [List.getElem?_cons_zero, Option.some.injEq] at hk
    subst hk
    rw [if_pos rfl, if_pos rfl]
    exact ⟨rfl, rfl⟩
  · have hlt : k < n := by
      have := (List.getElem?_eq_some_iff.mp hk).1
      rw [List.length_append, hn, List.length_singleton] at this
      omega
    rw [List.getElem?_append_left (by omega)] at hk
    rw [if_neg hkn, if_neg hkn]
    exact h.2 k d hk
set_option maxHeartbeats 4000000 in
theorem p_lists {K : Nat → Int32} {lw : Nat → Nat → Nat → Nat → Nat → Nat → Option Nat} (hT : TSp K lw) {M : Mem} (hL : LayM M) (hK : ∀ k, mI M 49 k = K k) {l : List Nat} (hl : DL l) {gt : Nat → Bool} {sd : Nat → Option Nat} (hG : KGS M gt sd) {y : Nat} {p3 : Int32} (hy : y ≤ 999) : TT (f_X12_lists M 47 (nI (num l)) (nI y) p3) (fun M' => Fr Sls M M' ∧ LSTS p3 M' (chs gt sd (lw y) l)) := by
  have h5 := hl.1
  have hLL := hL
  unfold LayM at hLL
  unfold f_X12_lists
  rw [p_longOf' hl]
  simp only [hLL, grd_T, Option.bind_some]
  rw [TT_bv, TT_bind]
  have hF2 : Fr Sls M (wI M 47 11 0) := Fr.rf.wI (Or.inr (Or.inl ⟨rfl, rfl⟩))
  have hM2 : LSTS p3 (wI M 47 11 0) [] := ⟨by rw [mI_wIs]; rfl, fun k c h => by simp at h⟩
  generalize wI M 47 11 0 = M2 at hF2 hM2 ⊢
  refine TT.mono (Q := fun M' => Fr Sls M M' ∧ LSTS p3 M' (chs gt sd (lw y) l)) ?_ (fun M' h => TT_some.mpr h)
  refine TT_loop (fun q => ∃ s : Nat, s ≤ 5 ∧ q.2 = nI s ∧ Fr Sls M q.1 ∧ LSTS p3 q.1 (if s = 5 then chs gt sd (lw y) l else chp gt sd (lw y) l s 0)) (fun q => 5 - q.2.toNatClampNeg) ?_ _ ⟨0, by omega, rfl, hF2, hM2⟩
  rintro ⟨M3, x⟩ ⟨s, hs, hx, hF3, hM3⟩
  simp only at hx hF3 hM3 ⊢
  subst hx
  rw [TT_if]
  refine ⟨fun h => ?_, fun h => ?_⟩
  · simp (disch := omega) only [nlit, nleI] at h
    have : s = 5 := by omega
    subst this
    rw [TT_some]
    exact ⟨hF3, hM3⟩
  · simp (disch := omega) only [nlit, nleI] at h
    have hs4 : s ≤ 4 := by omega
    rw [if_neg (by omega)] at hM3
    have eth : (if nI s = 1 then (6 : Int32) else 1) = nI (thn s) := by
      rcases thn_or s with ⟨h1, h2⟩ | ⟨h1, h2⟩
      · rw [h2, if_pos (by rw [h1]; rfl)]; rfl
      · rw [h2, if_neg (by simp (disch := omega) only [nlit, neqI]; exact h1)]; rfl
    have htn : 0 < thn s ∧ thn s ≤ 6 := by rcases thn_or s with ⟨h1, h2⟩ | ⟨h1, h2⟩ <;> omega
    rw [TT_bind]
    refine TT.mono (Q := fun M' => Fr Sls M M' ∧ LSTS p3 M' (chp gt sd (lw y) l s ((l.length + 1) * thn s))) ?_ ?_
    · refine TT_loop (fun q => ∃ p : Nat, p ≤ l.length + 1 ∧ q.2 = nI p ∧ Fr Sls M q.1 ∧ LSTS p3 q.1 (chp gt sd (lw y) l s (p * thn s))) (fun q => 10 - q.2.toNatClampNeg) ?_ _ ⟨0, by omega, rfl, hF3, by rw [Nat.zero_mul]; exact hM3⟩
      rintro ⟨M4, z⟩ ⟨p, hp, hz, hF4, hM4⟩
      simp only at hz hF4 hM4 ⊢
      subst hz
      rw [TT_if]
      refine ⟨fun h => ?_, fun h => ?_⟩
      · rw [nltI (by omega) (by omega)] at h
        have : p = l.length + 1 := by omega
        subst this
        rw [TT_some]
        exact ⟨hF4, hM4⟩
      · rw [nltI (by omega) (by omega)] at h
        rw [TT_bind]
        refine TT.mono (Q := fun M' => Fr Sls M M' ∧ LSTS p3 M' (chp gt sd (lw y) l s ((p + 1) * thn s))) ?_ ?_
        · refine TT_loop (fun q => ∃ t : Nat, t ≤ thn s ∧ q.2 = nI t ∧ Fr Sls M q.1 ∧ LSTS p3 q.1 (chp gt sd (lw y) l s (p * thn s + t))) (fun q => 10 - q.2.toNatClampNeg) ?_ _ ⟨0, by omega, rfl, hF4, by rw [Nat.add_zero]; exact hM4⟩
          rintro ⟨M5, w⟩ ⟨t, ht, hw, hF5, hM5⟩
          simp only at hw hF5 hM5 ⊢
          subst hw
          rw [TT_bvif, eth, TT_if]
          refine ⟨fun h => ?_, fun h => ?_⟩
          · rw [nleI (by omega) (by omega)] at h
            have : t = thn s := by omega
            subst this
            rw [TT_some]
            refine ⟨hF5, ?_⟩
            rw [Nat.add_mul, Nat.one_mul]
            exact hM5
          · rw [nleI (by omega) (by omega)] at h
            have htt : t < thn s := by omega
            have edv : (p * thn s + t) / thn s = p := by
              rw [Nat.mul_comm, Nat.mul_add_div htn.1, Nat.div_eq_of_lt htt, Nat.add_zero]
            have emd : (p * thn s + t) % thn s = t := by
              rw [Nat.mul_comm, Nat.mul_add_mod, Nat.mod_eq_of_lt htt]
            have hL5 := hL.fr (S := Sls) hF5
            have hK5 : ∀ k, mI M5 49 k = K k := fun k => by rw [hF5.i (by rw [Sls_iff]; omega)]; exact hK k
            have hG5 : KGS M5 gt sd := hG.fr hF5 (fun k => by rw [Sls_iff]; omega)
            rw [TT_bind]
            refine (p_changed hT hL5 hK5 hl hG5 (s := s) (p := p) (t := t) (y := y) (by omega) (by omega) (fun h1 => ⟨rfl, by omega⟩) (by omega) hy).mono ?_
            rintro ⟨M6, v⟩ ⟨hF6, hres⟩
            simp only at hF6 hres ⊢
            have hF6' : Fr Sls M M6 := hF5.tr (hF6.up (fun a k h => Or.inl h))
            have hM6 : LSTS p3 M6 (chp gt sd (lw y) l s (p * thn s + t)) := hM5.fr hF6 (fun a k h => by unfold Sch Smk Sas Stl at h; omega)
            have hmeas : 10 - (nI t + 1).toNatClampNeg < 10 - (nI t).toNatClampNeg := by
              rw [show nI t + 1 = nI (t + 1) from nadd t 1, nclampI (by omega), nclampI (by omega)]
              omega
            have hcs := chp_succ (gt := gt) (sd := sd) (lw := lw y) (l := l) s (p * thn s + t)
            rw [edv, emd] at hcs
            cases hc : cmk gt sd (lw y) l s p t with
            | none =>
              rw [hc] at hres hcs
              simp only at hres
              subst hres
              simp only [bv]
              rw [if_pos trivial, TT_some]
              refine ⟨⟨t + 1, by omega, nadd t 1, hF6', ?_⟩, hmeas⟩
              rw [← Nat.add_assoc, hcs]
              simpa using hM6
            | some c =>
              rw [hc] at hres hcs
              obtain ⟨hz, th, hth, h8, hlw⟩ := hres
              subst hz
              have hroom := chp_room (gt := gt) (sd := sd) (lw := lw y) hl (s := s) (i := p * thn s + t) hs4 (by rw [edv, emd]; exact hc)
              have hL6 := hL.fr hF6'
              have hLL6 := hL6
              unfold LayM at hLL6
              obtain ⟨hcD, hc99⟩ := cmk_DL hl (hT.2 y) (fun t ht => (hG t ht).2.2) (by omega) hc
              have hnum : num c.1 ≤ 66666 := hcD.rev.nr
              rw [TT_bv, if_neg (nne_m1 (by omega))]
              simp only [hLL6, grd_T, Option.bind_some, hM6.1]
              rw [TT_grd, TT_bv, nclampI (by omega)]
              refine ⟨(nvp (by omega)).mpr (by omega), ?_⟩
              generalize hn : (chp gt sd (lw y) l s (p * thn s + t)).length = n at *
              have hF7 : Fr (fun a _ => a = 53) M6 (wI M6 53 n (nI (num c.1))) := Fr.rf.wI rfl
              have e53 : ∀ k, mI (wI M6 53 n (nI (num c.1))) 53 k = if k = n then nI (num c.1) else mI M6 53 k := fun k => by
                by_cases hk : k = n
                · subst hk; rw [mI_wIs, if_pos rfl]
                · rw [mI_wI_ne hk, if_neg hk]
              generalize wI M6 53 n (nI (num c.1)) = M7 at hF7 e53 ⊢
              have hF7' : Fr Sls M M7 := hF6'.tr (hF7.up (fun a k h => Or.inr (Or.inr (Or.inl h))))
              have hL7 := hL.fr hF7'
              have hLL7 := hL7
              unfold LayM at hLL7
              have e11 : mI M7 47 11 = nI n := by rw [hF7.i (by omega), hM6.1]; rw [hn]
              have fin : ∀ M8 : Mem, Fr Sch M7 M8 → TT (bv (fun (s60 : Mem × Int32) => grd (okO s60.1 14 54) (grd (vp_in (mI M7 47 11) (mL s60.1 54)) (bv (wI s60.1 54 (mI M7 47 11).toNatClampNeg s60.2) (fun M66 => bv (wI M66 47 11 ((mI M66 47 11) + 1)) (fun M70 => bv (nI t + 1 : Int32) (fun x50 => some (Sum.inl (β := Mem) (M70, x50)))))))) (fun j59 => j59 (M8, wv p3 c.2))) (fun r => Sum.elim (fun s' => (∃ t, t ≤ thn s ∧ s'.2 = nI t ∧ Fr Sls M s'.1 ∧ LSTS p3 s'.1 (chp gt sd (lw y) l s (p * thn s + t))) ∧ 10 - s'.2.toNatClampNeg < 10 - (nI t).toNatClampNeg) (fun M' => Fr Sls M M' ∧ LSTS p3 M' (chp gt sd (lw y) l s ((p + 1) * thn s))) r) := by
                intro M8 hF8
                have hF8' : Fr Sls M M8 := hF7'.tr (hF8.up (fun a k h => Or.inl h))
                have hL8 := hL.fr hF8'
                have hLL8 := hL8
                unfold LayM at hLL8
                have e11' : mI M8 47 11 = nI n := by rw [hF8.i (by unfold Sch Smk Sas Stl; omega)]; exact e11
                have e53' : ∀ k, mI M8 53 k = if k = n then nI (num c.1) else mI M6 53 k := fun k => by rw [hF8.i (by unfold Sch Smk Sas Stl; omega)]; exact e53 k
                have e54' : ∀ k, mI M8 54 k = mI M6 54 k := fun k => by rw [hF8.i (by unfold Sch Smk Sas Stl; omega), hF7.i (by omega)]
                rw [TT_bv]
                simp only [hLL8, grd_T, e11]
                rw [TT_grd, TT_bv, TT_bv, TT_bv, TT_some, nclampI (a := n) (by omega)]
                refine ⟨(nvp (by omega)).mpr (by omega), ?_⟩
                rw [mI_wI_row (by decide), e11', show nI n + 1 = nI (n + 1) from nadd n 1]
                refine ⟨⟨t + 1, by omega, nadd t 1, (hF8'.wI (Or.inr (Or.inr (Or.inr rfl)))).wI (Or.inr (Or.inl ⟨rfl, rfl⟩)), ?_⟩, hmeas⟩
                rw [← Nat.add_assoc, hcs]
                refine hM6.more hn (mI_wIs) (fun k => ?_) (fun k => ?_)
                · rw [mI_wI_row (by decide), mI_wI_row (by decide)]; exact e53' k
                · rw [mI_wI_row (by decide)]
                  by_cases hk : k = n
                  · subst hk; rw [mI_wIs, if_pos rfl]
                  · rw [mI_wI_ne hk, if_neg hk]; exact e54' k
              simp only [hLL7, Option.bind_some]
              by_cases h3 : p3 = 0
              · have := fin M7 Fr.rf
                rw [TT_bv] at this ⊢
                rw [if_pos h3]
                unfold wv at this
                rw [if_pos h3] at this
                exact this
              · rw [TT_bv, if_neg h3, TT_bind]
                have hK7 : ∀ k, mI M7 49 k = K k := fun k => by rw [hF7'.i (by rw [Sls_iff]; omega)]; exact hK k
                have h5p : p < 6 := by omega
                refine (p_weighs hT hL7 hK7 hl (s := s) (p := p) (y := y) (th := th) (w := c.2) (by omega) h5p hy hth (by rw [hF7.i (by omega)]; exact h8) hlw).mono ?_
                rintro ⟨M8, v⟩ ⟨hF8, hv⟩
                simp only at hF8 hv ⊢
                subst hv
                have := fin M8 hF8
                rw [TT_bv] at this
                unfold wv at this
                rw [if_neg h3] at this
                exact this
        · rintro M5 ⟨hF5, hM5⟩
          rw [TT_bv, TT_some]
          refine ⟨⟨p + 1, by omega, nadd p 1, hF5, hM5⟩, ?_⟩
          simp only
          rw [show nI p + 1 = nI (p + 1) from nadd p 1, nclampI (by omega), nclampI (by omega)]
          omega
    · rintro M4 ⟨hF4, hM4⟩
      rw [TT_bv, TT_some]
      refine ⟨⟨s + 1, by omega, nadd s 1, hF4, ?_⟩, ?_⟩
      · by_cases h4 : s = 4
        · subst h4
          rw [if_pos rfl]
          exact hM4
        · rw [if_neg (by omega), chp_next]
          exact hM4
      · simp only
        rw [show nI s + 1 = nI (s + 1) from nadd s 1, nclampI (by omega), nclampI (by omega)]
        omega
