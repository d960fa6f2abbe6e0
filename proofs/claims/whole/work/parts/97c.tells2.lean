/-! all CLAUSES tell -/
section
variable {T : Nat → Nat} {len : Nat}
theorem tl_S (hT : ∀ j, len ≤ j → T j = 256) {M : Mem} {B k k2 hd : Nat} {W : Nat → Int32} {told : Int} {s : SM} (hE : RE M T len false B W) (hk : k < len) (hgo : mI M 47 26 = nI (B + k)) (hhd : hd = 1 ∨ hd = 2) (hs : RCL T len k k2 s) : TT (tlB (nI hd) (M, jj told)) (fun r => ∃ M2, r = .inl (M2, jj (tstp hd W told s)) ∧ Fr Sgo M M2 ∧ mI M2 47 26 = nI (B + k2 + 1)) := by
  have hB := hE.2.1
  have h27 := hE.2.2.1
  have hc := r_codeAt hT hE (k := k) (by omega)
  rw [tlB_eq]
  simp only
  rw [if_neg (by rw [h27, hgo, nleI (by omega) (by omega)]; omega), hgo, hc, Option.bind_some]
  simp only [bv]
  have hF1 : Fr Sgo M (wI (wI M 47 28 0) 47 26 (mI (wI M 47 28 0) 47 26 + 1)) := (Fr.rf.wI Sgo28).wI Sgo26
  have g26 : mI (wI (wI M 47 28 0) 47 26 (mI (wI M 47 28 0) 47 26 + 1)) 47 26 = nI (B + (k + 1)) := by
    rw [mI_wIs, mI_wI_ne (by decide), hgo, nsucc]
    rfl
  have g28 : mI (wI (wI M 47 28 0) 47 26 (mI (wI M 47 28 0) 47 26 + 1)) 47 28 = 0 := by rw [mI_wI_ne (by decide), mI_wIs]
  generalize wI (wI M 47 28 0) 47 26 (mI (wI M 47 28 0) 47 26 + 1) = M1 at hF1 g26 g28 ⊢
  have hE1 := hE.fr hF1
  obtain ⟨r1, r2, r3⟩ := hs
  rcases r3 with ⟨e1, e2, e3, k1, e4, e5, e6⟩ | ⟨e1, e2, e3⟩
  · have hrc : rc (T k) = 1 := by rw [e2]; decide
    rw [hrc, if_neg (show ¬ nI 1 = 2 by decide), TT_bind]
    refine (show TT (f_X12_sumOf 100 M1 47 1) _ from e5 M1 B W hE1 g26 (Or.inl g28) true).mono ?_
    rintro ⟨M2, v⟩ ⟨a1, a2, a3⟩
    simp only at a1 a2 ⊢
    unfold RQ at a3
    rw [if_pos ⟨rfl, g28⟩] at a3
    refine (tl_J hT (hE1.fr a1) e4 r2 a2 (sv := s.2.2 W) ?_ e6 (Or.inl rfl) hhd (Or.inl ⟨e1, rfl, rfl⟩)).mono ?_
    · cases hv : s.2.2 W with
      | none => rw [hv] at a3; exact a3.2
      | some x => rw [hv] at a3; exact ⟨a3.1, a3.2, e3 W x hv⟩
    · rintro r ⟨M3, b1, b2, b3⟩
      exact ⟨M3, b1, (hF1.tr a1).tr b2, b3⟩
  · have hrc : rc (T k) = 2 := by rw [e2]; decide
    rw [hrc, if_pos (show nI 2 = 2 by decide)]
    refine (tl_J hT hE1 (k1 := k + 1) (by omega) r2 g26 (sv := some 1) (v := 1) ⟨rfl, g28, by decide, by decide⟩ e3 (Or.inr rfl) hhd (Or.inr ⟨e1, rfl, rfl⟩)).mono ?_
    rintro r ⟨M3, b1, b2, b3⟩
    exact ⟨M3, b1, hF1.tr b2, b3⟩
theorem tl_L (hT : ∀ j, len ≤ j → T j = 256) (hT2 : ∀ j, j < len → T j ≠ 256) {hd : Nat} (hhd : hd = 1 ∨ hd = 2) {B : Nat} {W : Nat → Int32} : ∀ (sms : List SM) (k : Nat) (M : Mem) (told : Int), RTX T len k sms → RE M T len false B W → mI M 47 26 = nI (B + k) → TT (loopO (tlB (nI hd)) (M, jj told)) (fun r => r.2 = jj (sms.foldl (tstp hd W) told) ∧ Fr Sgo M r.1) := by
  intro sms
  induction sms with
  | nil => intro k M told h; cases h
  | cons s r ih =>
    intro k M told h hE hgo
    obtain ⟨k2, hs, hr⟩ := h
    have hk : k < len := by
      have := hs.1
      have := hs.2.1
      omega
    have hB := hE.2.1
    obtain ⟨_, hstep, M2, rfl, a1, a2⟩ := tl_S (told := told) hT hE hk hgo hhd hs
    rw [loopO_eq, hstep]
    simp only
    have hE2 := hE.fr a1
    rcases hr with ⟨h1, rfl⟩ | ⟨h1, h2⟩
    · have hk2 : k2 = len := by
        have := hs.2.1
        by_cases w : k2 < len
        · exact absurd h1 (hT2 k2 w)
        · omega
      rw [loopO_eq, tlB_eq]
      simp only
      rw [if_pos (by rw [hE2.2.2.1, a2, nleI (by omega) (by omega)]; omega)]
      exact ⟨_, rfl, rfl, a1⟩
    · refine (ih (k2 + 1) M2 _ h2 hE2 a2).mono ?_
      rintro ⟨M3, v⟩ ⟨b1, b2⟩
      exact ⟨b1, a1.tr b2⟩
/-- a bar is told -/
theorem tl_bar {W : Nat → Int32} : ∀ (sms : List SM) (a : Int), a = 0 ∨ a = 1 → sms.foldl (tstp 2 W) a = if a = 1 ∨ barS sms W = true then 1 else 0
  | [], a, h => by
    rcases h with rfl | rfl <;> rfl
  | s :: r, a, h => by
    have e : tstp 2 W a s = if a = 1 ∨ (s.1 && (s.2.1 W == some true)) = true then 1 else 0 := by
      unfold tstp
      by_cases w : s.2.1 W = some true
      · rw [if_pos w]
        cases hs : s.1 with
        | true => simp [w]
        | false =>
          simp
          rcases h with rfl | rfl <;> decide
      · rw [if_neg w]
        have : (s.2.1 W == some true) = false := by simp [w]
        rw [this, Bool.and_false]
        rcases h with rfl | rfl <;> decide
    rw [List.foldl_cons, e, tl_bar r _ (by split <;> simp)]
    unfold barS
    rw [List.any_cons]
    cases (s.1 && (s.2.1 W == some true)) <;> rcases h with rfl | rfl <;> simp <;> rfl
theorem tl_wei {W : Nat → Int32} : ∀ (sms : List SM) (a : Nat), sms.foldl (tstp 1 W) (a : Int) = ((sms.foldl (weiS W) a : Nat) : Int)
  | [], _ => rfl
  | s :: r, a => by
    have e : tstp 1 W (a : Int) s = ((weiS W a s : Nat) : Int) := by
      unfold tstp weiS
      by_cases w : s.2.1 W = some true
      · cases hs : s.1 with
        | true => simp [w]
        | false =>
          simp only [w]
          cases s.2.2 W <;> rfl
      · rw [if_neg w, if_neg (fun q => w q.2)]
    rw [List.foldl_cons, List.foldl_cons, e, tl_wei r _]
end
