/-! which word it is, on both sides -/
theorem cW_ok : ∀ w ∈ cW, ∀ c ∈ w, c ≠ 32 ∧ c < 256 := by decide +kernel
theorem rW_ok : ∀ w ∈ rW, ∀ c ∈ w, c ≠ 32 ∧ c < 128 := by decide +kernel
theorem getD_mem {w : List Nat} {i : Nat} (h : i < w.length) : w.getD i 0 ∈ w := by
  rw [List.getD_eq_getElem?_getD, List.getElem?_eq_getElem h]
  exact List.getElem_mem _
section
variable {M : Mem} {n : Nat} {bt : Nat → Nat}
noncomputable def wdB (M : Mem) (p1 p2 : Int32) : Int32 × Int32 × Int32 × Int32 → Option ((Int32 × Int32 × Int32 × Int32) ⊕ (Unit ⊕ Int32)) := (fun s1 => if 129 < s1.2.2.2 then (some (.inr (.inl ()))) else (bv (fun (s14 : Int32 × Int32 × Int32) => bv (s1.2.2.2 + 1 : Int32) (fun x17 => some (.inl (s14.1, s14.2.1, s14.2.2, x17)))) (fun j13 => bv (fun (s19 : Unit) => bv (fun (s23 : Unit) => bv (s1.1 + 1 : Int32) (fun x26 => j13 (x26, 0, 1))) (fun j22 => if s1.2.2.1 = 0 then (j22 ()) else (if s1.2.1 = (p2 - p1) then (some (.inr (.inr s1.1))) else (j22 ())))) (fun j18 => if 129 ≤ s1.2.2.2 then (j18 ()) else (grd (vp_in s1.2.2.2 129) (if (txC s1.2.2.2) = 32 then (j18 ()) else (bv (fun (s29 : Int32) => bv (s1.2.1 + 1 : Int32) (fun x32 => j13 (s1.1, x32, s29))) (fun j28 => bv (fun (s34 : Unit) => j28 0) (fun j33 => if s1.2.2.1 = 0 then (j33 ()) else (if (p2 - p1) ≤ s1.2.1 then (j33 ()) else (grd (okO M 7 11) (Option.bind (f_X7_byteAt M 11 (p1 + s1.2.1)) (fun q38 => if q38 = (txC s1.2.2.2) then (j28 1) else (j33 ())))))))))))))) 
def fnR (o : Option Nat) (wd : Nat) : Unit ⊕ Int32 := match o with
  | some i => .inr (nI (wd + i))
  | none => .inl ()
theorem c_words (hC : LayC M) (ht : TAPE M n bt) {a b : Nat} (hab : a ≤ b) (hbn : b ≤ n) : ∀ (L : List (List Nat)) (o wd : Nat), (∀ w ∈ L, w ∈ cW) → o + (joinW L).length = 130 → wd + L.length ≤ 284 → (∀ i, o + i < 129 → txC (nI (o + i)) = nI ((joinW L).getD i 0)) → TT (loopO (wdB M (nI a) (nI b)) (nI wd, 0, 1, nI o)) (fun r => r = fnR (fndW L (slB bt a b)) wd)
  | [], o, wd, _, ho, _, _ => by
    have e : wdB M (nI a) (nI b) (nI wd, 0, 1, nI o) = some (.inr (.inl ())) := by
      unfold wdB
      simp only
      rw [if_pos (show (129 : Int32) < nI o by rw [show o = 130 by simpa [joinW] using ho]; decide)]
    rw [loopO_eq, e]
    exact ⟨_, rfl, rfl⟩
  | w :: r, o, wd, hL, ho, hwd, htx => by
    have hj : (joinW (w :: r)).length = w.length + 1 + (joinW r).length := by
      rw [joinW, List.length_append, List.length_cons]
      omega
    rw [hj] at ho
    have hok := cW_ok w (hL w List.mem_cons_self)
    have gw : ∀ i, i < w.length → (joinW (w :: r)).getD i 0 = w.getD i 0 := by
      intro i hi
      rw [joinW, List.getD_eq_getElem?_getD, List.getElem?_append_left hi, List.getD_eq_getElem?_getD]
    have gs : (joinW (w :: r)).getD w.length 0 = 32 := by
      rw [joinW, List.getD_eq_getElem?_getD, List.getElem?_append_right (Nat.le_refl _), Nat.sub_self]
      rfl
    have gr : ∀ i, (joinW (w :: r)).getD (w.length + 1 + i) 0 = (joinW r).getD i 0 := by
      intro i
      rw [joinW, List.getD_eq_getElem?_getD, List.getElem?_append_right (by omega), show w.length + 1 + i - w.length = i + 1 by omega, List.getElem?_cons_succ, List.getD_eq_getElem?_getD]
    have key := c_word1 hC ht hab hbn w o wd (fun i hi => ⟨by rw [htx i (by omega), gw i hi], (hok _ (getD_mem hi)).1, (hok _ (getD_mem hi)).2⟩) (by omega) (fun q => by rw [htx w.length q, gs]) (by simp only [List.length_cons] at hwd; omega) (Q := fun x => x = fnR (fndW (w :: r) (slB bt a b)) wd) (fun e => by rw [fndW, if_pos e]; rfl) (wdB M (nI a) (nI b)) rfl (fun hne => ?_) w.length 0 (by omega)
    · exact key
    · have h2 := c_words hC ht hab hbn r (o + w.length + 1) (wd + 1) (fun x hx => hL x (List.mem_cons_of_mem _ hx)) (by omega) (by simp only [List.length_cons] at hwd; omega) (fun i hi => by rw [show o + w.length + 1 + i = o + (w.length + 1 + i) by omega, htx _ (by omega), gr])
      refine h2.mono ?_
      rintro x rfl
      rw [fndW, if_neg hne]
      cases fndW r (slB bt a b) with
      | none => rfl
      | some i =>
        show Sum.inr (nI (wd + 1 + i)) = Sum.inr (nI (wd + (i + 1)))
        rw [show wd + 1 + i = wd + (i + 1) by omega]
theorem c_wordOf (hC : LayC M) (ht : TAPE M n bt) {a b : Nat} (hab : a ≤ b) (hbn : b ≤ n) : f_X7_wordOf M 11 (nI a) (nI b) = some (nI (wTok (slB bt a b))) := by
  apply TT.is
  show TT (Option.bind (loopO (wdB M (nI a) (nI b)) (nI 258, 0, 1, nI 0)) (Sum.elim (fun (x9 : Unit) => some 257) (fun (x11 : Int32) => some x11))) _
  rw [TT_bind]
  refine (c_words hC ht hab hbn cW 0 258 (fun w hw => hw) (by rw [cW_len]) (by decide) (fun i hi => by rw [Nat.zero_add] at hi ⊢; exact cW_txt i hi)).mono ?_
  rintro x rfl
  unfold wTok
  cases fndW cW (slB bt a b) with
  | none =>
    show TT (some _) _
    rw [TT_some]
    rfl
  | some i =>
    show TT (some _) _
    rw [TT_some]
end
