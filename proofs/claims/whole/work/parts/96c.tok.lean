/-! TOKENS of a tape, on both sides -/
def kdB (b : Nat) : Nat := if 97 ≤ b ∧ b ≤ 122 then 0 else if 48 ≤ b ∧ b ≤ 57 then 1 else 2
def cW : List (List Nat) := [[119, 101, 105, 103, 104, 115], [98, 97, 114, 115], [98, 111, 114, 110], [116, 105, 109, 101, 115], [105, 102], [111, 114], [97, 110, 100], [110, 111, 116], [97, 116], [111, 117, 116], [105, 110], [115, 119, 97, 112], [100, 111, 117, 98, 108, 101], [115, 116, 97, 110, 100], [115, 111, 114, 116], [116, 104, 105, 110, 103], [112, 108, 97, 99, 101], [108, 111, 110, 103], [104, 97, 115], [115, 119, 101, 101, 116], [121, 101, 97, 114], [109, 111, 111, 100], [121, 101, 97, 114, 115], [104, 111, 117, 115, 101, 115], [100, 111, 110, 101], [108, 97, 115, 116]]
def rW : List (List Nat) := [[119, 101, 105, 103, 104, 115], [98, 97, 114, 115], [105, 102], [111, 114], [97, 110, 100], [110, 111, 116], [115, 111, 114, 116], [116, 104, 105, 110, 103], [112, 108, 97, 99, 101], [108, 111, 110, 103], [104, 97, 115], [115, 119, 101, 101, 116], [121, 101, 97, 114], [109, 111, 111, 100], [121, 101, 97, 114, 115], [104, 111, 117, 115, 101, 115], [100, 111, 110, 101], [108, 97, 115, 116], [98, 111, 114, 110], [111, 117, 116], [115, 119, 97, 112], [100, 111, 117, 98, 108, 101], [115, 116, 97, 110, 100], [105, 110], [97, 116], [116, 105, 109, 101, 115]]
def joinW : List (List Nat) → List Nat
  | [] => []
  | w :: r => w ++ 32 :: joinW r
/-- which of the words it is -/
def fndW : List (List Nat) → List Nat → Option Nat
  | [], _ => none
  | w :: r, s => if s = w then some 0 else (fndW r s).map (fun i => i + 1)
def wTok (s : List Nat) : Nat := match fndW cW s with
  | some i => 258 + i
  | none => 257
def wRef (s : List Nat) : Nat := match fndW rW s with
  | some i => 1 + i
  | none => 0
theorem fnd_none {s : List Nat} : ∀ L : List (List Nat), s ∉ L → fndW L s = none
  | [], _ => rfl
  | w :: r, h => by
    rw [fndW, if_neg (fun e => h (by rw [e]; exact List.mem_cons_self)), fnd_none r (fun e => h (List.mem_cons_of_mem _ e))]
    rfl
theorem cr_tab : ∀ w ∈ cW, rc (wTok w) = wRef w := by decide +kernel
theorem rW_cW : ∀ w ∈ rW, w ∈ cW := by decide +kernel
theorem wTok_rc (s : List Nat) : rc (wTok s) = wRef s := by
  by_cases h : s ∈ cW
  · exact cr_tab s h
  · have e1 : fndW cW s = none := fnd_none cW h
    have e2 : fndW rW s = none := fnd_none rW (fun w => h (rW_cW s w))
    unfold wTok wRef
    rw [e1, e2]
    rfl
theorem fnd_lt : ∀ (L : List (List Nat)) {s : List Nat} {i : Nat}, fndW L s = some i → i < L.length
  | [], _, _, h => by cases h
  | w :: r, s, i, h => by
    rw [fndW] at h
    split at h
    · cases h
      simp
    · obtain ⟨j, hj, rfl⟩ := Option.map_eq_some_iff.mp h
      have := fnd_lt r hj
      simp only [List.length_cons]
      omega
theorem wTok_lt (s : List Nat) : 257 ≤ wTok s ∧ wTok s < 284 := by
  unfold wTok
  cases h : fndW cW s with
  | none => exact ⟨by decide, by decide⟩
  | some i =>
    have := fnd_lt cW h
    have e : cW.length = 26 := by decide
    exact ⟨by show 257 ≤ 258 + i; omega, by show 258 + i < 284; omega⟩
theorem cW_txt : ∀ i, i < 129 → txC (nI i) = nI ((joinW cW).getD i 0) := by decide +kernel
theorem cW_len : (joinW cW).length = 130 := by decide +kernel
theorem rW_len : (joinW rW).length = 130 := by decide +kernel
/-- the tape's bytes on both sides -/
def sgB (b : Nat) : Int32 := if b < 128 then nI b else ii ((b : Int) - 256)
def TAPE (M : Mem) (n : Nat) (bt : Nat → Nat) : Prop := n ≤ 400 ∧ mI M 11 4 = nI n ∧ mI M 47 17 = nI n ∧ ∀ i, i < n → bt i < 256 ∧ mI M 12 i = nI (bt i) ∧ mI M 56 i = sgB (bt i)
/-- the reference's tape alone (the class has read its own already) -/
def TAPR (M : Mem) (n : Nat) (bt : Nat → Nat) : Prop := n ≤ 400 ∧ True ∧ mI M 47 17 = nI n ∧ ∀ i, i < n → bt i < 256 ∧ mI M 12 i = nI (bt i) ∧ mI M 56 i = sgB (bt i)
theorem TAPE.r {M : Mem} {n : Nat} {bt : Nat → Nat} (h : TAPE M n bt) : TAPR M n bt := ⟨h.1, trivial, h.2.2⟩
section
variable {M : Mem} {n : Nat} {bt : Nat → Nat}
theorem c_byteAt (hC : LayC M) (ht : TAPE M n bt) {i : Nat} (hi : i < n) : f_X7_byteAt M 11 (nI i) = some (nI (bt i)) := by
  obtain ⟨h1, h2, h3, h4⟩ := ht
  unfold f_X7_byteAt
  unfold LayC at hC
  simp only [hC, grd_T, Option.bind_some, h2]
  rw [if_neg (show ¬ nI i < 0 from fun w => by have := (nltI (b := 0) (by omega) (by decide)).mp w; omega), if_neg (show ¬ nI n ≤ nI i from fun w => by have := (nleI (by omega) (by omega)).mp w; omega), if_neg (show ¬ (400 : Int32) ≤ nI i from fun w => by have := (nleI (a := 400) (by decide) (by omega)).mp w; omega), grd_y ((nvp (by omega)).mpr (by omega)), nclampI (by omega), (h4 i hi).2.1]
theorem c_kindAt (hC : LayC M) (ht : TAPE M n bt) {i : Nat} (hi : i < n) : f_X7_kindAt M 11 (nI i) = some (nI (kdB (bt i))) := by
  have hb := (ht.2.2.2 i hi).1
  unfold f_X7_kindAt
  rw [c_byteAt hC ht hi]
  unfold LayC at hC
  simp only [hC, grd_T, Option.bind_some, bv]
  unfold kdB
  by_cases q1 : bt i < 97
  · rw [if_pos (show nI (bt i) < 97 from (lL (by omega) 97 (by decide)).mpr q1), if_neg (show ¬ (97 ≤ bt i ∧ bt i ≤ 122) by omega)]
    by_cases q2 : bt i < 48
    · rw [if_pos (show nI (bt i) < 48 from (lL (by omega) 48 (by decide)).mpr q2), if_neg (show ¬ (48 ≤ bt i ∧ bt i ≤ 57) by omega)]
      rfl
    · rw [if_neg (show ¬ nI (bt i) < 48 from fun w => q2 ((lL (by omega) 48 (by decide)).mp w))]
      by_cases q3 : 57 < bt i
      · rw [if_pos (show (57 : Int32) < nI (bt i) from (gL (by omega) 57 (by decide)).mpr q3), if_neg (show ¬ (48 ≤ bt i ∧ bt i ≤ 57) by omega)]
        rfl
      · rw [if_neg (show ¬ (57 : Int32) < nI (bt i) from fun w => q3 ((gL (by omega) 57 (by decide)).mp w)), if_pos (show 48 ≤ bt i ∧ bt i ≤ 57 by omega)]
        rfl
  · rw [if_neg (show ¬ nI (bt i) < 97 from fun w => q1 ((lL (by omega) 97 (by decide)).mp w))]
    by_cases q2 : 122 < bt i
    · rw [if_pos (show (122 : Int32) < nI (bt i) from (gL (by omega) 122 (by decide)).mpr q2), if_neg (show ¬ (97 ≤ bt i ∧ bt i ≤ 122) by omega), if_neg (show ¬ (48 ≤ bt i ∧ bt i ≤ 57) by omega), if_neg (show ¬ nI (bt i) < 48 from fun w => by have := (lL (t := bt i) (by omega) 48 (by decide)).mp w; omega), if_pos (show (57 : Int32) < nI (bt i) from (gL (by omega) 57 (by decide)).mpr (by omega))]
      rfl
    · rw [if_neg (show ¬ (122 : Int32) < nI (bt i) from fun w => q2 ((gL (by omega) 122 (by decide)).mp w)), if_pos (show 97 ≤ bt i ∧ bt i ≤ 122 by omega)]
      rfl
/-- a stretch of the tape -/
def slB (bt : Nat → Nat) (a b : Nat) : List Nat := (List.range (b - a)).map (fun i => bt (a + i))
theorem slB_len {a b : Nat} : (slB bt a b).length = b - a := by simp [slB]
theorem slB_get {a b i : Nat} (h : i < b - a) : (slB bt a b)[i]? = some (bt (a + i)) := by
  simp [slB, h]
/-- as far as they are alike -/
def eqP (s w : List Nat) (j : Nat) : Bool := decide (j ≤ s.length) && (s.take j == w.take j)
theorem eqP_full {s w : List Nat} : (eqP s w w.length = true ∧ w.length = s.length) ↔ s = w := by
  unfold eqP
  constructor
  · rintro ⟨h1, h2⟩
    rw [Bool.and_eq_true] at h1
    have := h1.2
    rw [h2, List.take_length, ← h2, List.take_length] at this
    simpa using this
  · rintro rfl
    simp
theorem eqP_succ {s w : List Nat} {j : Nat} (hj : j < w.length) : eqP s w (j + 1) = (eqP s w j && decide (j < s.length) && decide (s.getD j 0 = w.getD j 0)) := by
  unfold eqP
  by_cases h : j < s.length
  · rw [take_succ h, take_succ hj, decide_eq_true (show j + 1 ≤ s.length by omega), decide_eq_true (show j ≤ s.length by omega), decide_eq_true h]
    have hl : (s.take j).length = (w.take j).length := by rw [List.length_take, List.length_take]; omega
    by_cases e1 : s.take j = w.take j
    · by_cases e2 : s.getD j 0 = w.getD j 0
      · rw [e1, e2]; simp
      · have : ¬ (s.take j ++ [s.getD j 0] = w.take j ++ [w.getD j 0]) := fun e => e2 (by have := (List.append_inj e hl).2; simpa using this)
        rw [decide_eq_false e2, beq_eq_false_iff_ne.mpr this]
        simp
    · have : ¬ (s.take j ++ [s.getD j 0] = w.take j ++ [w.getD j 0]) := fun e => e1 (List.append_inj e hl).1
      rw [beq_eq_false_iff_ne.mpr this, beq_eq_false_iff_ne.mpr e1]
      simp
  · rw [decide_eq_false (show ¬ j + 1 ≤ s.length by omega), decide_eq_false h]
    simp
/-- one word of the class's, then the next -/
theorem c_word1 (hC : LayC M) (ht : TAPE M n bt) {a b : Nat} (hab : a ≤ b) (hbn : b ≤ n) (w : List Nat) (o wd : Nat) (hw : ∀ i, i < w.length → txC (nI (o + i)) = nI (w.getD i 0) ∧ w.getD i 0 ≠ 32 ∧ w.getD i 0 < 256) (ho : o + w.length ≤ 129) (he : o + w.length < 129 → txC (nI (o + w.length)) = nI 32) (hwd : wd < 1000) {Q : Unit ⊕ Int32 → Prop} (hq : slB bt a b = w → Q (.inr (nI wd))) (body : Int32 × Int32 × Int32 × Int32 → Option ((Int32 × Int32 × Int32 × Int32) ⊕ (Unit ⊕ Int32))) (hbody : body = (fun s1 => if 129 < s1.2.2.2 then (some (.inr (.inl ()))) else (bv (fun (s14 : Int32 × Int32 × Int32) => bv (s1.2.2.2 + 1 : Int32) (fun x17 => some (.inl (s14.1, s14.2.1, s14.2.2, x17)))) (fun j13 => bv (fun (s19 : Unit) => bv (fun (s23 : Unit) => bv (s1.1 + 1 : Int32) (fun x26 => j13 (x26, 0, 1))) (fun j22 => if s1.2.2.1 = 0 then (j22 ()) else (if s1.2.1 = (nI b - nI a) then (some (.inr (.inr s1.1))) else (j22 ())))) (fun j18 => if 129 ≤ s1.2.2.2 then (j18 ()) else (grd (vp_in s1.2.2.2 129) (if (txC s1.2.2.2) = 32 then (j18 ()) else (bv (fun (s29 : Int32) => bv (s1.2.1 + 1 : Int32) (fun x32 => j13 (s1.1, x32, s29))) (fun j28 => bv (fun (s34 : Unit) => j28 0) (fun j33 => if s1.2.2.1 = 0 then (j33 ()) else (if (nI b - nI a) ≤ s1.2.1 then (j33 ()) else (grd (okO M 7 11) (Option.bind (f_X7_byteAt M 11 (nI a + s1.2.1)) (fun q38 => if q38 = (txC s1.2.2.2) then (j28 1) else (j33 ()))))))))))))) : _)) (hn : slB bt a b ≠ w → TT (loopO body (nI (wd + 1), 0, 1, nI (o + w.length + 1))) Q) : ∀ m j, j + m = w.length → TT (loopO body (nI wd, nI j, b1 (eqP (slB bt a b) w j), nI (o + j))) Q := by
  have hsl := slB_len (bt := bt) (a := a) (b := b)
  have eba : nI b - nI a = nI (b - a) := nsub hab
  have h400 := ht.1
  intro m
  induction m with
  | zero =>
    intro j hj
    obtain rfl : j = w.length := by omega
    have step : body (nI wd, nI w.length, b1 (eqP (slB bt a b) w w.length), nI (o + w.length)) = if slB bt a b = w then some (.inr (.inr (nI wd))) else some (.inl (nI (wd + 1), 0, 1, nI (o + w.length + 1))) := by
      rw [hbody]
      simp only [bv, nsucc, eba]
      rw [if_neg (show ¬ (129 : Int32) < nI (o + w.length) from fun w => by have := (nltI (a := 129) (by decide) (by omega)).mp w; omega)]
      have e1 : ∀ (A B : Option ((Int32 × Int32 × Int32 × Int32) ⊕ (Unit ⊕ Int32))), (if (129 : Int32) ≤ nI (o + w.length) then A else grd (vp_in (nI (o + w.length)) 129) (if txC (nI (o + w.length)) = 32 then A else B)) = A := by
        intro A B
        by_cases q : o + w.length < 129
        · rw [if_neg (show ¬ (129 : Int32) ≤ nI (o + w.length) from fun w => by have := (nleI (a := 129) (by decide) (by omega)).mp w; omega), grd_y ((nvp (by omega)).mpr q), if_pos (show txC (nI (o + w.length)) = 32 from he q)]
        · rw [if_pos (show (129 : Int32) ≤ nI (o + w.length) from (nleI (a := 129) (by decide) (by omega)).mpr (by omega))]
      rw [e1]
      by_cases q : slB bt a b = w
      · have := eqP_full.mpr q
        rw [if_pos q, this.1, if_neg (show ¬ b1 true = 0 by decide), if_pos (by rw [this.2, hsl])]
      · rw [if_neg q]
        by_cases q2 : eqP (slB bt a b) w w.length = true
        · rw [q2, if_neg (show ¬ b1 true = 0 by decide), if_neg]
          intro e
          have := (neqI (by omega) (by omega)).mp e
          exact q (eqP_full.mp ⟨q2, by rw [hsl]; exact this⟩)
        · rw [Bool.not_eq_true] at q2
          rw [q2, if_pos (show b1 false = 0 from rfl)]
    rw [loopO_eq, step]
    by_cases q : slB bt a b = w
    · rw [if_pos q]
      exact ⟨_, rfl, hq q⟩
    · rw [if_neg q]
      exact hn q
  | succ m ih =>
    intro j hj
    obtain ⟨t1, t2, t3⟩ := hw j (by omega)
    have step : body (nI wd, nI j, b1 (eqP (slB bt a b) w j), nI (o + j)) = some (.inl (nI wd, nI (j + 1), b1 (eqP (slB bt a b) w (j + 1)), nI (o + (j + 1)))) := by
      rw [hbody]
      simp only [bv, nsucc, eba, nadd]
      rw [if_neg (show ¬ (129 : Int32) < nI (o + j) from fun w => by have := (nltI (a := 129) (by decide) (by omega)).mp w; omega), if_neg (show ¬ (129 : Int32) ≤ nI (o + j) from fun w => by have := (nleI (a := 129) (by decide) (by omega)).mp w; omega), grd_y ((nvp (by omega)).mpr (by omega)), t1, if_neg (show ¬ nI (w.getD j 0) = 32 from fun e => t2 ((eL (by omega) 32 (by decide)).mp e)), eqP_succ (by omega)]
      cases hE : eqP (slB bt a b) w j with
      | false =>
        rw [if_pos (show b1 false = 0 from rfl)]
        rfl
      | true =>
        rw [if_neg (show ¬ b1 true = 0 by decide)]
        by_cases q1 : b - a ≤ j
        · rw [if_pos ((nleI (by omega) (by omega)).mpr q1), decide_eq_false (show ¬ j < (slB bt a b).length by rw [hsl]; omega)]
          rfl
        · have hC2 := hC
          unfold LayC at hC2
          have hb1 := (ht.2.2.2 (a + j) (by omega)).1
          have eg : (slB bt a b).getD j 0 = bt (a + j) := by rw [List.getD_eq_getElem?_getD, slB_get (by omega)]; rfl
          rw [if_neg (fun e => q1 ((nleI (by omega) (by omega)).mp e)), grd_y (by simp only [hC2]), c_byteAt hC ht (by omega), Option.bind_some, decide_eq_true (show j < (slB bt a b).length by rw [hsl]; omega), eg]
          by_cases q2 : bt (a + j) = w.getD j 0
          · rw [if_pos (by rw [q2]), decide_eq_true q2]
            rfl
          · rw [if_neg (fun e => q2 ((neqI (by omega) (by omega)).mp e)), decide_eq_false q2]
            rfl
    rw [loopO_eq, step]
    exact ih (j + 1) (by omega)
end
