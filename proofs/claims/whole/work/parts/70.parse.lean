/-! the two languages: reading, as a function of the tokens -/
abbrev PR : Type := Nat ⊕ (Nat × Nat × List Nat)
abbrev PF3 : Type := Nat → Nat → Nat → PR
def opS (t : Nat) : Option Nat := if t = 43 then some 3 else if t = 45 then some 4 else none
def opT (t : Nat) : Option Nat := if t = 42 then some 5 else if t = 47 then some 6 else if t = 37 then some 7 else none
def opC (t : Nat) : Option Nat := if t = 60 then some 8 else if t = 62 then some 9 else if t = 61 then some 10 else none
section
variable (ord : Bool) (T : Nat → Nat)
def wrd (k : Nat) : Nat ⊕ (Nat × Nat) :=
  if ord then
    if 280 ≤ T k ∧ T k ≤ 283 then .inr (T k - 280, k)
    else if T k ≠ 275 ∧ T k ≠ 276 then .inl k
    else if T (k + 1) < 1000 ∨ 1012 ≤ T (k + 1) then .inl (k + 1)
    else if T k = 275 then .inr (4 + (T (k + 1) - 1000), k + 1)
    else if T (k + 2) < 1000 ∨ 1006 ≤ T (k + 2) then .inl (k + 2)
    else .inr (16 + (T (k + 1) - 1000) * 6 + (T (k + 2) - 1000), k + 2)
  else if 272 ≤ T k ∧ T k ≤ 279 then .inr (T k - 272, k) else .inl k
def pPart (sq : PF3) : PF3 := fun k p u =>
  if T k = 91 then sq k p u
  else if 50 ≤ p ∨ 2000 < T k then .inl k
  else if 1000 ≤ T k then .inr (k + 1, p + 1, [16 * (T k - 1000) + 1])
  else match wrd ord T k with
   | .inl j => .inl j
   | .inr w => .inr (w.2 + 1, p + 1, [16 * w.1 + 2])
def lpS (sub : PF3) (op : Nat → Option Nat) (u : Nat) : Nat → Nat → Nat → List Nat → PR
  | 0, k, p, acc => .inr (k, p, acc)
  | n + 1, k, p, acc => match op (T k) with
    | none => .inr (k, p, acc)
    | some o => match sub (k + 1) p (u + acc.length) with
      | .inl j => .inl j
      | .inr x => lpS sub op u n x.1 x.2.1 (acc ++ x.2.2 ++ [o])
def pSeq (sub : PF3) (op : Nat → Option Nat) : PF3 := fun k p u => match sub k p u with
   | .inl j => .inl j
   | .inr x => lpS T sub op u 400 x.1 x.2.1 x.2.2
def pSq (c : Nat) (inner : PF3) : PF3 := fun k p u => match inner (k + 1) p u with
   | .inl j => .inl j
   | .inr x => if T x.1 = c then .inr (x.1 + 1, x.2.1, x.2.2) else .inl x.1
def pNo : PF3 := fun k _ _ => .inl k
def SUMr : Nat → PF3
  | 0 => pSeq T (pSeq T (pPart ord T pNo) opT) opS
  | r + 1 => pSeq T (pSeq T (pPart ord T (pSq T 93 (SUMr r))) opT) opS
def SQr : Nat → PF3
  | 0 => pNo
  | r + 1 => pSq T 93 (SUMr ord T r)
def PARTr (r : Nat) : PF3 := pPart ord T (SQr ord T r)
def TERMr (r : Nat) : PF3 := pSeq T (PARTr ord T r) opT
def pCmp (r : Nat) : PF3 := fun k p u => match SUMr ord T r k p u with
  | .inl j => .inl j
  | .inr x => match opC (T x.1) with
    | none => .inl x.1
    | some o => match SUMr ord T r (x.1 + 1) x.2.1 (u + x.2.2.length) with
      | .inl j => .inl j
      | .inr y => .inr (y.1, y.2.1, x.2.2 ++ y.2.2 ++ [o])
def nots : Nat → Nat → Nat
  | 0, k => k
  | n + 1, k => if T k = 265 then nots n (k + 1) else k
def pPlain (rd : PF3) (r : Nat) : PF3 := fun k p u =>
  match (if T (nots T 400 k) = 40 then rd (nots T 400 k) p u else pCmp ord T r (nots T 400 k) p u) with
  | .inl j => .inl j
  | .inr x => .inr (x.1, x.2.1, if (nots T 400 k - k) % 2 = 1 then x.2.2 ++ [11] else x.2.2)
def lpJ (sub : PF3) (tok jop u : Nat) : Nat → Nat → Nat → List Nat → PR
  | 0, k, p, acc => .inr (k, p, acc)
  | n + 1, k, p, acc => if T k = tok then (match sub (k + 1) p (u + acc.length + 1) with
      | .inl j => .inl j
      | .inr x => lpJ sub tok jop u n x.1 x.2.1 (acc ++ (16 * (u + acc.length + 1 + x.2.2.length) + jop) :: x.2.2)) else .inr (k, p, acc)
def pSeqJ (sub : PF3) (tok jop : Nat) : PF3 := fun k p u => match sub k p u with
   | .inl j => .inl j
   | .inr x => lpJ T sub tok jop u 400 x.1 x.2.1 x.2.2
def TESTr : Nat → PF3
  | 0 => pSeqJ T (pSeqJ T (pPlain ord T pNo 0) 264 13) 263 12
  | r + 1 => pSeqJ T (pSeqJ T (pPlain ord T (pSq T 41 (TESTr r)) (r + 1)) 264 13) 263 12
def RDr : Nat → PF3
  | 0 => pNo
  | r + 1 => pSq T 41 (TESTr ord T r)
def PLr (r : Nat) : PF3 := pPlain ord T (RDr ord T r) r
def BOr (r : Nat) : PF3 := pSeqJ T (PLr ord T r) 264 13
end
section
variable {ord : Bool} {T : Nat → Nat}
theorem SUMr_eq (r : Nat) : SUMr ord T r = pSeq T (TERMr ord T r) opS := by cases r <;> rfl
theorem TESTr_eq (r : Nat) : TESTr ord T r = pSeqJ T (BOr ord T r) 263 12 := by cases r <;> rfl
/-- where reading goes on, and how much it makes -/
def GDr (len k p : Nat) (r : PR) : Prop := match r with
  | .inl j => j ≤ len
  | .inr x => k < x.1 ∧ x.1 ≤ len ∧ p < x.2.1 ∧ x.2.1 ≤ 50 ∧ 1 ≤ x.2.2.length ∧ x.2.2.length + k ≤ x.1
def WDr (len k : Nat) (r : Nat ⊕ (Nat × Nat)) : Prop := match r with
  | .inl j => j ≤ len
  | .inr w => k ≤ w.2 ∧ w.2 < len
def GD (len : Nat) (f : PF3) : Prop := ∀ k p u, p ≤ 50 → k ≤ len → GDr len k p (f k p u)
theorem opS_ne {t o : Nat} (h : opS t = some o) : t ≠ 256 := by
  unfold opS at h
  split at h
  · omega
  · split at h
    · omega
    · cases h
theorem opT_ne {t o : Nat} (h : opT t = some o) : t ≠ 256 := by
  unfold opT at h
  split at h
  · omega
  · split at h
    · omega
    · split at h
      · omega
      · cases h
theorem opC_ne {t o : Nat} (h : opC t = some o) : t ≠ 256 := by
  unfold opC at h
  split at h
  · omega
  · split at h
    · omega
    · split at h
      · omega
      · cases h
theorem GD_no {len : Nat} : GD len pNo := fun k p u hp hk => hk
variable {len : Nat}
theorem lt_of_T (hT : ∀ j, len ≤ j → T j = 256) {k t : Nat} (h : T k = t) (ht : t ≠ 256) : k < len := by
  rcases Nat.lt_or_ge k len with q | q
  · exact q
  · rw [hT k q] at h
    exact absurd h.symm ht
theorem GD_part (hT : ∀ j, len ≤ j → T j = 256) {sq : PF3} (hs : GD len sq) : GD len (pPart ord T sq) := by
  intro k p u hp hk
  unfold pPart
  split
  · exact hs k p u hp hk
  split
  · exact hk
  rename_i h1 h2
  split
  · rename_i h3
    have : k < len := lt_of_T hT (t := T k) rfl (by omega)
    exact ⟨by simp, by simp; omega, by simp, by simp; omega, by simp, by simp; omega⟩
  · rename_i h3
    have key : WDr len k (wrd ord T k) := by
      unfold wrd
      cases ord with
      | true =>
        simp only [if_true]
        split
        · exact ⟨Nat.le_refl _, lt_of_T hT (t := T k) rfl (by omega)⟩
        split
        · exact hk
        have h4 : k < len := lt_of_T hT (t := T k) rfl (by omega)
        split
        · show k + 1 ≤ len
          omega
        have h5 : k + 1 < len := lt_of_T hT (t := T (k + 1)) rfl (by omega)
        split
        · exact ⟨by simp, h5⟩
        split
        · show k + 2 ≤ len
          omega
        exact ⟨by simp, lt_of_T hT (t := T (k + 2)) rfl (by omega)⟩
      | false =>
        simp only [Bool.false_eq_true, if_false]
        split
        · exact ⟨Nat.le_refl _, lt_of_T hT (t := T k) rfl (by omega)⟩
        · exact hk
    revert key
    cases wrd ord T k with
    | inl j => exact fun h => h
    | inr w =>
      rintro ⟨g1, g2⟩
      exact ⟨by show k < w.2 + 1; omega, by show w.2 + 1 ≤ len; omega, by simp, by show p + 1 ≤ 50; omega, by simp, by show 1 + k ≤ w.2 + 1; omega⟩
theorem GD_lpS (hT : ∀ j, len ≤ j → T j = 256) {sub : PF3} {op : Nat → Option Nat} (hs : GD len sub) (ho : ∀ t o, op t = some o → t ≠ 256) {u k0 p0 : Nat} : ∀ n k p acc, GDr len k0 p0 (.inr (k, p, acc)) → GDr len k0 p0 (lpS T sub op u n k p acc)
  | 0, k, p, acc, h => h
  | n + 1, k, p, acc, h => by
    rw [lpS]
    cases hop : op (T k) with
    | none => exact h
    | some o =>
      obtain ⟨a1, a2, a3, a4, a5, a6⟩ := h
      simp only at a1 a2 a3 a4 a5 a6
      have hk : k < len := lt_of_T hT (t := T k) rfl (ho _ _ hop)
      have g := hs (k + 1) p (u + acc.length) a4 hk
      revert g
      simp only
      cases sub (k + 1) p (u + acc.length) with
      | inl j => exact fun h => h
      | inr x =>
        rintro ⟨b1, b2, b3, b4, b5, b6⟩
        refine GD_lpS hT hs ho n _ _ _ ⟨by show k0 < x.1; omega, b2, by show p0 < x.2.1; omega, b4, ?_, ?_⟩
        · simp only [List.length_append, List.length_singleton]
          omega
        · simp only [List.length_append, List.length_singleton]
          omega
theorem GD_seq (hT : ∀ j, len ≤ j → T j = 256) {sub : PF3} {op : Nat → Option Nat} (hs : GD len sub) (ho : ∀ t o, op t = some o → t ≠ 256) : GD len (pSeq T sub op) := by
  intro k p u hp hk
  have g := hs k p u hp hk
  unfold pSeq
  revert g
  cases sub k p u with
  | inl j => exact fun h => h
  | inr x => exact fun h => GD_lpS hT hs ho 400 _ _ _ h
theorem GD_sq (hT : ∀ j, len ≤ j → T j = 256) {c : Nat} (hc : c ≠ 256) {inner : PF3} (hs : GD len inner) {T0 : Nat} (hT0 : T0 ≠ 256) {k p u : Nat} (hp : p ≤ 50) (hk : T k = T0) : GDr len k p (pSq T c inner k p u) := by
  have hk2 : k < len := lt_of_T hT hk hT0
  have g := hs (k + 1) p u hp hk2
  unfold pSq
  revert g
  cases inner (k + 1) p u with
  | inl j => exact fun h => h
  | inr x =>
    rintro ⟨b1, b2, b3, b4, b5, b6⟩
    simp only
    split
    · rename_i h
      have := lt_of_T hT h hc
      exact ⟨by show k < x.1 + 1; omega, by show x.1 + 1 ≤ len; omega, b3, b4, b5, by show x.2.2.length + k ≤ x.1 + 1; omega⟩
    · exact b2
theorem GD_sq2 (hT : ∀ j, len ≤ j → T j = 256) {c : Nat} (hc : c ≠ 256) {inner : PF3} (hs : GD len inner) : GD len (fun k p u => if T k = 256 then .inl k else pSq T c inner k p u) := by
  intro k p u hp hk
  simp only
  split
  · exact hk
  · exact GD_sq hT hc hs (T0 := T k) (by assumption) hp rfl
theorem GD_partq (hT : ∀ j, len ≤ j → T j = 256) {c : Nat} (hc : c ≠ 256) {inner : PF3} (hs : GD len inner) : GD len (pPart ord T (pSq T c inner)) := by
  have h := GD_part hT (ord := ord) (GD_sq2 hT hc hs)
  intro k p u hp hk
  have g := h k p u hp hk
  unfold pPart at g ⊢
  by_cases e : T k = 91
  · rw [if_pos e] at g ⊢
    simp only at g
    rw [if_neg (by omega)] at g
    exact g
  · rw [if_neg e] at g ⊢
    exact g
theorem GD_SUMr (hT : ∀ j, len ≤ j → T j = 256) : ∀ r, GD len (SUMr ord T r)
  | 0 => GD_seq hT (GD_seq hT (GD_part hT GD_no) (fun _ _ => opT_ne)) (fun _ _ => opS_ne)
  | r + 1 => GD_seq hT (GD_seq hT (GD_partq hT (by decide) (GD_SUMr hT r)) (fun _ _ => opT_ne)) (fun _ _ => opS_ne)
theorem GD_PARTr (hT : ∀ j, len ≤ j → T j = 256) (r : Nat) : GD len (PARTr ord T r) := by
  cases r with
  | zero => exact GD_part hT GD_no
  | succ r => exact GD_partq hT (by decide) (GD_SUMr hT r)
theorem GD_TERMr (hT : ∀ j, len ≤ j → T j = 256) (r : Nat) : GD len (TERMr ord T r) := GD_seq hT (GD_PARTr hT r) (fun _ _ => opT_ne)
theorem GD_cmp (hT : ∀ j, len ≤ j → T j = 256) (r : Nat) : GD len (pCmp ord T r) := by
  intro k p u hp hk
  have g := GD_SUMr hT (ord := ord) r k p u hp hk
  unfold pCmp
  revert g
  cases SUMr ord T r k p u with
  | inl j => exact fun h => h
  | inr x =>
    rintro ⟨b1, b2, b3, b4, b5, b6⟩
    simp only
    cases hop : opC (T x.1) with
    | none => exact b2
    | some o =>
      have hk : x.1 < len := lt_of_T hT (t := T x.1) rfl (opC_ne hop)
      have g := GD_SUMr hT (ord := ord) r (x.1 + 1) x.2.1 (u + x.2.2.length) b4 hk
      revert g
      simp only
      cases SUMr ord T r (x.1 + 1) x.2.1 (u + x.2.2.length) with
      | inl j => exact fun h => h
      | inr y =>
        rintro ⟨c1, c2, c3, c4, c5, c6⟩
        refine ⟨by show k < y.1; omega, c2, by show p < y.2.1; omega, c4, ?_, ?_⟩ <;>
        simp only [List.length_append, List.length_singleton] <;>
        omega
theorem nots_le (hT : ∀ j, len ≤ j → T j = 256) : ∀ n k, k ≤ len → k ≤ nots T n k ∧ nots T n k ≤ len
  | 0, k, h => ⟨Nat.le_refl _, h⟩
  | n + 1, k, h => by
    rw [nots]
    split
    · rename_i e
      have := lt_of_T hT e (by decide)
      have := nots_le hT n (k + 1) this
      omega
    · exact ⟨Nat.le_refl _, h⟩
theorem GD_plain (hT : ∀ j, len ≤ j → T j = 256) {rd : PF3} (r : Nat) (hrd : ∀ k p u, p ≤ 50 → k ≤ len → T k = 40 → GDr len k p (rd k p u)) : GD len (pPlain ord T rd r) := by
  intro k p u hp hk
  have hn := nots_le hT 400 k hk
  have g : GDr len (nots T 400 k) p (if T (nots T 400 k) = 40 then rd (nots T 400 k) p u else pCmp ord T r (nots T 400 k) p u) := by
    split
    · exact hrd _ p u hp hn.2 (by assumption)
    · exact GD_cmp hT r _ p u hp hn.2
  unfold pPlain
  revert g
  generalize (if T (nots T 400 k) = 40 then rd (nots T 400 k) p u else pCmp ord T r (nots T 400 k) p u) = z
  cases z with
  | inl j => exact fun h => h
  | inr x =>
    rintro ⟨b1, b2, b3, b4, b5, b6⟩
    refine ⟨by show k < x.1; omega, b2, b3, b4, ?_, ?_⟩
    · simp only
      split
      · simp
      · exact b5
    · simp only
      split
      · simp only [List.length_append, List.length_singleton]
        omega
      · omega
theorem GD_lpJ (hT : ∀ j, len ≤ j → T j = 256) {sub : PF3} {tok jop : Nat} (hs : GD len sub) (ht : tok ≠ 256) {u k0 p0 : Nat} : ∀ n k p acc, GDr len k0 p0 (.inr (k, p, acc)) → GDr len k0 p0 (lpJ T sub tok jop u n k p acc)
  | 0, k, p, acc, h => h
  | n + 1, k, p, acc, h => by
    rw [lpJ]
    split
    · rename_i e
      obtain ⟨a1, a2, a3, a4, a5, a6⟩ := h
      simp only at a1 a2 a3 a4 a5 a6
      have hk : k < len := lt_of_T hT e ht
      have g := hs (k + 1) p (u + acc.length + 1) a4 hk
      revert g
      cases sub (k + 1) p (u + acc.length + 1) with
      | inl j => exact fun h => h
      | inr x =>
        rintro ⟨b1, b2, b3, b4, b5, b6⟩
        refine GD_lpJ hT hs ht n _ _ _ ⟨by show k0 < x.1; omega, b2, by show p0 < x.2.1; omega, b4, ?_, ?_⟩
        · simp only [List.length_append, List.length_cons]
          omega
        · simp only [List.length_append, List.length_cons]
          omega
    · exact h
theorem GD_seqJ (hT : ∀ j, len ≤ j → T j = 256) {sub : PF3} {tok jop : Nat} (hs : GD len sub) (ht : tok ≠ 256) : GD len (pSeqJ T sub tok jop) := by
  intro k p u hp hk
  have g := hs k p u hp hk
  unfold pSeqJ
  revert g
  cases sub k p u with
  | inl j => exact fun h => h
  | inr x => exact fun h => GD_lpJ hT hs ht 400 _ _ _ h
theorem GD_TESTr (hT : ∀ j, len ≤ j → T j = 256) : ∀ r, GD len (TESTr ord T r)
  | 0 => GD_seqJ hT (GD_seqJ hT (GD_plain hT 0 (fun k p u hp hk _ => hk)) (by decide)) (by decide)
  | r + 1 => GD_seqJ hT (GD_seqJ hT (GD_plain hT (r + 1) (fun k p u hp hk e => GD_sq hT (by decide) (GD_TESTr hT r) (T0 := 40) (by decide) hp e)) (by decide)) (by decide)
theorem GD_RDr (hT : ∀ j, len ≤ j → T j = 256) (r : Nat) {k p u : Nat} (hp : p ≤ 50) (hk : k ≤ len) (e : T k = 40) : GDr len k p (RDr ord T r k p u) := by
  cases r with
  | zero => exact hk
  | succ r => exact GD_sq hT (by decide) (GD_TESTr hT r) (T0 := 40) (by decide) hp e
theorem GD_PLr (hT : ∀ j, len ≤ j → T j = 256) (r : Nat) : GD len (PLr ord T r) := GD_plain hT r (fun k p u hp hk e => GD_RDr hT r hp hk e)
theorem GD_BOr (hT : ∀ j, len ≤ j → T j = 256) (r : Nat) : GD len (BOr ord T r) := GD_seqJ hT (GD_PLr hT r) (by decide)
end
