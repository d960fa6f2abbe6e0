/-! the words that a text's code asks for -/
def W8 (ord : Bool) (c : Nat) : Prop := c < 48000 ∧ (ord = false → c % 16 = 2 → c / 16 < 8)
def W8F (ord : Bool) (len : Nat) (f : PF3) : Prop := ∀ k p u x, p ≤ 50 → k ≤ len → u ≤ k → f k p u = .inr x → ∀ c, c ∈ x.2.2 → W8 ord c
section
variable {ord : Bool} {T : Nat → Nat} {len : Nat}
theorem W8_op {o : Nat} (h : o < 16) (h2 : o ≠ 2) : W8 ord o := ⟨by omega, fun _ w => by omega⟩
theorem W8_no : W8F ord len pNo := fun k p u x _ _ _ h => by cases h
theorem W8_part {sq : PF3} (hs : ∀ k p u x, p ≤ 50 → k ≤ len → u ≤ k → T k = 91 → sq k p u = .inr x → ∀ c, c ∈ x.2.2 → W8 ord c) : W8F ord len (pPart ord T sq) := by
  intro k p u x hp hk hu hx c hc
  unfold pPart at hx
  by_cases h1 : T k = 91
  · rw [if_pos h1] at hx
    exact hs k p u x hp hk hu h1 hx c hc
  rw [if_neg h1] at hx
  by_cases h2 : 50 ≤ p ∨ 2000 < T k
  · rw [if_pos h2] at hx; cases hx
  rw [if_neg h2] at hx
  by_cases h3 : 1000 ≤ T k
  · rw [if_pos h3] at hx
    cases hx
    obtain rfl := List.mem_singleton.mp hc
    exact ⟨by omega, fun _ w => by omega⟩
  rw [if_neg h3] at hx
  cases hw : wrd ord T k with
  | inl j => rw [hw] at hx; cases hx
  | inr w =>
    obtain ⟨w1, w2⟩ := w
    rw [hw] at hx
    cases hx
    simp only at hc
    obtain rfl := List.mem_singleton.mp hc
    have hb : w1 < 88 ∧ (ord = false → w1 < 8) := by
      unfold wrd at hw
      cases ord with
      | false =>
        rw [if_neg (by decide)] at hw
        by_cases q : 272 ≤ T k ∧ T k ≤ 279
        · rw [if_pos q] at hw
          simp only [Sum.inr.injEq, Prod.mk.injEq] at hw
          exact ⟨by omega, fun _ => by omega⟩
        · rw [if_neg q] at hw; cases hw
      | true =>
        refine ⟨?_, fun e => by cases e⟩
        rw [if_pos rfl] at hw
        by_cases q1 : 280 ≤ T k ∧ T k ≤ 283
        · rw [if_pos q1] at hw
          simp only [Sum.inr.injEq, Prod.mk.injEq] at hw
          omega
        rw [if_neg q1] at hw
        by_cases q2 : T k ≠ 275 ∧ T k ≠ 276
        · rw [if_pos q2] at hw; cases hw
        rw [if_neg q2] at hw
        by_cases q3 : T (k + 1) < 1000 ∨ 1012 ≤ T (k + 1)
        · rw [if_pos q3] at hw; cases hw
        rw [if_neg q3] at hw
        by_cases q4 : T k = 275
        · rw [if_pos q4] at hw
          simp only [Sum.inr.injEq, Prod.mk.injEq] at hw
          omega
        rw [if_neg q4] at hw
        by_cases q5 : T (k + 2) < 1000 ∨ 1006 ≤ T (k + 2)
        · rw [if_pos q5] at hw; cases hw
        rw [if_neg q5] at hw
        simp only [Sum.inr.injEq, Prod.mk.injEq] at hw
        omega
    exact ⟨by omega, fun e _ => by have := hb.2 e; omega⟩
theorem W8_lpS (hT : ∀ j, len ≤ j → T j = 256) {sub : PF3} {op : Nat → Option Nat} (hg : GD len sub) (hs : W8F ord len sub) (ho : ∀ t o, op t = some o → t ≠ 256 ∧ o < 16 ∧ o ≠ 2) {u k0 p0 : Nat} (hu : u ≤ k0) : ∀ n k p acc x, GDr len k0 p0 (.inr (k, p, acc)) → (∀ c, c ∈ acc → W8 ord c) → lpS T sub op u n k p acc = .inr x → ∀ c, c ∈ x.2.2 → W8 ord c := by
  intro n
  induction n with
  | zero => intro k p acc x _ ha hx c hc; cases hx; exact ha c hc
  | succ n ih =>
    intro k p acc x hG ha hx
    rw [lpS] at hx
    obtain ⟨g1, g2, g3, g4, g5, g6⟩ := hG
    cases hop : op (T k) with
    | none => rw [hop] at hx; cases hx; exact ha
    | some o =>
      rw [hop] at hx
      obtain ⟨o1, o2, o3⟩ := ho _ _ hop
      have hkl : k < len := by
        by_cases w : k < len
        · exact w
        · exact absurd (hT k (by omega)) o1
      simp only at g1 g2 g3 g4 g5 g6
      have gs := hg (k + 1) p (u + acc.length) g4 hkl
      simp only at hx
      cases hsb : sub (k + 1) p (u + acc.length) with
      | inl j => rw [hsb] at hx; cases hx
      | inr y =>
        rw [hsb] at hx gs
        obtain ⟨e1, e2, e3, e4, e5, e6⟩ := gs
        refine ih y.1 y.2.1 (acc ++ y.2.2 ++ [o]) x ⟨by simp only; omega, e2, by simp only; omega, e4, by simp only [List.length_append, List.length_cons, List.length_nil]; omega, by simp only [List.length_append, List.length_cons, List.length_nil]; omega⟩ ?_ hx
        intro c hc
        rcases List.mem_append.mp hc with hc | hc
        · rcases List.mem_append.mp hc with hc | hc
          · exact ha c hc
          · exact hs (k + 1) p (u + acc.length) y g4 hkl (by omega) hsb c hc
        · obtain rfl := List.mem_singleton.mp hc
          exact W8_op o2 o3
theorem W8_seq (hT : ∀ j, len ≤ j → T j = 256) {sub : PF3} {op : Nat → Option Nat} (hg : GD len sub) (hs : W8F ord len sub) (ho : ∀ t o, op t = some o → t ≠ 256 ∧ o < 16 ∧ o ≠ 2) : W8F ord len (pSeq T sub op) := by
  intro k p u x hp hk hu hx
  unfold pSeq at hx
  have gs := hg k p u hp hk
  cases hsb : sub k p u with
  | inl j => rw [hsb] at hx; cases hx
  | inr y =>
    rw [hsb] at hx gs
    exact W8_lpS hT hg hs ho hu 400 y.1 y.2.1 y.2.2 x gs (hs k p u y hp hk hu hsb) hx
theorem opS_w {t o : Nat} (h : opS t = some o) : t ≠ 256 ∧ o < 16 ∧ o ≠ 2 := by
  refine ⟨opS_ne h, ?_⟩
  unfold opS at h
  split at h
  · cases h; omega
  · split at h
    · cases h; omega
    · cases h
theorem opT_w {t o : Nat} (h : opT t = some o) : t ≠ 256 ∧ o < 16 ∧ o ≠ 2 := by
  refine ⟨opT_ne h, ?_⟩
  unfold opT at h
  split at h
  · cases h; omega
  · split at h
    · cases h; omega
    · split at h
      · cases h; omega
      · cases h
theorem opC_w {t o : Nat} (h : opC t = some o) : t ≠ 256 ∧ o < 16 ∧ o ≠ 2 := by
  refine ⟨opC_ne h, ?_⟩
  unfold opC at h
  split at h
  · cases h; omega
  · split at h
    · cases h; omega
    · split at h
      · cases h; omega
      · cases h
theorem W8_sq (hT : ∀ j, len ≤ j → T j = 256) {c0 b : Nat} (hb : b ≠ 256) {inner : PF3} (hs : W8F ord len inner) : ∀ k p u x, p ≤ 50 → k ≤ len → u ≤ k → T k = b → pSq T c0 inner k p u = .inr x → ∀ c, c ∈ x.2.2 → W8 ord c := by
  intro k p u x hp hk hu h1 hx c hc
  have hkl : k < len := by
    by_cases w : k < len
    · exact w
    · exact absurd (hT k (by omega)) (by omega)
  unfold pSq at hx
  cases hi : inner (k + 1) p u with
  | inl j => rw [hi] at hx; cases hx
  | inr y =>
    rw [hi] at hx
    simp only at hx
    by_cases q : T y.1 = c0
    · rw [if_pos q] at hx
      cases hx
      exact hs (k + 1) p u y hp hkl (by omega) hi c hc
    · rw [if_neg q] at hx; cases hx
theorem W8_SUM (hT : ∀ j, len ≤ j → T j = 256) : ∀ r, W8F ord len (SUMr ord T r) := by
  intro r
  induction r with
  | zero =>
    have h1 : W8F ord len (PARTr ord T 0) := W8_part (fun k p u x _ _ _ _ h => by cases h)
    exact W8_seq hT (GD_TERMr hT 0) (W8_seq hT (GD_PARTr hT 0) h1 (fun _ _ => opT_w)) (fun _ _ => opS_w)
  | succ r ih =>
    have h1 : W8F ord len (PARTr ord T (r + 1)) := W8_part (W8_sq hT (b := 91) (by decide) ih)
    exact W8_seq hT (GD_TERMr hT (r + 1)) (W8_seq hT (GD_PARTr hT (r + 1)) h1 (fun _ _ => opT_w)) (fun _ _ => opS_w)
theorem W8_cmp (hT : ∀ j, len ≤ j → T j = 256) (r : Nat) : W8F ord len (pCmp ord T r) := by
  intro k p u x hp hk hu hx c hc
  unfold pCmp at hx
  have g1 := GD_SUMr hT (ord := ord) r k p u hp hk
  cases h1 : SUMr ord T r k p u with
  | inl j => rw [h1] at hx; cases hx
  | inr y =>
    rw [h1] at hx g1
    obtain ⟨a1, a2, a3, a4, a5, a6⟩ := g1
    simp only at hx
    cases ho : opC (T y.1) with
    | none => rw [ho] at hx; cases hx
    | some o =>
      rw [ho] at hx
      simp only at hx
      obtain ⟨o1, o2, o3⟩ := opC_w ho
      have hyl : y.1 < len := by
        by_cases w : y.1 < len
        · exact w
        · exact absurd (hT y.1 (by omega)) o1
      cases h2 : SUMr ord T r (y.1 + 1) y.2.1 (u + y.2.2.length) with
      | inl j => rw [h2] at hx; cases hx
      | inr z =>
        rw [h2] at hx
        cases hx
        rcases List.mem_append.mp hc with hc | hc
        · rcases List.mem_append.mp hc with hc | hc
          · exact W8_SUM hT r k p u y hp hk hu h1 c hc
          · exact W8_SUM hT r (y.1 + 1) y.2.1 _ z a4 hyl (by omega) h2 c hc
        · obtain rfl := List.mem_singleton.mp hc
          exact W8_op o2 o3
theorem W8_plain (hT : ∀ j, len ≤ j → T j = 256) {rd : PF3} (r : Nat) (hrd : ∀ k p u x, p ≤ 50 → k ≤ len → u ≤ k → T k = 40 → rd k p u = .inr x → ∀ c, c ∈ x.2.2 → W8 ord c) : W8F ord len (pPlain ord T rd r) := by
  intro k p u x hp hk hu hx c hc
  unfold pPlain at hx
  obtain ⟨n1, n2⟩ := nots_le hT 400 k hk
  have fin : ∀ y : Nat × Nat × List Nat, (∀ c, c ∈ y.2.2 → W8 ord c) → (Sum.inr (y.1, y.2.1, if (nots T 400 k - k) % 2 = 1 then y.2.2 ++ [11] else y.2.2) : PR) = .inr x → W8 ord c := by
    intro y hy e
    cases e
    simp only at hc
    split at hc
    · rcases List.mem_append.mp hc with hc | hc
      · exact hy c hc
      · obtain rfl := List.mem_singleton.mp hc
        exact W8_op (by decide) (by decide)
    · exact hy c hc
  by_cases q : T (nots T 400 k) = 40
  · rw [if_pos q] at hx
    cases h1 : rd (nots T 400 k) p u with
    | inl j => rw [h1] at hx; cases hx
    | inr y =>
      rw [h1] at hx
      exact fin y (hrd _ p u y hp n2 (by omega) q h1) hx
  · rw [if_neg q] at hx
    cases h1 : pCmp ord T r (nots T 400 k) p u with
    | inl j => rw [h1] at hx; cases hx
    | inr y =>
      rw [h1] at hx
      exact fin y (W8_cmp hT r _ p u y hp n2 (by omega) h1) hx
theorem W8_lpJ (hT : ∀ j, len ≤ j → T j = 256) (hlen : len ≤ 400) {sub : PF3} {tok jop : Nat} (hg : GD len sub) (hs : W8F ord len sub) (htk : tok ≠ 256) (hj : jop < 16 ∧ jop ≠ 2) {u k0 p0 : Nat} (hu : u ≤ k0) : ∀ n k p acc x, GDr len k0 p0 (.inr (k, p, acc)) → (∀ c, c ∈ acc → W8 ord c) → lpJ T sub tok jop u n k p acc = .inr x → ∀ c, c ∈ x.2.2 → W8 ord c := by
  intro n
  induction n with
  | zero => intro k p acc x _ ha hx c hc; cases hx; exact ha c hc
  | succ n ih =>
    intro k p acc x hG ha hx
    rw [lpJ] at hx
    obtain ⟨g1, g2, g3, g4, g5, g6⟩ := hG
    simp only at g1 g2 g3 g4 g5 g6
    by_cases q : T k = tok
    · rw [if_pos q] at hx
      have hkl : k < len := by
        by_cases w : k < len
        · exact w
        · exact absurd (hT k (by omega)) (by omega)
      have gs := hg (k + 1) p (u + acc.length + 1) g4 hkl
      cases hsb : sub (k + 1) p (u + acc.length + 1) with
      | inl j => rw [hsb] at hx; cases hx
      | inr y =>
        rw [hsb] at hx gs
        obtain ⟨e1, e2, e3, e4, e5, e6⟩ := gs
        refine ih y.1 y.2.1 (acc ++ (16 * (u + acc.length + 1 + y.2.2.length) + jop) :: y.2.2) x ⟨by simp only; omega, e2, by simp only; omega, e4, by simp only [List.length_append, List.length_cons]; omega, by simp only [List.length_append, List.length_cons]; omega⟩ ?_ hx
        intro c hc
        rcases List.mem_append.mp hc with hc | hc
        · exact ha c hc
        · rcases List.mem_cons.mp hc with rfl | hc
          · exact ⟨by omega, fun _ w => by omega⟩
          · exact hs (k + 1) p (u + acc.length + 1) y g4 hkl (by omega) hsb c hc
    · rw [if_neg q] at hx
      cases hx
      exact ha
theorem W8_seqJ (hT : ∀ j, len ≤ j → T j = 256) (hlen : len ≤ 400) {sub : PF3} {tok jop : Nat} (hg : GD len sub) (hs : W8F ord len sub) (htk : tok ≠ 256) (hj : jop < 16 ∧ jop ≠ 2) : W8F ord len (pSeqJ T sub tok jop) := by
  intro k p u x hp hk hu hx
  unfold pSeqJ at hx
  have gs := hg k p u hp hk
  cases hsb : sub k p u with
  | inl j => rw [hsb] at hx; cases hx
  | inr y =>
    rw [hsb] at hx gs
    exact W8_lpJ hT hlen hg hs htk hj hu 400 y.1 y.2.1 y.2.2 x gs (hs k p u y hp hk hu hsb) hx
theorem W8_TEST (hT : ∀ j, len ≤ j → T j = 256) (hlen : len ≤ 400) : ∀ r, W8F ord len (TESTr ord T r) := by
  intro r
  induction r with
  | zero =>
    have h1 : W8F ord len (PLr ord T 0) := W8_plain hT 0 (fun k p u x _ _ _ _ h => by cases h)
    exact W8_seqJ hT hlen (GD_BOr hT 0) (W8_seqJ hT hlen (GD_PLr hT 0) h1 (by decide) (by decide)) (by decide) (by decide)
  | succ r ih =>
    have h1 : W8F ord len (PLr ord T (r + 1)) := W8_plain hT (r + 1) (W8_sq hT (b := 40) (by decide) ih)
    exact W8_seqJ hT hlen (GD_BOr hT (r + 1)) (W8_seqJ hT hlen (GD_PLr hT (r + 1)) h1 (by decide) (by decide)) (by decide) (by decide)
theorem W8_SF (hT : ∀ j, len ≤ j → T j = 256) : W8F ord len (pSF ord T) := by
  intro k p u x hp hk hu hx c hc
  unfold pSF at hx
  cases h1 : SUMr ord T 8 k p u with
  | inl j => rw [h1] at hx; cases hx
  | inr y =>
    rw [h1] at hx
    cases hx
    rcases List.mem_append.mp hc with hc | hc
    · exact W8_SUM hT 8 k p u y hp hk hu h1 c hc
    · obtain rfl := List.mem_singleton.mp hc
      exact W8_op (by decide) (by decide)
theorem W8_Co (hT : ∀ j, len ≤ j → T j = 256) (hlen : len ≤ 400) {k p u : Nat} {x : Nat × Nat × List Nat × Option Nat} (hp : p ≤ 50) (hk : k ≤ len) (hu : u ≤ k) (hx : pCo ord T k p u = .inr x) : ∀ c, c ∈ x.2.2.1 → W8 ord c := by
  intro c hc
  unfold pCo at hx
  by_cases q : T k = 262
  · have hkl := lt_of_T hT q (by decide)
    rw [if_pos q] at hx
    cases h1 : TESTr ord T 8 (k + 1) p u with
    | inl j => rw [h1] at hx; cases hx
    | inr y =>
      rw [h1] at hx
      cases hx
      rcases List.mem_append.mp hc with hc | hc
      · exact W8_TEST hT hlen 8 (k + 1) p u y hp hkl (by omega) h1 c hc
      · obtain rfl := List.mem_singleton.mp hc
        exact W8_op (by decide) (by decide)
  · rw [if_neg q] at hx
    cases hx
    cases hc
theorem W8_Law (hT : ∀ j, len ≤ j → T j = 256) (hlen : len ≤ 400) {k p u : Nat} {x : Nat × Nat × List Nat × CL} (hp : p ≤ 50) (hk : k ≤ len) (hu : u ≤ k) (hx : pLaw ord T k p u = .inr x) : ∀ c, c ∈ x.2.2.1 → W8 ord c := by
  intro c hc
  unfold pLaw at hx
  by_cases q1 : T k = 258
  · have hkl := lt_of_T hT q1 (by decide)
    rw [if_pos q1] at hx
    have gg := G_SF hT (ord := ord) (u := u) hp hkl (by omega)
    cases h1 : pSF ord T (k + 1) p u with
    | inl j => rw [h1] at hx; cases hx
    | inr y =>
      rw [h1] at hx gg
      obtain ⟨g1, g2, g3, g4, g5⟩ := gg
      simp only at hx
      cases h2 : pCo ord T y.1 y.2.1 (u + y.2.2.length) with
      | inl j => rw [h2] at hx; cases hx
      | inr z =>
        rw [h2] at hx
        cases hx
        rcases List.mem_append.mp hc with hc | hc
        · exact W8_SF hT (k + 1) p u y hp hkl (by omega) h1 c hc
        · exact W8_Co hT hlen g4 g2 (by omega) h2 c hc
  rw [if_neg q1] at hx
  by_cases q2 : T k = 259
  · have hkl := lt_of_T hT q2 (by decide)
    rw [if_pos q2] at hx
    cases h2 : pCo ord T (k + 1) p u with
    | inl j => rw [h2] at hx; cases hx
    | inr z =>
      rw [h2] at hx
      cases hx
      exact W8_Co hT hlen hp hkl (by omega) h2 c hc
  · rw [if_neg q2] at hx
    cases hx
end
