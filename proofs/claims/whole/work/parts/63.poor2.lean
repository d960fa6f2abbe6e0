/-! poor on both sides -/
section
variable {M : Mem} {n : Nat} {mo : Nat → Option Nat} {yr : Nat → Nat} {di : Nat → List Nat}
def NTP (n : Nat) (yr : Nat → Nat) (di : Nat → List Nat) (p x : Int32) : Prop := NTH (PLs n yr di 1000) p x
theorem pre_get {A B : List Nat} {v : Nat} {j : Nat} (h : j = A.length) : (A ++ v :: B)[j]? = some v := by
  subst h
  simp
theorem PLs_mid {y t : Nat} (hy : y ≤ 999) (hY : hasY yr y n = true) (ht : t < 6) (hp : pooR n yr di y t = true) : ∃ B, PLs n yr di 1000 = (PLs n yr di y ++ PF n yr di y t) ++ (6 * y + t) :: B := by
  have e1 : ∀ b, t + 1 ≤ b → ∃ B, PF n yr di y b = PF n yr di y t ++ (6 * y + t) :: B := by
    intro b hb
    induction b with
    | zero => omega
    | succ b ih =>
      rcases Nat.lt_or_ge t b with q | q
      · obtain ⟨B, hB⟩ := ih q
        exact ⟨B ++ (if pooR n yr di y b then [6 * y + b] else []), by rw [PF_succ, hB]; simp⟩
      · obtain rfl : b = t := by omega
        exact ⟨[], by rw [PF_succ, if_pos hp]⟩
  have e2 : ∀ b, y + 1 ≤ b → ∃ B, PLs n yr di b = PLs n yr di y ++ PY n yr di y ++ B := by
    intro b hb
    induction b with
    | zero => omega
    | succ b ih =>
      rcases Nat.lt_or_ge y b with q | q
      · obtain ⟨B, hB⟩ := ih q
        exact ⟨B ++ PY n yr di b, by rw [PLs_succ, hB]; simp⟩
      · obtain rfl : b = y := by omega
        exact ⟨[], by rw [PLs_succ]; simp⟩
  obtain ⟨B1, h1⟩ := e1 6 (by omega)
  obtain ⟨B2, h2⟩ := e2 1000 (by omega)
  exact ⟨B1 ++ B2, by rw [h2, PY, if_pos hY, h1]; simp⟩
theorem NTP_hit {y t : Nat} (hy : y ≤ 999) (hY : hasY yr y n = true) (ht : t < 6) (hp : pooR n yr di y t = true) {p x : Int32} (he : nI (PLs n yr di y ++ PF n yr di y t).length = p) (hx : x = nI (6 * y + t)) : NTP n yr di p x := by
  obtain ⟨B, hB⟩ := PLs_mid hy hY ht hp
  refine Or.inr (Or.inl ⟨_, _, he.symm, ?_, hx⟩)
  rw [hB]
  exact pre_get rfl
theorem NTP_end {p x : Int32} (hn : ∀ j, j < (PLs n yr di 1000).length → p ≠ nI j) (hx : x = if p = -1 then nI (PLs n yr di 1000).length else -1) : NTP n yr di p x := by
  by_cases h : p = -1
  · rw [if_pos h] at hx
    exact Or.inl ⟨h, hx⟩
  · rw [if_neg h] at hx
    exact Or.inr (Or.inr ⟨h, hn, hx⟩)
theorem r_poor (hM : LayM M) (hv : HSV M n mo yr di) (p : Int32) (hp1 : -1 ≤ p) : TT (f_X12_poor M 47 p) (NTP n yr di p) := by
  have hM0 := hM
  have hv0 := hv
  obtain ⟨hn, h56, h8, hf⟩ := hv
  unfold f_X12_poor
  unfold LayM at hM
  rw [if_pos hp1, TT_bind]
  simp only [hM, grd_T, Option.bind_some]
  refine TT_for 1000 (fun k s => s = (nI (PLs n yr di k).length, nI k) ∧ ∀ j, j < (PLs n yr di k).length → p ≠ nI j) ?_ (Nat.zero_le 1000) ⟨rfl, fun j hj => absurd hj (by simp [PLs])⟩
  rintro k _ hk ⟨rfl, hnf⟩
  rw [show (999 : Int32) = nI 999 from rfl, TT_if, nltI (by omega) (by omega)]
  refine ⟨fun q => ?_, fun q => ?_⟩
  · obtain rfl : k = 1000 := by omega
    rw [TT_some]
    show TT (if _ then _ else _) _
    rw [TT_if, TT_some, TT_some]
    exact ⟨fun w => NTP_end hnf (by rw [if_pos w]), fun w => NTP_end hnf (by rw [if_neg w])⟩
  rw [TT_bind]
  refine TT.mono (Q := fun x => x = b1 (hasY yr k n)) ?_ ?_
  · refine TT_for n (fun g s => s = (b1 (hasY yr k g), nI g)) ?_ (Nat.zero_le n) rfl
    rintro g _ hg rfl
    rw [show (56 : Int32) = nI 56 from rfl, grd_y ((nvp (by omega)).mpr (by omega)), nclampI (by omega), h56, TT_if, nleI (by omega) (by omega)]
    refine ⟨fun w => ?_, fun w => ?_⟩
    · obtain rfl : g = n := by omega
      rw [TT_some]
      rfl
    · simp only
      rw [r_yr hM0 hv0 (by omega)]
      have h999 := (hf g (by omega)).2.1
      have s1 : hasY yr k (g + 1) = (hasY yr k g || (yr g == k)) := any_succ _ g
      simp only [bv, Option.bind_some, nsucc]
      rw [s1]
      cases hasY yr k g with
      | false =>
        rw [if_pos (show b1 false = 0 from rfl), TT_if, neqI (by omega) (by omega)]
        refine ⟨fun e => ?_, fun e => ?_⟩
        · rw [TT_some]
          exact ⟨by omega, by rw [e]; simp; rfl⟩
        · rw [TT_some]
          exact ⟨by omega, by rw [show (yr g == k) = false by simpa using e]; rfl⟩
      | true =>
        rw [if_neg (by decide), TT_some]
        exact ⟨by omega, by rfl⟩
  · rintro _ rfl
    rw [TT_bind]
    have fin : ∀ L : List Nat, L = PLs n yr di (k + 1) → (∀ j, j < L.length → p ≠ nI j) → TT (bv (nI k + 1 : Int32) (fun x59 => (some (.inl (nI L.length, x59)) : Option ((Int32 × Int32) ⊕ (Int32 ⊕ (Int32 × Int32)))))) (fun r => r.elim (fun s' => k < 1000 ∧ s' = (nI (PLs n yr di (k + 1)).length, nI (k + 1)) ∧ ∀ j, j < (PLs n yr di (k + 1)).length → p ≠ nI j) (fun x => TT (Sum.elim (fun (x9 : Int32) => if p = (-1) then (some x9) else (some (-1))) (fun (x11 : Int32 × Int32) => some ((6 * x11.1) + x11.2)) x) (NTP n yr di p))) := by
      rintro L rfl hL
      rw [TT_bv, TT_some]
      exact ⟨by omega, by rw [nsucc], hL⟩
    by_cases hY : hasY yr k n = true
    · refine TT_for 6 (fun t s => s = (nI (PLs n yr di k ++ PF n yr di k t).length, nI t) ∧ ∀ j, j < (PLs n yr di k ++ PF n yr di k t).length → p ≠ nI j) ?_ (Nat.zero_le 6) ⟨by simp [PF]; rfl, by simpa [PF] using hnf⟩
      rintro t _ ht ⟨rfl, hnt⟩
      rw [show (6 : Int32) = nI 6 from rfl, TT_if, nleI (by omega) (by omega)]
      refine ⟨fun w => ?_, fun w => ?_⟩
      · obtain rfl : t = 6 := by omega
        rw [TT_some]
        exact fin _ (by rw [PLs_succ, PY, if_pos hY]) hnt
      · rw [hY, if_neg (by decide)]
        simp only
        rw [r_isPoor hM0 hv0 (by omega) (by omega), Option.bind_some]
        simp only [bv]
        cases hP : pooR n yr di k t with
        | false =>
          rw [if_pos (show b1 false = 0 from rfl), TT_some]
          refine ⟨by omega, ?_, ?_⟩
          · rw [PF_succ, hP, nsucc]
            simp
          · rw [PF_succ, hP]
            simpa using hnt
        | true =>
          rw [if_neg (by decide), TT_if]
          refine ⟨fun e => ?_, fun e => ?_⟩
          · rw [TT_some]
            show TT (some _) _
            rw [TT_some]
            show TT (some _) _
            rw [TT_some]
            exact NTP_hit (by omega) hY (by omega) hP e (by show nI 6 * nI k + nI t = _; rw [nmul, nadd])
          · rw [TT_some]
            refine ⟨by omega, ?_, ?_⟩
            · rw [PF_succ, hP, nsucc, nsucc, if_pos rfl, ← List.append_assoc, List.length_append (bs := [6 * k + t])]
              rfl
            · rw [PF_succ, hP, if_pos rfl, ← List.append_assoc]
              intro j hj
              rw [List.length_append, List.length_singleton] at hj
              rcases Nat.lt_or_ge j (PLs n yr di k ++ PF n yr di k t).length with w2 | w2
              · exact hnt j w2
              · rw [show j = (PLs n yr di k ++ PF n yr di k t).length by omega]
                exact fun w3 => e w3.symm
    · rw [Bool.not_eq_true] at hY
      rw [hY]
      refine TT_for 0 (fun t s => s = (nI (PLs n yr di k).length, nI 0)) ?_ (Nat.zero_le 0) rfl
      rintro t _ ht rfl
      rw [if_neg (show ¬ 6 ≤ nI 0 by decide), if_pos (show b1 false = 0 from rfl), TT_some]
      have e : PLs n yr di (k + 1) = PLs n yr di k := by
        rw [PLs_succ, PY, hY]
        simp
      exact fin _ e.symm hnf
theorem c_poor (hC : LayC M) (hv : HSV M n mo yr di) (p : Int32) : TT (f_X11_poor M 0 p) (NTP n yr di p) := by
  have hC0 := hC
  have hv0 := hv
  obtain ⟨hn, h56, h8, hf⟩ := hv
  unfold f_X11_poor
  unfold LayC at hC
  simp only [hC, grd_T, Option.bind_some]
  rw [TT_bind]
  refine (c_yearBehind hC0 hv0 (lo := 0) (p := -1) (fun y hy => ?_)).mono ?_
  · constructor
    · intro w
      exfalso
      rw [show (-1 : Int32) = ii (-1) from by decide, nI_ii, ii_le (R32_n (by omega)) ⟨by omega, by omega⟩] at w
      omega
    · intro w
      omega
  rintro _ ⟨a0, rfl, ha0⟩
  rw [TT_bind]
  let cnt : Nat → Nat := fun y => (List.range n).countP (fun h => decide (yr h < y))
  have cle : ∀ y, cnt y ≤ n := fun y => by
    have := List.countP_le_length (p := fun h => decide (yr h < y)) (l := List.range n)
    simpa [cnt] using this
  have cful : ∀ y, cnt y = n → ∀ h, h < n → yr h < y := by
    intro y hy h hh
    have e : (List.range n).countP (fun h => decide (yr h < y)) = (List.range n).length := by simpa [cnt] using hy
    have := List.countP_eq_length.mp e h (List.mem_range.mpr hh)
    simpa using this
  have cup : ∀ y y2, y < y2 → (∃ h, h < n ∧ yr h = y) → cnt y < cnt y2 := by
    intro y y2 h1 ⟨h, hh, hy⟩
    have e : (List.range n).countP (fun h => decide (yr h < y)) + (List.range n).countP (fun h => decide (yr h = y)) ≤ (List.range n).countP (fun h => decide (yr h < y2)) := by
      generalize List.range n = L
      induction L with
      | nil => simp
      | cons b L ih =>
        simp only [List.countP_cons, decide_eq_true_eq]
        split <;> split <;> split <;> omega
    have e2 : 0 < (List.range n).countP (fun h => decide (yr h = y)) := List.countP_pos_iff.mpr ⟨h, List.mem_range.mpr hh, by simpa using hy⟩
    show (List.range n).countP _ < (List.range n).countP _
    omega
  refine TT_for 12 (fun k s => ∃ a lo, s = (nI (PLs n yr di lo).length, oI a, nI k) ∧ lo ≤ 1000 ∧ NXY n yr lo n a ∧ (∀ j, j < (PLs n yr di lo).length → p ≠ nI j) ∧ ∀ y, a = some y → k ≤ cnt y) ?_ (Nat.zero_le 12) ⟨a0, 0, rfl, by omega, ha0, fun j hj => absurd hj (by simp [PLs]), fun y _ => Nat.zero_le _⟩
  rintro k _ hk ⟨a, lo, rfl, hlo, ha, hnf, hcnt⟩
  have stop : a = none → TT (if p = (-1) then (some (nI (PLs n yr di lo).length)) else (some (-1))) (NTP n yr di p) := by
    intro e
    subst e
    have e : PLs n yr di 1000 = PLs n yr di lo := PLs_skip 1000 hlo (fun h hh w => by have := ha h hh; omega)
    rw [TT_if, TT_some, TT_some]
    exact ⟨fun w => NTP_end (by rw [e]; exact hnf) (by rw [if_pos w, e]), fun w => NTP_end (by rw [e]; exact hnf) (by rw [if_neg w])⟩
  rw [show (12 : Int32) = nI 12 from rfl, TT_if, nleI (by omega) (by omega)]
  refine ⟨fun q => ?_, fun q => ?_⟩
  · rw [TT_some]
    refine stop ?_
    cases a with
    | none => rfl
    | some y =>
      exfalso
      have h1 := hcnt y rfl
      have h2 := cle y
      obtain ⟨h, hh, hy⟩ := ha.2.1
      have := cful y (by omega) h hh
      omega
  cases a with
  | none =>
    rw [TT_if]
    refine ⟨fun _ => ?_, fun w => absurd (show (-1 : Int32) = -1 from rfl) w⟩
    rw [TT_some]
    exact stop rfl
  | some y =>
    obtain ⟨a1, ⟨g0, a2, a3⟩, a4⟩ := ha
    have h9 : y ≤ 999 := by
      have := (hf g0 a2).2.1
      omega
    have hY : hasY yr y n = true := hasY_iff.mpr ⟨g0, a2, a3⟩
    have eP : PLs n yr di y = PLs n yr di lo := PLs_skip y a1 (fun h hh w => by have := a4 h hh w.1; omega)
    rw [TT_if]
    refine ⟨fun w => absurd w (nne_m1 (by omega)), fun _ => ?_⟩
    simp only [oI_some]
    rw [TT_bind, ← eP]
    rw [← eP] at hnf
    refine TT_for 6 (fun t s => s = (nI (PLs n yr di y ++ PF n yr di y t).length, nI t) ∧ ∀ j, j < (PLs n yr di y ++ PF n yr di y t).length → p ≠ nI j) ?_ (Nat.zero_le 6) ⟨by simp [PF]; rfl, by simpa [PF] using hnf⟩
    rintro t _ ht ⟨rfl, hnt⟩
    rw [show (6 : Int32) = nI 6 from rfl, TT_if, nleI (by omega) (by omega)]
    refine ⟨fun w => ?_, fun w => ?_⟩
    · obtain rfl : t = 6 := by omega
      rw [TT_some]
      show TT (Option.bind _ _) _
      rw [TT_bind]
      refine (c_yearBehind hC0 hv0 (lo := y + 1) (p := nI y) (fun z hz => ?_)).mono ?_
      · rw [nleI (by omega) (by omega)]
        omega
      · rintro _ ⟨b, rfl, hb⟩
        rw [TT_bv, TT_some]
        refine ⟨by omega, b, y + 1, by rw [PLs_succ, PY, if_pos hY, nsucc], by omega, hb, by rw [PLs_succ, PY, if_pos hY]; exact hnt, ?_⟩
        rintro z rfl
        have := cup y z (by have := hb.1; omega) ⟨g0, a2, a3⟩
        have := hcnt y rfl
        omega
    · simp only
      rw [c_isPoor hC0 hv0 h9 (by omega), Option.bind_some]
      simp only [bv]
      cases hP : pooR n yr di y t with
      | false =>
        rw [if_pos (show b1 false = 0 from rfl), TT_some]
        refine ⟨by omega, ?_, ?_⟩
        · rw [PF_succ, hP, nsucc]
          simp
        · rw [PF_succ, hP]
          simpa using hnt
      | true =>
        rw [if_neg (by decide), TT_if]
        refine ⟨fun e => ?_, fun e => ?_⟩
        · rw [TT_some]
          show TT (some _) _
          rw [TT_some]
          show TT (some _) _
          rw [TT_some]
          exact NTP_hit h9 hY (by omega) hP e (by show nI y * nI 6 + nI t = _; rw [nmul, nadd, Nat.mul_comm])
        · rw [TT_some]
          refine ⟨by omega, ?_, ?_⟩
          · rw [PF_succ, hP, nsucc, nsucc, if_pos rfl, ← List.append_assoc, List.length_append (bs := [6 * y + t])]
            rfl
          · rw [PF_succ, hP, if_pos rfl, ← List.append_assoc]
            intro j hj
            rw [List.length_append, List.length_singleton] at hj
            rcases Nat.lt_or_ge j (PLs n yr di y ++ PF n yr di y t).length with w2 | w2
            · exact hnt j w2
            · rw [show j = (PLs n yr di y ++ PF n yr di y t).length by omega]
              exact fun w3 => e w3.symm
end
theorem both_poor {M : Mem} (h : REL M) (p : Int32) : ∃ x, f_X11_poor M 0 p = some x ∧ f_X12_poor M 47 p = some x := by
  obtain ⟨n, mo, yr, di, hv⟩ := h.hsv
  have hlen : (PLs n yr di 1000).length < 2147483648 := by
    have := PLs_len (n := n) (yr := yr) (di := di) 1000
    omega
  obtain ⟨x, hx, hq⟩ := c_poor h.1 hv p
  by_cases hp : -1 ≤ p
  · obtain ⟨y, hy, hq2⟩ := r_poor h.2.1 hv p hp
    exact ⟨x, hx, by rw [hy, NTH.eq hlen hq2 hq]⟩
  · refine ⟨x, hx, ?_⟩
    have e : x = -1 := by
      rcases hq with ⟨a, -⟩ | ⟨j, v, a, b, -⟩ | ⟨-, -, e⟩
      · exact absurd (by rw [a]; decide) hp
      · exfalso
        apply hp
        have hj := (List.getElem?_eq_some_iff.mp b).1
        rw [a, nI_ii, ii_neg1, ii_le ⟨by omega, by omega⟩ (R32_n (by omega))]
        omega
      · exact e
    unfold f_X12_poor
    rw [if_neg hp, e]
