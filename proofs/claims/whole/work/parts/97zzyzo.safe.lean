/-! a code that stands in a longer row: its runs stay in it -/
def mrunS (C : Nat → Nat) (Lc : Nat) (W : Nat → Int) : Nat → Nat → List Int → Option (Option Int)
  | 0, _, _ => none
  | n + 1, a, st => if Lc ≤ a then none else match mst2 W (C a % 16) (C a / 16) a st with
    | .inl s => mrunS C Lc W n s.1 s.2
    | .inr r => some r
theorem mrun_out {C : Nat → Nat} {Lc : Nat} {W : Nat → Int} : ∀ n a st r, mrunN C Lc W n a st = some r → (∃ m, mrunS C Lc W m a st = some r) ∨ (r = none ∧ ∃ a' st', Lc ≤ a' ∧ ∀ C' L' m r', (∀ i, i < Lc → C' i = C i) → Lc ≤ L' → mrunN C' L' W m a' st' = some r' → ∃ m', mrunN C' L' W m' a st = some r') := by
  intro n
  induction n with
  | zero => intro a st r h; cases h
  | succ n ih =>
    intro a st r h
    rw [mrunN] at h
    by_cases hL : Lc ≤ a
    · have e : mstep C Lc W a st = .inr none := by
        unfold mstep
        rw [if_pos hL]
      rw [e] at h
      cases h
      exact Or.inr ⟨rfl, a, st, hL, fun C' L' m r' _ _ hm => ⟨m, hm⟩⟩
    · rw [mst2_eq (C := C) (L := Lc) (by omega)] at h
      have e1 : ∀ m, mrunS C Lc W (m + 1) a st = match mst2 W (C a % 16) (C a / 16) a st with
          | .inl s => mrunS C Lc W m s.1 s.2
          | .inr r => some r := fun m => by rw [mrunS, if_neg hL]
      have e2 : ∀ C' L' m, (∀ i, i < Lc → C' i = C i) → Lc ≤ L' → mrunN C' L' W (m + 1) a st = match mst2 W (C a % 16) (C a / 16) a st with
          | .inl s => mrunN C' L' W m s.1 s.2
          | .inr r => some r := fun C' L' m q1 q2 => by rw [mrunN, mst2_eq (C := C') (L := L') (by omega), q1 a (by omega)]; rfl
      cases hs : mst2 W (C a % 16) (C a / 16) a st with
      | inl s =>
        rw [hs] at h e1 e2
        rcases ih s.1 s.2 r h with ⟨m, hm⟩ | ⟨q, a', st', q1, q2⟩
        · exact Or.inl ⟨m + 1, by rw [e1]; exact hm⟩
        · refine Or.inr ⟨q, a', st', q1, fun C' L' m r' w1 w2 w3 => ?_⟩
          obtain ⟨m', hm'⟩ := q2 C' L' m r' w1 w2 w3
          exact ⟨m' + 1, by rw [e2 C' L' m' w1 w2]; exact hm'⟩
      | inr x =>
        rw [hs] at h e1
        exact Or.inl ⟨1, by rw [e1]; exact h⟩
/-- a code that runs so in whatever it stands in never leaves itself -/
theorem mrun_safe {C : Nat → Nat} {Lc u : Nat} {W : Nat → Int} {r : Option Int} (h : ∀ C' L', (∀ i, i < Lc → C' i = C i) → Lc ≤ L' → RUN C' L' W u [] r) : ∃ m, mrunS C Lc W m u [] = some r := by
  obtain ⟨n, hn⟩ := h C Lc (fun _ _ => rfl) (Nat.le_refl _)
  rcases mrun_out n u [] r hn with q | ⟨q, a', st', q1, q2⟩
  · exact q
  · exfalso
    subst q
    have no : ∀ C' L' m v, (∀ i, i < Lc → C' i = C i) → Lc ≤ L' → mrunN C' L' W m a' st' = some (some v) → False := fun C' L' m v w1 w2 w3 => by
      obtain ⟨m1, h1⟩ := q2 C' L' m _ w1 w2 w3
      obtain ⟨m2, h2⟩ := h C' L' w1 w2
      have := RUN_fun _ _ _ _ _ _ h1 h2
      cases this
    cases st' with
    | cons z t =>
      refine no (fun i => if i < Lc then C i else 0) (a' + 1) 1 ((z :: t).getLastD 0) (fun i hi => if_pos hi) (by omega) ?_
      rw [mrunN, mst2_eq (by omega), if_neg (by omega)]
      rfl
    | nil =>
      refine no (fun i => if i < Lc then C i else if i = a' then 17 else 0) (a' + 2) 2 1 (fun i hi => if_pos hi) (by omega) ?_
      rw [mrunN, mst2_eq (by omega), if_neg (by omega), if_pos rfl]
      show mrunN _ _ W 1 (a' + 1) [1] = _
      rw [mrunN, mst2_eq (by omega), if_neg (by omega), if_neg (by omega)]
      rfl
theorem c_runLW {a0 wr sk a1 L Lc b L1 : Nat} {C1 : Nat → Nat} {C : Nat → Nat} {W : Nat → Int32} {M : Mem} {r : Option Int} (hLc : Lc ≤ L) (h10 : L ≤ 800) (hsk : sk ≠ a1) : ∀ n a st M1, MCH M1 a0 wr sk b L1 C1 W → okO M1 14 a1 ∧ mL M1 a1 = L ∧ (∀ i, i < Lc → mI M1 a1 i = nI (C i) ∧ C i < 2147483648) → Fr (Ssk sk) M M1 → STK M1 sk st → st.length ≤ 64 → a < 1000000000 → mrunS C Lc (tI W) n a st = some r → TT (loopO (rnB a0 a1) (M1, nI st.length, nI a)) (fun x => TT (Sum.elim (fun (x16 : Mem) => some (x16, JB)) (Sum.elim (fun (x18 : Mem) => some (x18, JB)) (Sum.elim (fun (x20 : Mem) => grd (okO x20 3 a0) (Option.bind (mR x20 a0 1) (fun r128 => grd (okO x20 15 r128) (grd (vp_in 0 (mL x20 r128)) (some (x20, mJ x20 r128 (0 : Int32).toNatClampNeg)))))) (Sum.elim (fun (x22 : Mem) => some (x22, JB)) (fun (x24 : Mem) => some (x24, JB))))) x) (fun q => Fr (Ssk sk) M q.1 ∧ q.2 = jO r)) := by
  intro n
  induction n with
  | zero => intro a st M1 _ _ _ _ _ _ h; cases h
  | succ n ih =>
    intro a st M1 hm hx hF hst h64 ha hr
    rw [mrunS] at hr
    obtain ⟨h1, h2, h3, h4, h5, h6, h7, -⟩ := id hm
    obtain ⟨h8, h9, h11⟩ := id hx
    by_cases hL : Lc ≤ a
    · rw [if_pos hL] at hr
      cases hr
    · rw [if_neg hL] at hr
      obtain ⟨hC, hC2⟩ := h11 a (by omega)
      have eop : nI (C a) &&& 15 = nI (C a % 16) := by
        rw [show (15 : Int32) = nI 15 from rfl, and_n]
        congr 1
        have := Nat.and_two_pow_sub_one_eq_mod (C a) 4
        simpa using this
      have ear : sr (nI (C a)) 4 = nI (C a / 16) := by
        rw [show (4 : Int32) = nI 4 from rfl, sr_n hC2 (by omega)]
      have key := rn_C hm hst h64 (show a < 1000 by omega) (Nat.mod_lt (C a) (by decide)) (show C a / 16 < 134217728 by omega)
      have eB : rnB a0 a1 (M1, nI st.length, nI a) = rnC a0 (nI (C a % 16)) (nI (C a / 16)) (M1, nI st.length, nI a) := by
        rw [rnB_eq]
        simp only
        rw [grd_y h8, h9, if_neg (fun w => by have := (nleI (by omega) (by omega)).mp w; omega), grd_y ((nvp (by omega)).mpr (by omega)), nclampI (by omega), hC, eop, ear]
      rw [← eB] at key
      cases hs : mst2 (tI W) (C a % 16) (C a / 16) a st with
      | inr o =>
        rw [hs] at hr key
        rw [loopO_eq]
        generalize rnB a0 a1 (M1, nI st.length, nI a) = y at key ⊢
        cases hr
        cases r with
        | none =>
          rcases key with k | k | k | k
          · rw [k]; exact ⟨_, rfl, _, rfl, hF, rfl⟩
          · rw [k]; exact ⟨_, rfl, _, rfl, hF, rfl⟩
          · rw [k]; exact ⟨_, rfl, _, rfl, hF, rfl⟩
          · rw [k]; exact ⟨_, rfl, _, rfl, hF, rfl⟩
        | some v =>
          obtain ⟨k, z, r2, e, hv⟩ := key
          subst e
          rw [k]
          refine ⟨_, rfl, ?_⟩
          show TT (grd (okO M1 3 a0) _) _
          rw [grd_y h1, h3]
          simp only [Option.bind_some]
          rw [grd_y h6, h7, grd_y (show vp_in 0 64 from (nvp (a := 0) (by omega)).mpr (by omega)), TT_some]
          refine ⟨hF, ?_⟩
          show mJ M1 sk (nI 0).toNatClampNeg = jj v
          rw [nclampI (by omega), hst.2 0 (by simp), hv]
          congr 1
          rw [List.getD_eq_getElem?_getD, ← List.head?_eq_getElem?, List.head?_reverse]
          cases r2 with
          | nil => rfl
          | cons b r3 => simp [List.getLastD, List.getLast?]
      | inl s =>
        rw [hs] at hr key
        simp only at hr
        rcases key with k | ⟨M2, k, k2, k3, k4, k5⟩
        · subst k
          exact ih a st M1 hm hx hF hst h64 ha hr
        · rw [loopO_eq, k]
          exact ih s.1 s.2 M2 (hm.fr k2) ⟨okO_fr k2 h8, by rw [k2.2.2.2.1]; exact h9, fun i hi => by rw [k2.i (fun w => hsk w.symm)]; exact h11 i hi⟩ (hF.tr k2) k3 k4 k5 hr
theorem c_runW {a0 wr sk a1 L Lc b L1 : Nat} {C C1 : Nat → Nat} {W : Nat → Int32} {M : Mem} {r : Option Int} {u : Nat} (hm : MCH M a0 wr sk b L1 C1 W) (hx : okO M 14 a1 ∧ mL M a1 = L ∧ (∀ i, i < Lc → mI M a1 i = nI (C i) ∧ C i < 2147483648)) (hLc : Lc ≤ L) (h10 : L ≤ 800) (hsk : sk ≠ a1) (hu : u < 1000000000) (hr : ∀ C' L', (∀ i, i < Lc → C' i = C i) → Lc ≤ L' → RUN C' L' (tI W) u [] r) : TT (f_X3_run M a0 a1 (nI u)) (fun q => Fr (Ssk sk) M q.1 ∧ q.2 = jO r) := by
  obtain ⟨n, hn⟩ := mrun_safe hr
  rw [rn_eq, TT_bind, mmax_n0 (by omega)]
  exact c_runLW hLc h10 hsk n u [] M hm hx Fr.rf ⟨fun v hv => (by cases hv), fun i hi => (by cases hi)⟩ (by simp) hu hn
