theorem clr_0 : ∀ b, b < 64 → ∀ d, d < 6 → b.testBit d = true → clr b d = 0 → b = 2 ^ d := by decide +kernel
def S39b (b a k : Nat) : Prop := a = 39 ∧ k = b
theorem c_wfi {M : Mem} (hC : LayC M) {n : Nat} (hn : n ≤ 6) {W : Nat → Nat → Nat} (hW : PDW M n W) (bW : ∀ i j, W i j ≤ 1000000) {b : Nat} (hb1 : 1 ≤ b) (hb : b < 2 ^ n) {F : Nat → Nat} (hF : ∀ c, 1 ≤ c → c < b → mI M 39 c = nI (F c) ∧ F c ≤ 1000000) {v0 : Nat} (hv : mI M 39 b = nI v0) (hs : SNG n b → v0 = 0) (hns : ¬ SNG n b → v0 = 1000000) : TT (loopO (wf0i 34 (nI b)) (M, 0)) (fun M1 => ∃ v, Fr (S39b b) M M1 ∧ mI M1 39 b = nI v ∧ v ≤ 1000000 ∧ (SNG n b → v = 0) ∧ (¬ SNG n b → FWI W n F b n v)) := by
  have h64 : 2 ^ n ≤ 64 := Nat.le_trans (Nat.pow_le_pow_right (by omega) hn) (by decide)
  refine TT_for n (fun e s => ∃ M' v, s = (M', nI e) ∧ Fr (S39b b) M M' ∧ mI M' 39 b = nI v ∧ v ≤ 1000000 ∧ (SNG n b → v = 0) ∧ (¬ SNG n b → FWI W n F b e v)) ?_ (Nat.zero_le _) ⟨M, v0, rfl, Fr.rf, hv, ?_, hs, fun q => ?_⟩
  · rintro e s he ⟨M', v, rfl, hf, ev, hvl, i1, i2⟩
    have hC' := hC.fr hf
    obtain ⟨l1, l2, l3, l4, -⟩ := lyP hC'
    obtain ⟨-, -, -, -, -, -, p7, p8, p9⟩ := lyP2 hC'
    have hW' := hW.fr hf (by unfold S39b; omega) (fun k => by unfold S39b; omega)
    unfold wf0i
    simp only
    rw [hW'.1]
    by_cases w : e = n
    · rw [if_pos ((nleI (by omega) (by omega)).mpr (by omega)), TT_some]
      subst w
      exact ⟨v, hf, ev, hvl, i1, i2⟩
    · have hlt : e < n := by omega
      rw [if_neg (fun q => w (by have := (nleI (by omega) (by omega)).mp q; omega)), others_n b (by omega) e (by omega), TT_bv, TT_bv]
      have hc64 : clr b e < 64 := Nat.lt_of_le_of_lt Nat.and_le_left (by omega)
      -- a daughter that is not tried
      have skip : (b.testBit e = true → clr b e = 0) → TT (some (Sum.inl (M', nI e + 1)) : Option ((Mem × Int32) ⊕ Mem)) (fun r => r.elim (fun s' => e < n ∧ ∃ M' v, s' = (M', nI (e + 1)) ∧ Fr (S39b b) M M' ∧ mI M' 39 b = nI v ∧ v ≤ 1000000 ∧ (SNG n b → v = 0) ∧ (¬ SNG n b → FWI W n F b (e + 1) v)) (fun M1 => ∃ v, Fr (S39b b) M M1 ∧ mI M1 39 b = nI v ∧ v ≤ 1000000 ∧ (SNG n b → v = 0) ∧ (¬ SNG n b → FWI W n F b n v))) := fun hsk => by
        rw [TT_some]
        refine ⟨hlt, M', v, by rw [nsucc], hf, ev, hvl, i1, fun q => ?_⟩
        obtain ⟨j1, j2, j3⟩ := i2 q
        refine ⟨j1, fun d x hd hb2 hc hx => ?_, ?_⟩
        · by_cases z : d = e
          · subst z
            exact absurd (hsk hb2) hc
          · exact j2 d x (by omega) hb2 hc hx
        · rcases j3 with z | ⟨d, x, z1, z2, z3, z4, z5⟩
          · exact Or.inl z
          · exact Or.inr ⟨d, x, by omega, z2, z3, z4, z5⟩
      by_cases w1 : b.testBit e = true
      · have hlt2 := clr_lt b (by omega) e (by omega) w1
        rw [if_neg (fun q => by have := (neqI (by omega) (by omega)).mp q; omega)]
        by_cases w2 : clr b e = 0
        · rw [if_pos (by rw [w2]; rfl)]
          exact skip (fun _ => w2)
        · rw [if_neg (show ¬ nI (clr b e) = 0 from fun q : nI (clr b e) = nI 0 => w2 ((neqI (by omega) (by omega)).mp q)), p7, Option.bind_some, Option.bind_some, grd_y p8, p9, grd_y ((nvp (by omega)).mpr (by omega)), Option.bind_some, grd_y p8, p9, grd_y ((nvp (by omega)).mpr hc64)]
          obtain ⟨x, hx, ex⟩ := c_nearest hC' hn hW' bW hc64 hlt
          obtain ⟨f1, f2⟩ := hF (clr b e) (by omega) hlt2
          have f1' : mI M' 39 (clr b e) = nI (F (clr b e)) := by
            rw [hf.i (by unfold S39b; omega)]
            exact f1
          have hxl := hx.1
          rw [ex, Option.bind_some, grd_y p8, grd_y ((nvp (by omega)).mpr (by omega)), nclampI (a := b) (by omega), nclampI (a := clr b e) (by omega), ev, f1', nadd, mmin_i (by omega) (by omega), TT_bv, TT_bv, TT_some]
          refine ⟨hlt, _, _, by rw [nsucc], hf.wI ⟨rfl, rfl⟩, mI_wIs, ?_, fun q => ?_, fun q => ?_⟩
          · split <;> omega
          · obtain ⟨d, hd, hbd⟩ := q
            exfalso
            have : e = d := by
              rw [hbd, Nat.testBit_two_pow] at w1
              simp at w1
              exact w1.symm
            subst this
            have hz : clr b e = 0 := by
              have : ∀ d, d < 6 → clr (2 ^ d) d = 0 := by decide +kernel
              rw [hbd]
              exact this e (by omega)
            exact w2 hz
          · obtain ⟨j1, j2, j3⟩ := i2 q
            by_cases z : v ≤ F (clr b e) + x
            · rw [if_pos z]
              refine ⟨j1, fun d y hd hb2 hc hy => ?_, ?_⟩
              · by_cases u : d = e
                · subst u
                  rw [hy.un hx]
                  exact z
                · exact j2 d y (by omega) hb2 hc hy
              · rcases j3 with u | ⟨d, y, z1, z2, z3, z4, z5⟩
                · exact Or.inl u
                · exact Or.inr ⟨d, y, by omega, z2, z3, z4, z5⟩
            · rw [if_neg z]
              refine ⟨by omega, fun d y hd hb2 hc hy => ?_, Or.inr ⟨e, x, by omega, w1, w2, hx, rfl⟩⟩
              by_cases u : d = e
              · subst u
                rw [hy.un hx]
                exact Nat.le_refl _
              · have := j2 d y (by omega) hb2 hc hy
                omega
      · have : clr b e = b := (clr_ne b (by omega) e (by omega)).mpr (Bool.eq_false_iff.mpr w1)
        rw [if_pos (by rw [this])]
        exact skip (fun q => absurd q w1)
  · by_cases q : SNG n b
    · rw [hs q]; exact Nat.zero_le _
    · rw [hns q]; exact Nat.le_refl _
  · rw [hns q]
    exact ⟨Nat.le_refl _, (fun e x he => by omega), Or.inl rfl⟩
theorem bc_n {b : Nat} (hb : b < 64) : f_J6_bitCount_0f7a4 (nI b) = some (nI (pc b)) := bc64 b hb
/-- FEW at one set -/
def FW1 (W : Nat → Nat → Nat) (n : Nat) (F : Nat → Nat) (b : Nat) : Prop := (SNG n b → F b = 0) ∧ (¬ SNG n b → F b ≤ 1000000 ∧ (∀ d x, d < n → b.testBit d = true → NRS W n (clr b d).testBit d x → F b ≤ F (clr b d) + x) ∧ (F b = 1000000 ∨ ∃ d x, d < n ∧ b.testBit d = true ∧ NRS W n (clr b d).testBit d x ∧ F b = F (clr b d) + x))
theorem FW1.cg {W : Nat → Nat → Nat} {n : Nat} (hn : n ≤ 6) {F F' : Nat → Nat} {b : Nat} (hb : b < 64) (h : ∀ c, c ≤ b → F c = F' c) (hf : FW1 W n F b) : FW1 W n F' b := by
  refine ⟨fun q => by rw [← h b (Nat.le_refl _)]; exact hf.1 q, fun q => ?_⟩
  obtain ⟨a, b', c⟩ := hf.2 q
  refine ⟨by rw [← h b (Nat.le_refl _)]; exact a, fun d x hd hb2 hx => ?_, ?_⟩
  · rw [← h b (Nat.le_refl _), ← h (clr b d) (Nat.le_of_lt (clr_lt b hb d (by omega) hb2))]
    exact b' d x hd hb2 hx
  · rcases c with z | ⟨d, x, z1, z2, z3, z4⟩
    · exact Or.inl (by rw [← h b (Nat.le_refl _)]; exact z)
    · exact Or.inr ⟨d, x, z1, z2, z3, by rw [← h b (Nat.le_refl _), ← h (clr b d) (Nat.le_of_lt (clr_lt b hb d (by omega) z2))]; exact z4⟩
theorem c_workFewest {M : Mem} (hC : LayC M) {n : Nat} (hn0 : 0 < n) (hn : n ≤ 6) {W : Nat → Nat → Nat} (hW : PDW M n W) (bW : ∀ i j, W i j ≤ 1000000) : TT (f_X5_workFewest M 34) (fun M1 => Fr S39 M M1 ∧ ∃ F, FEW W n F ∧ (∀ b, F b ≤ 1000000) ∧ ∀ b, 1 ≤ b → b < 2 ^ n → mI M1 39 b = nI (F b)) := by
  have h64 : 2 ^ n ≤ 64 := Nat.le_trans (Nat.pow_le_pow_right (by omega) hn) (by decide)
  have h2 : 2 ≤ 2 ^ n := by
    have : 2 ^ 1 ≤ 2 ^ n := Nat.pow_le_pow_right (by omega) hn0
    omega
  rw [workFewest_eq, TT_bind]
  refine (TT_for (2 ^ n) (fun X s => ∃ M' F, 1 ≤ X ∧ s = (M', nI X) ∧ Fr S39 M M' ∧ (∀ b, F b ≤ 1000000) ∧ ∀ b, 1 ≤ b → b < X → mI M' 39 b = nI (F b) ∧ FW1 W n F b) (Q := fun M1 => Fr S39 M M1 ∧ ∃ F, FEW W n F ∧ (∀ b, F b ≤ 1000000) ∧ ∀ b, 1 ≤ b → b < 2 ^ n → mI M1 39 b = nI (F b)) ?_ (k := 1) (by omega) ⟨M, fun _ => 0, Nat.le_refl _, rfl, Fr.rf, fun _ => Nat.zero_le _, fun b h1 h2 => by omega⟩).mono (fun x hx => TT_some.mpr hx)
  rintro X s hX ⟨M', F, hX1, rfl, hf, hFb, hF⟩
  have hC' := hC.fr hf
  obtain ⟨l1, l2, l3, l4, -⟩ := lyP hC'
  obtain ⟨-, -, -, -, -, -, p7, p8, p9⟩ := lyP2 hC'
  have hW' := hW.fr hf (by unfold S39; omega) (fun k => by unfold S39; omega)
  unfold wfo
  simp only
  rw [grd_y l1, hW'.1, one_n n (by omega)]
  by_cases w : X = 2 ^ n
  · rw [if_pos ((nleI (by omega) (by omega)).mpr (by omega)), TT_some]
    exact ⟨hf, F, fun b h1 h2 => (hF b h1 (by omega)).2, hFb, fun b h1 h2 => (hF b h1 (by omega)).1⟩
  · have hlt : X < 2 ^ n := by omega
    rw [if_neg (fun q => w (by have := (nleI (by omega) (by omega)).mp q; omega)), p7, Option.bind_some, bc_n (by omega), Option.bind_some, TT_bv]
    have go : ∀ v0 : Nat, (SNG n X → v0 = 0) → (¬ SNG n X → v0 = 1000000) → TT (grd (okO M' 14 39) (grd (vp_in (nI X) (mL M' 39)) (bv (wI M' 39 (nI X).toNatClampNeg (nI v0)) (fun M20 => Option.bind (loopO (wf0i 34 (nI X)) (M20, 0)) (fun (x31 : Mem) => bv (nI X + 1 : Int32) (fun x57 => (some (.inl (x31, x57)) : Option ((Mem × Int32) ⊕ (Mem)))))))) ) (fun r => r.elim (fun s' => X < 2 ^ n ∧ ∃ M' F, 1 ≤ X + 1 ∧ s' = (M', nI (X + 1)) ∧ Fr S39 M M' ∧ (∀ b, F b ≤ 1000000) ∧ ∀ b, 1 ≤ b → b < X + 1 → mI M' 39 b = nI (F b) ∧ FW1 W n F b) (fun M1 => Fr S39 M M1 ∧ ∃ F, FEW W n F ∧ (∀ b, F b ≤ 1000000) ∧ ∀ b, 1 ≤ b → b < 2 ^ n → mI M1 39 b = nI (F b))) := fun v0 hs hns => by
      rw [grd_y p8, p9, grd_y ((nvp (by omega)).mpr (by omega)), nclampI (by omega), TT_bv, TT_bind]
      have f0 : Fr (S39b X) M' (wI M' 39 X (nI v0)) := Fr.rf.wI ⟨rfl, rfl⟩
      have e0 : mI (wI M' 39 X (nI v0)) 39 X = nI v0 := mI_wIs
      generalize wI M' 39 X (nI v0) = M0 at f0 e0
      refine (c_wfi (hC'.fr f0) hn (hW'.fr f0 (by unfold S39b; omega) (fun k => by unfold S39b; omega)) bW hX1 hlt (F := F) (fun c h1 h2 => ⟨by rw [f0.i (by unfold S39b; omega)]; exact (hF c h1 h2).1, hFb c⟩) e0 hs hns).mono ?_
      rintro M1 ⟨v, f1, ev, hvl, i1, i2⟩
      rw [TT_bv, TT_some]
      have f01 : Fr (S39b X) M' M1 := f0.tr f1
      refine ⟨hlt, M1, fun c => if c = X then v else F c, by omega, by rw [nsucc], hf.tr (f01.up (fun a k w => w.1)), fun c => ?_, fun b h1 h2 => ?_⟩
      · show (if c = X then v else F c) ≤ 1000000
        split
        · exact hvl
        · exact hFb c
      · by_cases z : b = X
        · subst z
          refine ⟨by simp only [if_pos]; exact ev, fun q => by simp only [if_pos]; exact i1 q, fun q => ?_⟩
          obtain ⟨j1, j2, j3⟩ := i2 q
          have hne : ∀ d, d < n → b.testBit d = true → clr b d ≠ 0 ∧ clr b d ≠ b := fun d hd hb2 => ⟨fun u => q ⟨d, hd, clr_0 b (by omega) d (by omega) hb2 u⟩, fun u => by have := clr_lt b (by omega) d (by omega) hb2; omega⟩
          simp only [if_pos]
          refine ⟨j1, fun d x hd hb2 hx => ?_, ?_⟩
          · rw [if_neg (hne d hd hb2).2]
            exact j2 d x hd hb2 (hne d hd hb2).1 hx
          · rcases j3 with u | ⟨d, x, z1, z2, z3, z4, z5⟩
            · exact Or.inl u
            · exact Or.inr ⟨d, x, z1, z2, z4, by rw [if_neg (hne d z1 z2).2]; exact z5⟩
        · obtain ⟨g1, g2⟩ := hF b h1 (by omega)
          refine ⟨by simp only [if_neg z]; rw [f01.i (by unfold S39b; omega)]; exact g1, g2.cg hn (by omega) (fun c hc => ?_)⟩
          show F c = if c = X then v else F c
          rw [if_neg (by omega)]
    by_cases w2 : pc X = 1
    · rw [if_pos (by rw [w2]; rfl)]
      have hs := (sng_pc n (by omega) X (by omega) hlt).mp w2
      exact go 0 (fun _ => rfl) (fun q => absurd hs q)
    · have hp := pc_le X
      rw [if_neg (show ¬ nI (pc X) = 1 from fun q : nI (pc X) = nI 1 => w2 ((neqI (by omega) (by omega)).mp q))]
      exact go 1000000 (fun q => absurd ((sng_pc n (by omega) X (by omega) hlt).mpr q) w2) (fun _ => rfl)
