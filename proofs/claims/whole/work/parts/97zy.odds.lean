/-! odds() and likely() on both sides -/
def Sod (M : Mem) (a k : Nat) : Prop := Swf M a k ∨ Spr a k
theorem sod_x {M : Mem} : ∀ a k, Sod M a k → (a < 78 ∧ ¬ (1 ≤ a ∧ a ≤ 20) ∧ ¬ (32 ≤ a ∧ a ≤ 41) ∧ ¬ (43 ≤ a ∧ a ≤ 46) ∧ ¬ (48 ≤ a ∧ a ≤ 51) ∧ ¬ (55 ≤ a ∧ a ≤ 60) ∧ ¬ (62 ≤ a ∧ a ≤ 67) ∧ a ≠ 0 ∧ a ≠ 77 ∧ ¬ (a = 47 ∧ (k ≤ 1 ∨ k = 12 ∨ k = 17 ∨ k = 18 ∨ k = 34 ∨ k = 46 ∨ k = 57))) ∨ (78 ≤ a ∧ mK M a = 15) := fun a k w => by
  rcases w with (w | w | w) | (w | w | w)
  · unfold Slk at w; left; omega
  · unfold S42 at w; left; omega
  · exact Or.inr w
  · unfold Srv at w; left; omega
  · left; omega
  · left; omega
theorem INV0.lookW {c : Nat} {M M2 : Mem} (h : INV0 c M) (hF : Fw (Sod M) Rw4 M M2) (hn : mn M2 ≤ mn M + 12) (hS : SCI (300 * (c + 1)) M2) : INV0 (c + 1) M2 ∧ QST M M2 := by
  have hht : ∀ a k, Sod M a k → ¬ HT M a := fun a k w q => by
    rcases sod_x a k w with z | ⟨z1, z2⟩
    · have := q.1; omega
    · rcases q.2 with u | u | u | ⟨u, _⟩ <;> omega
  have hr4 : ∀ a k, Rw4 a k → (a = 21 ∧ k = 3) ∨ (a = 42 ∧ (k = 3 ∨ k = 4)) := fun a k w => w.elim (fun q => Or.inl q) (fun q => Or.inr q)
  have h78 := h.2.1.1
  have ex : ∀ a k, a < 78 → (1 ≤ a ∧ a ≤ 20) ∨ (43 ≤ a ∧ a ≤ 46) ∨ (48 ≤ a ∧ a ≤ 51) ∨ (55 ≤ a ∧ a ≤ 60) ∨ a = 0 ∨ a = 77 ∨ (a = 47 ∧ (k ≤ 1 ∨ k = 12 ∨ k = 17 ∨ k = 18 ∨ k = 46 ∨ k = 57)) → mI M2 a k = mI M a k := fun a k w1 w2 => hF.i (by omega) (fun q => by have := sod_x a k q; omega)
  obtain ⟨hmid, e49⟩ := h.mid.1.fw hF (fun a k w => ⟨fun z => by
    rcases sod_x a k w with u | u
    · unfold Frl at z; omega
    · unfold Frl at z; omega, hht a k w⟩) (fun a k w => by
    rcases w with w | w
    · exact ⟨(rop_old a k w).1, (rop_old a k w).2.1, fun q => by unfold Rop at w; omega⟩
    · exact ⟨(rwk_old a k w).1, (rwk_old a k w).2, fun q => by have := w.1; omega⟩)
  obtain ⟨i1, i2, ⟨n, bt, t1, t2, t3, t4⟩, i4, i5, ⟨p1, p2, p3, k, p4, p5', p6, p7⟩, i7, i8⟩ := h
  have z0 : ∀ x : Int32, x = x + nI 0 := fun x => (Int32.add_zero x).symm
  have hq : QST M M2 := ⟨0, 0, 0, by omega, by omega, by omega, by rw [ex 1 13 (by decide) (by omega)]; exact z0 _, by rw [ex 1 14 (by decide) (by omega)]; exact z0 _, by rw [ex 47 1 (by decide) (by omega)]; exact z0 _, by rw [e49]; exact fun _ => AGK.rf, by rw [e49]; exact fun _ => ⟨AGK.rf, YHK.rf⟩, by rw [e49]; exact fun _ => ⟨AGK.rf, rfl⟩⟩
  have hO2 : OUTS M2 := ⟨by rw [ex 0 12 (by decide) (by omega), ex 47 0 (by decide) (by omega)]; exact i1.2.2.2.2.1, fun m hm => by rw [ex 45 _ (by decide) (by omega), ex 48 _ (by decide) (by omega)]; exact i1.2.2.2.2.2 m hm⟩
  refine ⟨⟨⟨hmid.1.1, hmid.1.2.1, hmid.1.2.2.1, hmid.1.2.2.2.1, hO2⟩, i2.q hq hF.1 hn, ⟨n, bt, t1, by rw [ex 11 4 (by decide) (by omega)]; exact t2, by rw [ex 47 17 (by decide) (by omega)]; exact t3, fun i hi => by rw [ex 12 i (by decide) (by omega), ex 56 i (by decide) (by omega)]; exact t4 i hi⟩, fun i hi => by rw [ex 55 i (by decide) (by omega)]; exact i4 i hi, i5.fw h78 hF (fun a k w => ⟨by have := sod_x a k w; omega, by have := sod_x a k w; omega, hht a k w⟩) (fun a k w => ⟨by have := hr4 a k w; omega, fun q => by have := q.1; have := hr4 a k w; omega⟩), ⟨by rw [ex 0 13 (by decide) (by omega), ex 47 12 (by decide) (by omega)]; exact p1, by rw [ex 0 14 (by decide) (by omega), ex 47 18 (by decide) (by omega)]; exact p2, by rw [ex 0 15 (by decide) (by omega), ex 47 46 (by decide) (by omega)]; exact p3, k, p4, by rw [ex 0 11 (by decide) (by omega)]; exact p5', by rw [ex 47 57 (by decide) (by omega)]; exact p6, fun i hi => by rw [ex 46 i (by decide) (by omega), ex 77 i (by decide) (by omega)]; exact p7 i hi⟩, hmid.2.2, hS⟩, hq⟩
/-- what odds() and likely() leave behind -/
def CHQ (c : Nat) (M M2 : Mem) : Prop := INV0 (c + 1) M2 ∧ QST M M2 ∧ CHN M2 ∧ Fw (Sod M) Rw4 M M2 ∧ mn M2 ≤ mn M + 12 ∧ mz M2 + chz M2 ≤ mz M + chz M
theorem CHQ.same {c : Nat} {M : Mem} (h : INV0 c M) (hc : CHN M) : CHQ c M M := by
  obtain ⟨a, b⟩ := h.lookW (M2 := M) Fw.rf (by omega) (h.mid.2.mono (by omega))
  exact ⟨a, b, hc, Fw.rf, by omega, Nat.le_refl _⟩
/-- both work the chances out -/
theorem both_work {c : Nat} (hc6 : c < 600) {M : Mem} (h : INV0 c M) (hc : CHN M) {l : List Nat} (hl : DL l) {n : Nat} (hn : n ≤ 3) : ∃ (M1 M2 : Mem) (T : Nat → Nat) (rp : Nat), f_X0_work M 42 (nI (rank l)) (nI n) = some (M1, 1) ∧ f_X12_parts M1 47 (nI (num l)) (nI n) = some M2 ∧ LayC M1 ∧ LayM M1 ∧ LayM M2 ∧ mR M1 42 3 = some rp ∧ RW15 M1 rp ∧ JR M1 rp T ∧ JR M2 74 T ∧ sumN T 9331 ≤ 1000000000000 ∧ CHQ c M M2 := by
  obtain ⟨m1, s1⟩ := h.mid
  obtain ⟨y, hy, h54⟩ := h.1.2.2.1.2.1.1
  obtain ⟨ru, u1, u2, u3⟩ := h.2.1.2.2.1
  obtain ⟨⟨M1, x⟩, f1, a1, a2, a3, a4, a5, a6, a7, a8, rp, a9, a10, a11⟩ := c_work m1 s1 (by omega) hy h54 hc hl hn u1 (by omega)
  simp only at a1 a2 a3 a4 a5 a6 a7 a8 a9 a10 a11
  subst a1
  obtain ⟨M2, f2, ⟨b1', b2, b3⟩, b4⟩ := r_parts a2 hy (by rw [a3]; exact h54) hl hn
  rw [a3] at b4
  have hF2 : Fw (Sod M) Rw4 M1 M2 := (b1'.fw (R := Rw4)).up (fun _ _ w => Or.inr w) (fun _ _ w => w)
  have hFa : Fw (Sod M) Rw4 M M2 := (a5.up (fun _ _ w => Or.inl w) (fun _ _ w => w)).tr hF2
  have n2 : mn M2 = mn M1 := b1'.1
  have z2 : mz M2 = mz M1 := b1'.2.1
  have spx : ∀ a k, Spr a k → a < 78 ∧ 47 ≤ a ∧ a ≠ 49 := fun a k w => by
    rcases w with w | w | w
    · unfold Srv at w; omega
    · omega
    · omega
  have s2 : SCI (300 * (c + 1)) M2 := (a4.fr a2.2.1 b1' (fun a k w => by have := spx a k w; omega)).mono (by omega)
  obtain ⟨i1, i2⟩ := h.lookW hFa (by omega) s2
  have r42 : ∀ k, mR M2 42 k = mR M1 42 k := fun k => by rw [b1'.2.2.2.2.1]
  have hcz : chz M2 = chz M1 := by
    unfold chz
    rw [r42]
  have e42 : ∀ a k, a < 47 → mI M2 a k = mI M1 a k := fun a k w => b1'.i (fun q => by have := spx a k q; omega)
  have chn2 : CHN M2 := by
    obtain ⟨rp', rl', g1, g2, g3⟩ := a8
    refine ⟨rp', rl', by rw [r42]; exact g1, by rw [r42]; exact g2, ?_⟩
    rcases g3 with ⟨q1, q2, q3⟩ | ⟨q1, q2, q3, q4⟩
    · exact Or.inl ⟨q1, q2, by rw [e42 42 6 (by omega)]; exact q3⟩
    · refine Or.inr ⟨q1.fr b1', q2.fr b1', q3, ?_⟩
      rcases q4 with q4 | ⟨l', n', y', r, ru', d1, d2, d3, d4, d5, d6, d7, d8, d9, d10, d11⟩
      · exact Or.inl (by rw [e42 42 6 (by omega)]; exact q4)
      · refine Or.inr ⟨l', n', y', r, ru', d1, d2, d3, by rw [e42 42 5 (by omega)]; exact d4, by rw [e42 42 6 (by omega)]; exact d5, by rw [e42 42 7 (by omega)]; exact d6, by rw [e42 42 8 (by omega)]; exact d7, by rw [e42 1 13 (by omega)]; exact d8, d9, d10, fun e => ?_⟩
        rw [b3]
        exact (d11 e).fr b1' (fun i w => by have := spx _ _ w; have := q1.1; omega)
  exact ⟨M1, M2, PRT (mI M 49) y l n, rp, f1, f2, a2.1.1, a2.1.2.1, b2.1.2.1, a9, a10, a11, b4, PRT_sum h.1.2.2.1.1 hl n, i1, i2, chn2, hFa, by omega, by omega⟩
