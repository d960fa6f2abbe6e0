/-! rows of PARTS, of TERMS: what both machines make of them -/
def CodeAt (C : Nat → Nat) (L u : Nat) (seg : List Nat) : Prop := ∀ i v, seg[i]? = some v → C (u + i) = v ∧ u + i < L
theorem CodeAt.app {C : Nat → Nat} {L u : Nat} {a b : List Nat} (h : CodeAt C L u (a ++ b)) : CodeAt C L u a ∧ CodeAt C L (u + a.length) b := by
  refine ⟨fun i v hi => h i v ?_, fun i v hi => ?_⟩
  · rw [List.getElem?_append_left (List.getElem?_eq_some_iff.mp hi).1]
    exact hi
  · have := h (a.length + i) v (by rw [List.getElem?_append_right (by omega), Nat.add_sub_cancel_left]; exact hi)
    rw [Nat.add_assoc]
    exact this
theorem CodeAt.one {C : Nat → Nat} {L u o : Nat} (h : CodeAt C L u [o]) : C u = o ∧ u < L := h 0 o rfl
theorem CodeAt.cons {C : Nat → Nat} {L u o : Nat} {b : List Nat} (h : CodeAt C L u (o :: b)) : C u = o ∧ u < L ∧ CodeAt C L (u + 1) b := by
  have h1 := CodeAt.app (a := [o]) (b := b) h
  exact ⟨h1.1.one.1, h1.1.one.2, h1.2⟩
def VB (val : (Nat → Int32) → Option Int) : Prop := ∀ W v, val W = some v → S32 v
def tI (W : Nat → Int32) (i : Nat) : Int := (W i).toInt
def JV (u p0 p : Nat) (acc : List Nat) (val : (Nat → Int32) → Option Int) : Prop := VB val ∧ ∀ C L W, CodeAt C L u acc → EVM C L (tI W) u (u + acc.length) (p - p0) (val W)
def JP (F : Mem → Nat → Int32 → Option (Mem × Int64)) (T : Nat → Nat) (len : Nat) (ord : Bool) (f : PF3) : Prop := ∀ k p u x, p ≤ 50 → k ≤ len → f k p u = .inr x → ∃ val, JV u p x.2.1 x.2.2 val ∧ RSV F T len ord k x.1 val
def BSTEP (bd : Bool → Mem × Int64 → Option ((Mem × Int64) ⊕ (Mem × Int64))) (F : Mem → Nat → Int32 → Option (Mem × Int64)) (op : Nat → Option Nat) (T : Nat → Nat) (len : Nat) (ord : Bool) : Prop := ∀ M B W live k (v0 : Option Int) s, RE M T len ord B W → (mI M 47 28 = 0 ∨ mI M 47 28 = 1) → k ≤ len → (∀ x, v0 = some x → S32 x) → RG M live B k v0 s → (op (T k) = none → bd live s = some (.inr s)) ∧ ∀ o k2 valy, op (T k) = some o → VB valy → RSV F T len ord (k + 1) k2 valy → TT (bd live s) (fun r => ∃ s', r = .inl s' ∧ RG M live B k2 (v0.bind (fun a => (valy W).bind (fun b => ap o a b))) s')
section
variable {T : Nat → Nat} {len : Nat} {ord : Bool}
theorem JL_seq (hT : ∀ j, len ≤ j → T j = 256) (hlen : len ≤ 400) {bd : Bool → Mem × Int64 → Option ((Mem × Int64) ⊕ (Mem × Int64))} {F : Mem → Nat → Int32 → Option (Mem × Int64)} {op : Nat → Option Nat} (ho : op 256 = none) (hoo : ∀ t o, op t = some o → 3 ≤ o ∧ o ≤ 10) {sub : PF3} (hs : JP F T len ord sub) (hg : GD len sub) (hb : BSTEP bd F op T len ord) {u p0 : Nat} : ∀ n k p acc x, 401 ≤ n + k → k ≤ len → p0 < p → p ≤ 50 → lpS T sub op u n k p acc = .inr x → ∀ val0, JV u p0 p acc val0 → ∃ val, JV u p0 x.2.1 x.2.2 val ∧ ∀ M B W live s, RE M T len ord B W → (mI M 47 28 = 0 ∨ mI M 47 28 = 1) → RG M live B k (val0 W) s → TT (loopO (bd live) s) (RG M live B x.1 (val W)) := by
  intro n
  induction n with
  | zero =>
    intro k p acc x hn hk hp hp5 hx val0 hv
    cases hx
    refine ⟨val0, hv, fun M B W live s hE hbr hR => ?_⟩
    obtain ⟨h1, -⟩ := hb M B W live k (val0 W) s hE hbr hk (fun x hx => hv.1 W x hx) hR
    rw [loopO_eq, h1 (by rw [hT k (by omega)]; exact ho)]
    exact ⟨s, rfl, hR⟩
  | succ n ih =>
    intro k p acc x hn hk hp hp5 hx val0 hv
    rw [lpS] at hx
    cases hop : op (T k) with
    | none =>
      rw [hop] at hx
      cases hx
      refine ⟨val0, hv, fun M B W live s hE hbr hR => ?_⟩
      obtain ⟨h1, -⟩ := hb M B W live k (val0 W) s hE hbr hk (fun x hx => hv.1 W x hx) hR
      rw [loopO_eq, h1 hop]
      exact ⟨s, rfl, hR⟩
    | some o =>
      rw [hop] at hx
      simp only at hx
      have hkl : k < len := lt_of_T hT (t := T k) rfl (fun e => by rw [e, ho] at hop; cases hop)
      cases hsub : sub (k + 1) p (u + acc.length) with
      | inl j =>
        rw [hsub] at hx
        cases hx
      | inr y =>
        rw [hsub] at hx
        simp only at hx
        have g := hg (k + 1) p (u + acc.length) hp5 hkl
        rw [hsub] at g
        obtain ⟨g1, g2, g3, g4, g5, g6⟩ := g
        obtain ⟨valy, hvy, hry⟩ := hs (k + 1) p (u + acc.length) y hp5 hkl hsub
        have hv1 : JV u p0 y.2.1 (acc ++ y.2.2 ++ [o]) (fun W => (val0 W).bind (fun a => (valy W).bind (fun b => ap o a b))) := by
          refine ⟨fun W v hv => ?_, fun C L W hC => ?_⟩
          · obtain ⟨a, _, hv⟩ := Option.bind_eq_some_iff.mp hv
            obtain ⟨b, _, hv⟩ := Option.bind_eq_some_iff.mp hv
            exact ap_S hv
          · obtain ⟨c1, c2⟩ := hC.app
            obtain ⟨c3, c4⟩ := c1.app
            obtain ⟨c5, c6⟩ := c2.one
            rw [List.length_append, ← Nat.add_assoc] at c5 c6
            have := EVM_bin (hv.2 C L W c3) (hvy.2 C L W c4) (by omega) c6 c5 (hoo _ _ hop)
            rw [List.length_append, List.length_append, List.length_singleton, show y.2.1 - p0 = p - p0 + (y.2.1 - p) by omega, ← Nat.add_assoc, ← Nat.add_assoc]
            exact this
        obtain ⟨val, hv2, hl⟩ := ih y.1 y.2.1 _ x (by omega) g2 (by omega) g4 hx _ hv1
        refine ⟨val, hv2, fun M B W live s hE hbr hR => ?_⟩
        obtain ⟨-, h2⟩ := hb M B W live k (val0 W) s hE hbr hk (fun x hx => hv.1 W x hx) hR
        obtain ⟨r, hr, s', rfl, hR'⟩ := h2 o y.1 valy hop hvy.1 hry
        rw [loopO_eq, hr]
        exact hl M B W live s' hE hbr hR'
theorem JP_seq (hT : ∀ j, len ≤ j → T j = 256) (hlen : len ≤ 400) {bd : Bool → Mem × Int64 → Option ((Mem × Int64) ⊕ (Mem × Int64))} {F F2 : Mem → Nat → Int32 → Option (Mem × Int64)} {op : Nat → Option Nat} (ho : op 256 = none) (hoo : ∀ t o, op t = some o → 3 ≤ o ∧ o ≤ 10) {sub : PF3} (hs : JP F T len ord sub) (hg : GD len sub) (hb : BSTEP bd F op T len ord) (h2 : ∀ M live, LayM M → F2 M 47 (b1 live) = Option.bind (F M 47 (b1 live)) (fun q2 => Option.bind (loopO (bd live) (q2.1, q2.2)) (fun x => some (x.1, x.2)))) : JP F2 T len ord (pSeq T sub op) := by
  intro k p u x hp hk hx
  unfold pSeq at hx
  cases hsub : sub k p u with
  | inl j =>
    rw [hsub] at hx
    cases hx
  | inr y =>
    rw [hsub] at hx
    simp only at hx
    have g := hg k p u hp hk
    rw [hsub] at g
    obtain ⟨g1, g2, g3, g4, g5, g6⟩ := g
    obtain ⟨valy, hvy, hry⟩ := hs k p u y hp hk hsub
    obtain ⟨val, hv, hl⟩ := JL_seq hT hlen ho hoo hs hg hb 400 y.1 y.2.1 y.2.2 x (by omega) g2 g3 g4 hx valy hvy
    refine ⟨val, hv, fun M B W hE hgo hbr live => ?_⟩
    rw [h2 M live hE.1, TT_bind]
    refine (hry M B W hE hgo hbr live).mono ?_
    intro q hq
    rw [TT_bind]
    refine (hl M B W live q hE hbr hq).mono ?_
    intro q2 hq2
    rw [TT_some]
    exact hq2
def bnd (z : Int) : Option Int := if 1000000000 < z ∨ z < -1000000000 then none else some z
theorem tm_fin {M M3 : Mem} {live : Bool} {B k2 : Nat} {z : Int} {val : Option Int} (hM : LayM M) (hF : Fr Sgo M M3) (hgo : mI M3 47 26 = nI (B + k2)) (hb3 : mI M3 47 28 = 0 ∨ mI M3 47 28 = 1) (hz : R64 z) (H : (live = true ∧ mI M 47 28 = 0 ∧ mI M3 47 28 = 0 ∧ val = bnd z) ∨ (mI M3 47 28 = 1 ∧ (live = true → mI M 47 28 = 0 → val = none) ∧ (¬ (live = true ∧ mI M 47 28 = 0) → mI M 47 28 = 1)) ∨ (¬ (live = true ∧ mI M 47 28 = 0) ∧ mI M3 47 28 = mI M 47 28 ∧ z = 0)) : ∃ q, f_X12_bounded M3 47 (jj z) (b1 live) = some q ∧ RG M live B k2 val q := by
  have n01 : ¬ (1 : Int32) = 0 := by decide
  have hd : ¬ (live = true ∧ mI M3 47 28 = 0) → mI M3 47 28 = 1 ∨ z = 0 := by
    intro w
    rcases H with ⟨h1, h2, h3, h4⟩ | ⟨h1, h2, h3⟩ | ⟨h1, h2, h3⟩
    · exact absurd ⟨h1, h3⟩ w
    · exact Or.inl h1
    · exact Or.inr h3
  obtain ⟨q, hq, q1, q2, q3⟩ := r_bounded (hM.fr hF) hb3 hz hd
  refine ⟨q, hq, hF.tr q1, by rw [q2]; exact hgo, ?_⟩
  unfold RQ at q3 ⊢
  rcases H with ⟨h1, h2, h3, h4⟩ | ⟨h1, h2, h3⟩ | ⟨h1, h2, h3⟩
  · rw [if_pos ⟨h1, h3⟩] at q3
    rw [if_pos ⟨h1, h2⟩, h4]
    exact q3
  · rw [if_neg (fun w => by rw [h1] at w; exact n01 w.2), h1] at q3
    by_cases w : live = true ∧ mI M 47 28 = 0
    · rw [if_pos w, h2 w.1 w.2]
      exact q3
    · rw [if_neg w, h3 w]
      exact q3
  · rw [if_neg (fun w => h1 ⟨w.1, by rw [← h2]; exact w.2⟩), h2] at q3
    rw [if_neg h1]
    exact q3
end
