/-! ORDERS: the reference goes along a CLAUSE, how it is born -/
def Sgb (a k : Nat) : Prop := a = 76 ∨ (a = 47 ∧ (k = 26 ∨ k = 28 ∨ k = 50 ∨ k = 52 ∨ k = 53 ∨ k = 54))
theorem gaSel {c kind : Nat} (h : c = 267 + kind) (hk : kind ≤ 4) (f : Int32 → Option Mem) : (if nI (rc c) = 20 then f 0 else (if nI (rc c) = 24 then f 1 else (if nI (rc c) = 21 then f 2 else (if nI (rc c) = 22 then f 3 else f 4)))) = f (nI kind) := by
  subst h
  match kind, hk with
  | 0, _ => rw [show nI (rc (267 + 0)) = 20 from by decide, if_pos rfl]; rfl
  | 1, _ => rw [show nI (rc (267 + 1)) = 24 from by decide, if_neg (by decide), if_pos rfl]; rfl
  | 2, _ => rw [show nI (rc (267 + 2)) = 21 from by decide, if_neg (by decide), if_neg (by decide), if_pos rfl]; rfl
  | 3, _ => rw [show nI (rc (267 + 3)) = 22 from by decide, if_neg (by decide), if_neg (by decide), if_neg (by decide), if_pos rfl]; rfl
  | 4, _ => rw [show nI (rc (267 + 4)) = 23 from by decide, if_neg (by decide), if_neg (by decide), if_neg (by decide), if_neg (by decide)]; rfl
noncomputable def gaX (a0 : Nat) (p2 : Int32) (s167 : Mem) : Option Mem := bv (wI s167 a0 26 ((mI s167 a0 26) + 1)) (fun M171 => Option.bind (f_X12_nextSum M171 a0 2 p2) (fun q175 => gaC a0 p2 q175))
noncomputable def gaY (a0 : Nat) (p2 : Int32) (M154 : Mem) (s159 : Int32) : Option Mem := bv (wI M154 a0 52 s159) (fun M162 => bv (gaX a0 p2) (fun j166 => if (mI M162 a0 52) = 1 then (Option.bind (f_X12_nextSum M162 a0 1 p2) (fun q180 => j166 q180)) else (j166 M162)))
theorem r_gaX {M : Mem} {T : Nat → Nat} {len B k k3 k2 times : Nat} {W : Nat → Int32} {pl : (Nat → Int32) → Option Int} {tv : (Nat → Int32) → Option Bool} (hT : ∀ j, len ≤ j → T j = 256) (hE : RE M T len true B W) (hp : RSV (f_X12_sumOf 100) T len true (k + 1) k3 pl) (hk3 : k3 ≤ len) (hr : RTMo T len k3 k2 times tv) (hg : mI M 47 26 = nI (B + k)) {s : Bool} (h53 : mI M 47 53 = b1 s) (live : Bool) : TT (gaX 47 (b1 live) M) (fun M1 => Fr (fun a k => Sga a k ∨ Sns a k) M M1 ∧ mI M1 47 26 = nI (B + k2 + 1) ∧ mI M1 47 50 = nI times ∧ (∃ t, mI M1 47 54 = b1 t ∧ (live = true → (t = true ↔ tv W = some true))) ∧ (∀ i, i ≠ 2 → mJ M1 76 i = mJ M 76 i) ∧ (∃ s', mI M1 47 53 = b1 s' ∧ (live = true → s' = (s && (pl W).isSome))) ∧ (live = true → ∀ v, pl W = some v → mJ M1 76 2 = jj v)) := by
  unfold gaX
  rw [TT_bv, hg, nsucc]
  have f0 : Fr (fun a k => a = 47 ∧ k = 26) M (wI M 47 26 (nI (B + k + 1))) := Fr.rf.wI ⟨rfl, rfl⟩
  have e26 : mI (wI M 47 26 (nI (B + k + 1))) 47 26 = nI (B + (k + 1)) := mI_wIs
  have eJ : mJ (wI M 47 26 (nI (B + k + 1))) = mJ M := mJ_wI
  generalize wI M 47 26 (nI (B + k + 1)) = M2 at f0 e26 eJ
  have hE2 := hE.frO f0 (fun a k w => by omega)
  rw [TT_bind, show (2 : Int32) = nI 2 from rfl]
  refine (r_nextSum hE2 hp e26 (by rw [f0.i (by omega)]; exact h53) (j := 2) (by omega) live).mono ?_
  rintro M3 ⟨f3, hE3, g3, i3, s', h53', hs'⟩
  have fA : Fr (fun a k => Sga a k ∨ Sns a k) M M3 := (f0.up (fun a k w => Or.inl ⟨w.1, Or.inl w.2⟩)).tr (f3.up (fun a k w => Or.inr w))
  refine (r_gaC hT hE3 hk3 hr g3 live).mono ?_
  rintro M4 ⟨f4, g4, h50, t, h54, ht⟩
  have j4 : ∀ i, mJ M4 76 i = mJ M3 76 i := fun i => f4.j (by unfold Sga; omega)
  refine ⟨fA.tr (f4.up (fun a k w => Or.inl w)), g4, h50, ⟨t, h54, ht⟩, fun i hi => by rw [j4, i3 i hi, eJ], ⟨s', by rw [f4.i (by unfold Sga; omega)]; exact h53', fun hl => (hs' hl).1⟩, fun hl v hv => by rw [j4]; exact (hs' hl).2 v hv⟩
theorem r_gaB {M : Mem} {T : Nat → Nat} {len B k k3 k2 times kind : Nat} {W : Nat → Int32} {th pl : (Nat → Int32) → Option Int} {tv : (Nat → Int32) → Option Bool} (hT : ∀ j, len ≤ j → T j = 256) (hE : RE M T len true B W) (hk : k ≤ len) (hh : RHW T len k k3 kind th pl) (hk3 : k3 ≤ len) (hr : RTMo T len k3 k2 times tv) (hg : mI M 47 26 = nI (B + k)) (h51 : mI M 47 51 = 19) {s : Bool} (h53 : mI M 47 53 = b1 s) (live : Bool) : TT (gaB 47 (b1 live) M) (fun M1 => Fr Sgb M M1 ∧ mI M1 47 26 = nI (B + k2 + 1) ∧ mI M1 47 50 = nI times ∧ (∃ t, mI M1 47 54 = b1 t ∧ (live = true → (t = true ↔ tv W = some true))) ∧ mI M1 47 52 = nI kind ∧ mJ M1 76 0 = mJ M 76 0 ∧ (kind ≠ 1 → mJ M1 76 1 = mJ M 76 1) ∧ (∃ s', mI M1 47 53 = b1 s' ∧ (live = true → s' = (s && (if kind = 1 then (th W).isSome else true) && (pl W).isSome))) ∧ (live = true → (kind = 1 → ∀ v, th W = some v → mJ M1 76 1 = jj v) ∧ ∀ v, pl W = some v → mJ M1 76 2 = jj v)) := by
  obtain ⟨a1, a2, a3, a4⟩ := hh
  have hkl : k < len := Nat.lt_of_not_le (fun z => by have := hT k z; omega)
  have eT : T k = 267 + kind := by clear a4; omega
  have hk4 : kind ≤ 4 := by clear a4; omega
  unfold gaB
  rw [h51, if_pos rfl, hg, r_codeAt hT hE hk, Option.bind_some, TT_bv, TT_bv, nsucc]
  refine (show TT (if nI (rc (T k)) = 20 then gaY 47 (b1 live) (wI M 47 26 (nI (B + k + 1))) 0 else (if nI (rc (T k)) = 24 then gaY 47 (b1 live) (wI M 47 26 (nI (B + k + 1))) 1 else (if nI (rc (T k)) = 21 then gaY 47 (b1 live) (wI M 47 26 (nI (B + k + 1))) 2 else (if nI (rc (T k)) = 22 then gaY 47 (b1 live) (wI M 47 26 (nI (B + k + 1))) 3 else gaY 47 (b1 live) (wI M 47 26 (nI (B + k + 1))) 4)))) _ from ?_)
  rw [gaSel eT hk4 (gaY 47 (b1 live) (wI M 47 26 (nI (B + k + 1))))]
  unfold gaY
  rw [TT_bv]
  have f0 : Fr Sgb M (wI (wI M 47 26 (nI (B + k + 1))) 47 52 (nI kind)) := (Fr.rf.wI (Or.inr ⟨rfl, by omega⟩)).wI (Or.inr ⟨rfl, by omega⟩)
  have e26 : mI (wI (wI M 47 26 (nI (B + k + 1))) 47 52 (nI kind)) 47 26 = nI (B + (k + 1)) := by rw [mI_wI_ne (by omega), mI_wIs]; rfl
  have e52 : mI (wI (wI M 47 26 (nI (B + k + 1))) 47 52 (nI kind)) 47 52 = nI kind := mI_wIs
  have e53 : mI (wI (wI M 47 26 (nI (B + k + 1))) 47 52 (nI kind)) 47 53 = b1 s := by rw [mI_wI_ne (by omega), mI_wI_ne (by omega)]; exact h53
  have eJ : mJ (wI (wI M 47 26 (nI (B + k + 1))) 47 52 (nI kind)) = mJ M := by rw [mJ_wI, mJ_wI]
  generalize wI (wI M 47 26 (nI (B + k + 1))) 47 52 (nI kind) = M2 at f0 e26 e52 e53 eJ
  have hE2 := hE.frO f0 (fun a k w => by unfold Sgb at w; omega)
  rw [e52, TT_bv]
  have xb : ∀ a k, Sga a k ∨ Sns a k → Sgb a k := fun a k w => by unfold Sga Sns Sgo at w; unfold Sgb; omega
  rcases a4 with ⟨c1, c2, j, c3, c4, c5, c6, c7⟩ | ⟨c1, c2, c3, c4⟩
  · rw [if_pos (by rw [c1]; rfl), TT_bind, show (1 : Int32) = nI 1 from rfl]
    refine (r_nextSum hE2 c4 e26 e53 (j := 1) (by omega) live).mono ?_
    rintro M3 ⟨f3, hE3, g3, i3, s', h53', hs'⟩
    refine (show TT (gaX 47 (b1 live) M3) _ from r_gaX hT hE3 c7 hk3 hr g3 h53' live).mono ?_
    rintro M4 ⟨f4, g4, h50, ht, i4, ⟨s2, h53s, hs2⟩, hp⟩
    refine ⟨(f0.tr (f3.up (fun a k w => xb a k (Or.inr w)))).tr (f4.up xb), g4, h50, ht, ?_, by rw [i4 0 (by omega), i3 0 (by omega), eJ], fun q => absurd c1 q, ⟨s2, h53s, fun hl => ?_⟩, fun hl => ⟨fun _ v hv => by rw [i4 1 (by omega)]; exact (hs' hl).2 v hv, hp hl⟩⟩
    · rw [f4.i (by unfold Sga Sns Sgo; omega), f3.i (by unfold Sns Sgo; omega)]
      exact e52
    · rw [hs2 hl, (hs' hl).1, if_pos c1]
  · rw [if_neg (show ¬ nI kind = 1 from fun q => c1 ((neqI (by omega) (by omega)).mp (show nI kind = nI 1 from q)))]
    refine (show TT (gaX 47 (b1 live) M2) _ from r_gaX hT hE2 c4 hk3 hr e26 e53 live).mono ?_
    rintro M4 ⟨f4, g4, h50, ht, i4, ⟨s2, h53s, hs2⟩, hp⟩
    refine ⟨f0.tr (f4.up xb), g4, h50, ht, ?_, by rw [i4 0 (by omega), eJ], fun _ => by rw [i4 1 (by omega), eJ], ⟨s2, h53s, fun hl => ?_⟩, fun hl => ⟨fun q => absurd q c1, hp hl⟩⟩
    · rw [f4.i (by unfold Sga Sns Sgo; omega)]
      exact e52
    · rw [hs2 hl, if_neg c1, Bool.and_true]
