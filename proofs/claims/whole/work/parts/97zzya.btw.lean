/-! what lies between: the class -/
theorem nv_lt : ∀ r s : List Nat, r.length = s.length → (∀ d, d ∈ r → d < 6) → (∀ d, d ∈ s → d < 6) → ((nr r < nr s ↔ vr r < vr s) ∧ (nr s < nr r ↔ vr s < vr r))
  | [], [], _, _, _ => by simp [nr, vr]
  | [], _ :: _, h, _, _ => by simp at h
  | _ :: _, [], h, _, _ => by simp at h
  | a :: r, b :: s, h, h1, h2 => by
    have ih := nv_lt r s (by simpa using h) (fun d hd => h1 d (List.mem_cons_of_mem _ hd)) (fun d hd => h2 d (List.mem_cons_of_mem _ hd))
    have ha := h1 a List.mem_cons_self
    have hb := h2 b List.mem_cons_self
    simp only [nr, vr]
    omega
theorem rank_num {l l2 : List Nat} (h : DL l) (h2 : DL l2) : num l < num l2 ↔ rank l < rank l2 := by
  have key : ∀ a b : List Nat, DD a → DD b → a.length < b.length → nr a < nr b ∧ rk a < rk b := fun a b ha hb hlt => by
    constructor
    · have h1 := nr_lt a ha.2
      have hne : b ≠ [] := fun q => by rw [q] at hlt; simp at hlt
      have h2 := nr_ge b hne
      have h3 : 10 ^ a.length ≤ 10 ^ (b.length - 1) := Nat.pow_le_pow_right (by omega) (by omega)
      have h4 : 0 < 10 ^ a.length := Nat.pow_pos (by omega)
      omega
    · have h1 := vr_lt a ha.2
      have h2 := pw6 (n := a.length) ha.1
      have h3 := stN_mono (a := a.length + 1) (b := b.length) (by omega) (by have := hb.1; omega)
      unfold rk
      omega
  show nr l.reverse < nr l2.reverse ↔ rk l.reverse < rk l2.reverse
  rcases Nat.lt_trichotomy l.reverse.length l2.reverse.length with w | w | w
  · have := key _ _ h.rev h2.rev w
    exact ⟨fun _ => this.2, fun _ => this.1⟩
  · have := (nv_lt _ _ w h.rev.2 h2.rev.2).1
    unfold rk
    rw [w]
    omega
  · have := key _ _ h2.rev h.rev w
    exact ⟨fun q => by omega, fun q => by omega⟩
theorem numR_lt {p q : Nat} (hp : p < 9331) (hq : q < 9331) : num (dR p) < num (dR q) ↔ p < q := by
  rw [rank_num (dR_v hp).1 (dR_v hq).1, (dR_v hp).2, (dR_v hq).2]
theorem srt_lt {E : List Nat} (h : E.Pairwise (· < ·)) {i j a b : Nat} (hi : E[i]? = some a) (hj : E[j]? = some b) (hij : i < j) : a < b := by
  obtain ⟨h1, e1⟩ := List.getElem?_eq_some_iff.mp hi
  obtain ⟨h2, e2⟩ := List.getElem?_eq_some_iff.mp hj
  rw [← e1, ← e2]
  exact List.pairwise_iff_getElem.mp h i j h1 h2 hij
theorem srt_ix {E : List Nat} (h : E.Pairwise (· < ·)) {i j a b : Nat} (hi : E[i]? = some a) (hj : E[j]? = some b) (hab : a < b) : i < j := by
  rcases Nat.lt_trichotomy i j with w | w | w
  · exact w
  · subst w
    rw [hi] at hj
    cases hj
    omega
  · have := srt_lt h hj hi w
    omega
theorem enum_le : ∀ (L : List Nat) (E : List Nat), E.Nodup → (∀ q, q ∈ E → q ∈ L) → E.length ≤ L.length
  | [], E, _, h => by
    cases E with
    | nil => exact Nat.le_refl _
    | cons a E => exact absurd (h a List.mem_cons_self) (by simp)
  | c :: L, E, hn, h => by
    have ih := enum_le L (E.erase c) (hn.erase c) (fun q hq => by
      rw [hn.mem_erase_iff] at hq
      rcases List.mem_cons.mp (h q hq.2) with w | w
      · exact absurd w hq.1
      · exact w)
    rw [List.length_erase] at ih
    rw [List.length_cons]
    split at ih <;> omega
/-- E holds, in order, all that were made and from which it is one STEP -/
def ENB (M : Mem) (d : Nat) (L : List (List Nat × Nat)) (E : List Nat) : Prop := E.Pairwise (· < ·) ∧ ∀ q, q ∈ E ↔ ((∃ c, c ∈ L ∧ rank c.1 = q) ∧ mI M (d + 1) q = 1)
def prv (E : List Nat) : Nat → Option Nat
  | 0 => none
  | k + 1 => E[k]?
theorem low_nth {M : Mem} {d : Nat} {L : List (List Nat × Nat)} {E : List Nat} (hE : ENB M d L E) {k : Nat} (hk : k ≤ E.length) {o : Option Nat} (ho : LOW L (fun r => (∀ a, prv E k = some a → a < r) ∧ mI M (d + 1) r = 1) o) : o = E[k]? := by
  obtain ⟨hs, hm⟩ := hE
  have hab : ∀ j b, E[j]? = some b → (∀ a, prv E k = some a → a < b) → k ≤ j := fun j b hj ha => by
    cases k with
    | zero => omega
    | succ k =>
      have hkl : k < E.length := by omega
      have := srt_ix hs (List.getElem?_eq_getElem hkl) hj (ha _ (List.getElem?_eq_getElem hkl))
      omega
  have inE : ∀ b, o = some b → ∃ j, E[j]? = some b ∧ k ≤ j := fun b hb => by
    obtain ⟨h1, h2, h3⟩ := ho.2 b hb
    obtain ⟨j, hj, ej⟩ := List.getElem_of_mem ((hm b).mpr ⟨h1, h3⟩)
    have e : E[j]? = some b := by rw [List.getElem?_eq_getElem hj, ej]
    exact ⟨j, e, hab j b e h2⟩
  cases hEk : E[k]? with
  | none =>
    cases o with
    | none => rfl
    | some b =>
      obtain ⟨j, h1, h2⟩ := inE b rfl
      have := (List.getElem?_eq_some_iff.mp h1).1
      rw [List.getElem?_eq_none_iff] at hEk
      omega
  | some b =>
    obtain ⟨⟨c, hc, hcr⟩, h2⟩ := (hm b).mp (List.mem_of_getElem? hEk)
    obtain ⟨b', h3, h4⟩ := ho.1 c hc ⟨fun a ha => by
      rw [hcr]
      cases k with
      | zero => cases ha
      | succ k => exact srt_lt hs ha hEk (by omega), by rw [hcr]; exact h2⟩
    obtain ⟨j, h5, h6⟩ := inE b' h3
    rw [h3]
    rcases Nat.eq_or_lt_of_le h6 with w | w
    · rw [← w, hEk] at h5
      exact h5.symm
    · have := srt_lt hs hEk h5 w
      omega
noncomputable def bw0 (q53 : Mem) (a0 d : Nat) (p2 : Int32) : Int32 × Int32 × Int32 → Option ((Int32 × Int32 × Int32) ⊕ (Int32 × Int32)) := (fun s64 => Option.bind (mR q53 a0 5) (fun r72 => grd (okO q53 1 r72) (if (mI q53 r72 5) ≤ s64.2.2 then (some (.inr (s64.1, s64.2.1))) else (if s64.1 = (-1) then (some (.inr (s64.1, s64.2.1))) else (if s64.2.1 = p2 then (some (.inr (s64.1, s64.2.1))) else (bv (s64.2.1 + 1 : Int32) (fun x74 => Option.bind (mR q53 a0 5) (fun r75 => grd (okO q53 1 r75) (Option.bind (f_X1_lowestMade q53 r75 s64.1 d 1) (fun q77 => bv (s64.2.2 + 1 : Int32) (fun x80 => some (.inl (q77, x74, x80)))))))))))))
/-- what between() answers: the number of them, or the one in its place -/
noncomputable def btA (E : List Nat) (p2 : Int32) : Int32 := if p2 = -1 then nI E.length else (match E[p2.toNatClampNeg]? with
  | none => -1
  | some r => nI (num (dR r)))
theorem c_bw0 {M : Mem} (h : MID M) {L : List (List Nat × Nat)} (hL : MADE M L) (hlen : L.length ≤ 45) (hd : ∀ c, c ∈ L → DL c.1) {d : Nat} (hT : TB M d) {E : List Nat} (hE : ENB M d L E) {p2 : Int32} (hp2 : -1 ≤ p2) : TT (Option.bind (f_X1_lowestMade M 26 (-1) d 1) (fun q61 => Option.bind (loopO (bw0 M 0 d p2) (q61, 0, 0)) (fun (x70 : Int32 × Int32) => if p2 = (-1) then (some (M, x70.2)) else (Option.bind (f_X6_numberOf x70.1) (fun q81 => some (M, q81)))))) (fun q => q = (M, btA E p2)) := by
  obtain ⟨a1, a2, a3, a4, a5, a6, a7⟩ := lay0 h
  have h9 : ∀ q, q ∈ E → q < 9331 := fun q hq => by
    obtain ⟨⟨c, hc, hr⟩, _⟩ := (hE.2 q).mp hq
    rw [← hr]
    exact rank_lt (hd c hc)
  have hnd : E.Nodup := hE.1.imp (fun q => by omega)
  have hEL : E.length ≤ L.length := by
    have := enum_le (L.map (fun c => rank c.1)) E hnd (fun q hq => by
      obtain ⟨⟨c, hc, hr⟩, _⟩ := (hE.2 q).mp hq
      exact List.mem_map.mpr ⟨c, hc, hr⟩)
    rw [List.length_map] at this
    exact this
  have hp : ∀ k, ∀ a, prv E k = some a → a < 9331 := fun k a ha => by
    cases k with
    | zero => cases ha
    | succ k => exact h9 a (List.mem_of_getElem? ha)
  have low : ∀ k, k ≤ E.length → f_X1_lowestMade M 26 (oI (prv E k)) d 1 = some (oI E[k]?) := fun k hk => by
    obtain ⟨o, e1, e2, e3⟩ := c_lowest h hL hlen hd hT (ab := prv E k) (hp k) (p3 := 1)
    rw [e1, low_nth hE hk e3]
  rw [show (-1 : Int32) = oI (prv E 0) from rfl, low 0 (Nat.zero_le _), Option.bind_some, TT_bind]
  have hob : ∀ k v, E[k]? = some v → v < 2147483648 := fun k v hv => by have := h9 v (List.mem_of_getElem? hv); omega
  have key : TT (loopO (bw0 M 0 d p2) (oI E[0]?, 0, 0)) (fun z => ∃ t, t ≤ E.length ∧ z = (oI E[t]?, nI t) ∧ (∀ m, m < t → nI m ≠ p2) ∧ (t = E.length ∨ nI t = p2)) := by
    refine TT_for L.length (fun t s => t ≤ E.length ∧ s = (oI E[t]?, nI t, nI t) ∧ ∀ m, m < t → nI m ≠ p2) ?_ (Nat.zero_le _) ⟨Nat.zero_le _, rfl, fun m hm => by omega⟩
    rintro t s ht ⟨htE, rfl, hm⟩
    unfold bw0
    simp only
    rw [a3, Option.bind_some, grd_y a6, hL.1]
    by_cases w : t = L.length
    · rw [if_pos ((nleI (by omega) (by omega)).mpr (by omega)), TT_some]
      exact ⟨t, htE, rfl, hm, Or.inl (by omega)⟩
    · rw [if_neg (fun q => w (by have := (nleI (by omega) (by omega)).mp q; omega))]
      by_cases w2 : t = E.length
      · have : E[t]? = none := List.getElem?_eq_none_iff.mpr (by omega)
        rw [if_pos (by rw [this]; rfl), TT_some]
        exact ⟨t, htE, rfl, hm, Or.inl w2⟩
      · have hlt : t < E.length := by omega
        have hv := hob t _ (List.getElem?_eq_getElem hlt)
        rw [if_neg (by rw [List.getElem?_eq_getElem hlt]; exact neg1_nI hv)]
        by_cases w3 : nI t = p2
        · rw [if_pos w3, TT_some]
          exact ⟨t, htE, rfl, hm, Or.inr w3⟩
        · rw [if_neg w3, TT_bv, Option.bind_some, grd_y a6, show oI E[t]? = oI (prv E (t + 1)) from rfl, low (t + 1) hlt, Option.bind_some, TT_bv, TT_some]
          refine ⟨by omega, hlt, by rw [nsucc], fun m hm' => ?_⟩
          by_cases z : m = t
          · rw [z]; exact w3
          · exact hm m (by omega)
  refine key.mono ?_
  rintro z ⟨t, htE, rfl, hm, hend⟩
  unfold btA
  simp only
  by_cases w : p2 = oI (prv E 0)
  · rw [if_pos w, if_pos (show p2 = -1 from w), TT_some]
    rcases hend with q | q
    · rw [q]
    · exact absurd (q.trans w) (neg1_nI (by omega))
  · rw [if_neg w, if_neg (show ¬ p2 = -1 from w)]
    have h0 : 0 ≤ p2 := by
      rw [Int32.le_iff_toInt_le] at hp2 ⊢
      have e1 : (-1 : Int32).toInt = -1 := by decide
      have e0 : (0 : Int32).toInt = 0 := by decide
      rw [e1] at hp2
      rw [e0]
      have : p2.toInt ≠ -1 := fun q => w (Int32.toInt_inj.mp (by rw [q]; exact e1.symm))
      omega
    obtain ⟨ii, rfl, hii⟩ := nat_of h0
    rw [nclampI hii]
    have he : E[ii]? = E[t]? := by
      rcases hend with q | q
      · have : ¬ ii < t := fun z => hm ii z rfl
        rw [List.getElem?_eq_none_iff.mpr (by omega), List.getElem?_eq_none_iff.mpr (by omega)]
      · rw [(neqI (by omega) hii).mp q]
    rw [he]
    cases hE' : E[t]? with
    | none =>
      rw [show oI none = -1 from rfl, p_numberOf_m1, Option.bind_some, TT_some]
    | some r =>
      rw [show oI (some r) = nI r from rfl, numR (h9 r (List.mem_of_getElem? hE')), Option.bind_some, TT_some]
