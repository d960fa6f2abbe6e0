/-! a dish with one thing left out -/
def lft (x : Nat) (l : List Nat) : List Nat := l.filter (fun d => d != x)
theorem lft_DL {x : Nat} {l : List Nat} (hl : DL l) : DL (lft x l) := ⟨Nat.le_trans (List.length_filter_le _ _) hl.1, fun d hd => hl.2 d ((List.mem_filter.mp hd).1)⟩
theorem lft_rev {x : Nat} {l : List Nat} : (lft x l).reverse = lft x l.reverse := by
  unfold lft
  rw [List.filter_reverse]
theorem p_leftR {r : List Nat} (h : DD r) {x : Nat} (hx : x < 6) : f_X6_leftOut (nI (rk r)) (nI x) = some (nI (rk (lft x r))) := by
  apply TT.is
  unfold f_X6_leftOut
  have hr := h.rk
  have h5 := h.1
  have hv := h.vr
  have hs : stN r.length ≤ stN 6 := stN_mono (by omega) (by omega)
  have h66 : stN 6 = 9331 := rfl
  have e0 : rk r = stN r.length + vr r := rfl
  rw [p_lengthOf h]
  simp only [TT_bind, TT_some, TT_grd, TT_bv]
  rw [stV_n (by omega), nsub (by omega), nvp (by omega)]
  refine ⟨by omega, ?_⟩
  have e1 : rk r - stN r.length = vr r := by omega
  rw [e1]
  refine TT_loop (fun s => ∃ (t g : List Nat) (i : Nat), s = (nI (vr t), nI (vr g), nI g.length, nI i) ∧ DD t ∧ i + t.length = r.length ∧ g.length ≤ i ∧ g ++ lft x t = lft x r) (fun s => r.length - s.2.2.2.toNatClampNeg) ?_ _ ⟨r, [], 0, rfl, h, by omega, by simp, rfl⟩
  rintro _ ⟨t, g, i, rfl, ht, hi, hg, hn⟩
  have htv := ht.vr
  cases t with
  | nil =>
    simp only [List.length_nil] at hi
    simp (disch := omega) only [nleI]
    rw [if_pos (by omega), TT_some]
    have e : g = lft x r := by rw [← hn]; simp [lft]
    subst e
    show vp_in (nI (lft x r).length) 7 ∧ stV (nI (lft x r).length).toNatClampNeg + nI (vr (lft x r)) = nI (rk (lft x r))
    rw [nvp (by omega), stV_n (by omega), nadd]
    exact ⟨by omega, rfl⟩
  | cons d t =>
    obtain ⟨ht2, hd⟩ := ht.tl
    obtain ⟨e2, e3⟩ := vr_div (t := t) hd
    simp only [List.length_cons] at hi
    simp (disch := omega) only [show (6 : Int32) = nI 6 from rfl, nleI, ndiv, nrem, bv, e2, e3, neqI]
    rw [if_neg (by omega), show nI i + 1 = nI (i + 1) from nadd i 1]
    have hm : r.length - (nI (i + 1)).toNatClampNeg < r.length - (nI i).toNatClampNeg := by
      rw [nclampI (by omega), nclampI (by omega)]
      omega
    by_cases c : d = x
    · rw [if_pos c, TT_some]
      refine ⟨⟨t, g, i + 1, rfl, ht2, by omega, by omega, ?_⟩, hm⟩
      rw [← hn]
      simp [lft, c]
    · rw [if_neg c, TT_grd, TT_some, nvp (by omega), pwV_n (by omega), nmul, nadd, show nI g.length + 1 = nI (g.length + 1) from nadd _ 1]
      refine ⟨by omega, ⟨t, g ++ [d], i + 1, ?_, ht2, by omega, by simp; omega, ?_⟩, hm⟩
      · rw [vr_app, List.length_append, List.length_singleton, Nat.mul_comm]
      · rw [← hn]
        simp [lft, c]
theorem p_leftOut {l : List Nat} (hl : DL l) {x : Nat} (hx : x < 6) : f_X6_leftOut (nI (rank l)) (nI x) = some (nI (rank (lft x l))) := by
  unfold rank
  rw [lft_rev]
  exact p_leftR hl.rev hx
