/-! reads, as numbers and as references that may be null -/
section
variable {X : Ctx} {Y : Sta} {M M1 : Mem} {pc pc' : Nat} {L L' : List (Option Value)} {st st' : List Value} {t : Option (Mem × Option Value)}
variable {ci idx a : Nat} {C : String} {T : u_T} {N : Nat} {ty : Nat → FieldType}
theorem s_geti (F : FCls ci C T N ty) (k : Nat) (hk : (fkd ci)[k]? = some 0) (ho : okO M ci a) (hd : decode (yc Y) pc = .ok (.getfield idx, 3)) (hw : Cond.fieldLink (yo Y) idx C (T k).2.1 (T k).2.2.1 ∈ lw_good) (kk : S0 X Y M (pc + 3) L (.int (mI M a k) :: st) t) : S0 X Y M pc L (.ref (gh (xG X) + a) :: st) t := s_get F k 0 hk ho hd hw kk
theorem s_geto (F : FCls ci C T N ty) (k : Nat) (hk : (fkd ci)[k]? = some 1) (ho : okO M ci a) (hd : decode (yc Y) pc = .ok (.getfield idx, 3)) (hw : Cond.fieldLink (yo Y) idx C (T k).2.1 (T k).2.2.1 ∈ lw_good) (kk : S0 X Y M (pc + 3) L (rv (xG X) (mR M a k) :: st) t) : S0 X Y M pc L (.ref (gh (xG X) + a) :: st) t := s_get F k 1 hk ho hd hw kk
theorem s_getiN (F : FCls ci C T N ty) (k : Nat) (hk : (fkd ci)[k]? = some 0) (ho : okO M ci a) (hd : decode (yc Y) pc = .ok (.getfield idx, 3)) (hw : (yo Y, idx, C, (T k).2.1, (T k).2.2.1) ∈ nwF) (kk : S0 X Y M (pc + 3) L (.int (mI M a k) :: st) t) : S0 X Y M pc L (.ref (gh (xG X) + a) :: st) t := s_getN F k 0 hk ho hd hw kk
theorem s_getoN (F : FCls ci C T N ty) (k : Nat) (hk : (fkd ci)[k]? = some 1) (ho : okO M ci a) (hd : decode (yc Y) pc = .ok (.getfield idx, 3)) (hw : (yo Y, idx, C, (T k).2.1, (T k).2.2.1) ∈ nwF) (kk : S0 X Y M (pc + 3) L (rv (xG X) (mR M a k) :: st) t) : S0 X Y M pc L (.ref (gh (xG X) + a) :: st) t := s_getN F k 1 hk ho hd hw kk
theorem s_aaldo {i : Int32} (k : Nat) (hk : k = 18 ∨ k = 19 ∨ k = 20) (ho : okO M k a) (hi : vp_in i (mL M a)) (hd : decode (yc Y) pc = .ok (.aaload, 1)) (kk : S0 X Y M (pc + 1) L (rv (xG X) (mR M a i.toNatClampNeg) :: st) t) : S0 X Y M pc L (.int i :: .ref (gh (xG X) + a) :: st) t := s_aald k hk ho hi hd kk
theorem s_rv {α : Type} {F : α → Option (Mem × Option Value)} {o : Option Nat} {kn : Option α} {ks : Nat → Option α} (h0 : S0 X Y M pc L (.null :: st) (Option.bind kn F)) (h1 : ∀ b : Nat, S0 X Y M pc L (.ref (gh (xG X) + b) :: st) (Option.bind (ks b) F)) : S0 X Y M pc L (rv (xG X) o :: st) (Option.bind (ncase o kn ks) F) := by
  cases o with
  | none => exact h0
  | some b => exact h1 b
theorem s_rvB {α : Type} {F : α → Option (Mem × Option Value)} {o : Option Nat} {ks : Nat → Option α} (h1 : ∀ b : Nat, S0 X Y M pc L (.ref (gh (xG X) + b) :: st) (Option.bind (ks b) F)) : S0 X Y M pc L (rv (xG X) o :: st) (Option.bind (Option.bind o ks) F) := by
  cases o with
  | none => exact s_noneB
  | some b => exact h1 b
end
