/-! branches whose way is known -/
def o_ifT (P : Int32 → Prop) (K : KT) : KT := fun L st h => match st with
  | .int x :: st => P x ∧ K L st h
  | _ => False
def o_ifF (P : Int32 → Prop) (K : KT) : KT := fun L st h => match st with
  | .int x :: st => ¬ P x ∧ K L st h
  | _ => False
def o_icT (P : Int32 → Int32 → Prop) (K : KT) : KT := fun L st h => match st with
  | .int y :: .int x :: st => P x y ∧ K L st h
  | _ => False
def o_icF (P : Int32 → Int32 → Prop) (K : KT) : KT := fun L st h => match st with
  | .int y :: .int x :: st => ¬ P x y ∧ K L st h
  | _ => False
def o_no : KT := fun _ _ _ => False
theorem if_T {P : Int32 → Prop} {K : KT} {L st : List Value} {h : HP} (q : o_ifT P K L st h) : o_if P K o_no L st h := by
  unfold o_ifT at q
  unfold o_if
  split at q
  · exact ⟨fun _ => q.2, fun n => absurd q.1 n⟩
  · exact absurd q id
theorem if_F {P : Int32 → Prop} {K : KT} {L st : List Value} {h : HP} (q : o_ifF P K L st h) : o_if P o_no K L st h := by
  unfold o_ifF at q
  unfold o_if
  split at q
  · exact ⟨fun n => absurd n q.1, fun _ => q.2⟩
  · exact absurd q id
theorem ic_T {P : Int32 → Int32 → Prop} {K : KT} {L st : List Value} {h : HP} (q : o_icT P K L st h) : o_icmp P K o_no L st h := by
  unfold o_icT at q
  unfold o_icmp
  split at q
  · exact ⟨fun _ => q.2, fun n => absurd q.1 n⟩
  · exact absurd q id
theorem ic_F {P : Int32 → Int32 → Prop} {K : KT} {L st : List Value} {h : HP} (q : o_icF P K L st h) : o_icmp P o_no K L st h := by
  unfold o_icF at q
  unfold o_icmp
  split at q
  · exact ⟨fun n => absurd n q.1, fun _ => q.2⟩
  · exact absurd q id
theorem nx_no {g : GT} {M : MD} {d : Nat} {b : Nat × Nat} {Q : Option Value → HP → Prop} {pc : Nat} : Nx g M d b Q pc o_no := fun _ _ _ q => absurd q id
/-- a name for the heap -/
def o_nm (K : KT) : KT := fun L st h => ∀ h' : HP, h' = h → K L st h'
theorem k_nm {g : GT} {M : MD} {d : Nat} {b : Nat × Nat} {Q : Option Value → HP → Prop} {pc : Nat} {K : KT} {L st : List Value} {h : HP} (n : Nx g M d b Q pc K) (q : o_nm K L st h) : Sat g M d b Q pc L st h := n _ _ _ (q h rfl)
section NXS
variable {g : GT} {M : MD} {d : Nat} {b : Nat × Nat} {Q : Option Value → HP → Prop} {pc : Nat} {K : KT} {P1 : Int32 → Prop} {P2 : Int32 → Int32 → Prop}
theorem nx_ifT (n : Nx g M d b Q pc (o_if P1 K o_no)) : Nx g M d b Q pc (o_ifT P1 K) := fun _ _ _ q => n _ _ _ (if_T q)
theorem nx_ifF (n : Nx g M d b Q pc (o_if P1 o_no K)) : Nx g M d b Q pc (o_ifF P1 K) := fun _ _ _ q => n _ _ _ (if_F q)
theorem nx_icT (n : Nx g M d b Q pc (o_icmp P2 K o_no)) : Nx g M d b Q pc (o_icT P2 K) := fun _ _ _ q => n _ _ _ (ic_T q)
theorem nx_icF (n : Nx g M d b Q pc (o_icmp P2 o_no K)) : Nx g M d b Q pc (o_icF P2 K) := fun _ _ _ q => n _ _ _ (ic_F q)
end NXS
