/-! the instructions as steps of the judgement: locals, stack, numbers, branches -/
abbrev KT : Type := List Value → List Value → HP → Prop
def nth : List Value → Nat → Option Value
  | [], _ => none
  | v :: _, 0 => some v
  | _ :: l, n + 1 => nth l n
theorem nth_eq : ∀ (l : List Value) (i : Nat), nth l i = l[i]?
  | [], i => by simp [nth]
  | v :: l, 0 => by simp [nth]
  | v :: l, n + 1 => by simp [nth, nth_eq l n]
def clr (L : List Value) : Nat → List Value
  | 0 => L
  | i + 1 => match nth L i with
    | some (.long _) => L.set i (.double 0)
    | _ => L
def stv (L : List Value) (i : Nat) (x : Value) : List Value := (clr L i).set i x
def stl (L : List Value) (i : Nat) (x : Value) : List Value := ((clr L i).set i x).set (i + 1) (.double 0)
def lvL (g : GT) (L : List Value) : List (Nat × Value) := (List.range L.length).filterMap (fun i => match L[i]? with
  | some v => if isPad v then none else some (i, trv g v)
  | none => none)
theorem lvL_mem {g : GT} {L : List Value} {i : Nat} {v : Value} (h : L[i]? = some v) (hp : isPad v = false) : (i, trv g v) ∈ lvL g L := by
  refine List.mem_filterMap.mpr ⟨i, List.mem_range.mpr (List.getElem?_eq_some_iff.mp h).1, ?_⟩
  simp [h, hp]
theorem LH.has {g : GT} {ls : Array Slot} {n : Nat} {L : List Value} (h : LH g ls n L) : lv_has ls n (lvL g L) := by
  refine ⟨h.1, h.2.1, fun q hq => ?_⟩
  obtain ⟨i, -, hi⟩ := List.mem_filterMap.mp hq
  cases hv : L[i]? with
  | none => simp [hv] at hi
  | some v =>
    rw [hv] at hi
    by_cases hp : isPad v = true
    · simp [hp] at hi
    · have hp : isPad v = false := by simpa using hp
      simp [hp] at hi
      subst hi
      exact h.2.2 i v hv hp
theorem clr_at {L : List Value} {i j : Nat} {v : Value} (h : (clr L i)[j]? = some v) (hp : isPad v = false) : L[j]? = some v ∧ ¬ (j + 1 = i ∧ ∃ x, v = .long x) := by
  cases i with
  | zero => exact ⟨h, fun q => by omega⟩
  | succ i =>
    simp only [clr] at h
    split at h
    · next x hx =>
      rw [nth_eq] at hx
      by_cases hj : j = i
      · subst hj
        rw [List.getElem?_set_self (List.getElem?_eq_some_iff.mp hx).1] at h
        cases h
        simp [isPad] at hp
      · rw [List.getElem?_set_ne (Ne.symm hj)] at h
        exact ⟨h, fun q => hj (by omega)⟩
    · next hx =>
      refine ⟨h, fun q => ?_⟩
      obtain ⟨q1, x, q2⟩ := q
      have q3 : j = i := by omega
      subst q3; subst q2
      exact hx x (by rw [nth_eq]; exact h)
theorem clr_len (L : List Value) (i : Nat) : (clr L i).length = L.length := by
  cases i with
  | zero => rfl
  | succ i => simp only [clr]; split <;> simp
theorem cat_trv {g : GT} {v : Value} (h : (trv g v).category = 2) (hp : isPad v = false) : ∃ x, v = .long x := by
  cases v <;> first | exact ⟨_, rfl⟩ | (simp [isPad] at hp; done) | (simp [trv, Value.category] at h; done)
theorem LH.st1 {g : GT} {ls : Array Slot} {n i : Nat} {L : List Value} {x : Value} (h : lv_has ls n ((i, trv g x) :: (lvL g L).filter (fun q => !(q.1 == i) && !(q.1 + 1 == i && q.2.category == 2)))) : LH g ls n (stv L i x) := by
  refine ⟨h.1, h.2.1, fun j v hv hp => ?_⟩
  unfold stv at hv
  by_cases hj : i = j
  · subst hj
    by_cases hl : i < (clr L i).length
    · rw [List.getElem?_set_self hl] at hv
      cases hv
      exact h.2.2 (i, trv g x) List.mem_cons_self
    · rw [List.getElem?_eq_none (by simpa using Nat.le_of_not_lt hl)] at hv
      cases hv
  · rw [List.getElem?_set_ne hj] at hv
    obtain ⟨h1, h2⟩ := clr_at hv hp
    refine h.2.2 (j, trv g v) (List.mem_cons_of_mem _ (List.mem_filter.mpr ⟨lvL_mem h1 hp, ?_⟩))
    simp only [Bool.and_eq_true, Bool.not_eq_true', beq_eq_false_iff_ne, Bool.and_eq_false_iff, beq_eq_false_iff_ne]
    refine ⟨Ne.symm hj, ?_⟩
    by_cases hq : j + 1 = i
    · exact Or.inr (fun hc => h2 ⟨hq, cat_trv hc hp⟩)
    · exact Or.inl hq
theorem LH.st2 {g : GT} {ls : Array Slot} {n i : Nat} {L : List Value} {x : Value} (h : lv_has ls n ((i, trv g x) :: (lvL g L).filter (fun q => !(q.1 == i) && (!(q.1 == i + 1) && !(q.1 + 1 == i && q.2.category == 2))))) : LH g ls n (stl L i x) := by
  refine ⟨h.1, h.2.1, fun j v hv hp => ?_⟩
  unfold stl at hv
  by_cases hj1 : i + 1 = j
  · subst hj1
    by_cases hl : i + 1 < ((clr L i).set i x).length
    · rw [List.getElem?_set_self hl] at hv
      cases hv
      simp [isPad] at hp
    · rw [List.getElem?_eq_none (by simpa using Nat.le_of_not_lt hl)] at hv
      cases hv
  · rw [List.getElem?_set_ne hj1] at hv
    by_cases hj : i = j
    · subst hj
      by_cases hl : i < (clr L i).length
      · rw [List.getElem?_set_self hl] at hv
        cases hv
        exact h.2.2 (i, trv g x) List.mem_cons_self
      · rw [List.getElem?_eq_none (by simpa using Nat.le_of_not_lt hl)] at hv
        cases hv
    · rw [List.getElem?_set_ne hj] at hv
      obtain ⟨h1, h2⟩ := clr_at hv hp
      refine h.2.2 (j, trv g v) (List.mem_cons_of_mem _ (List.mem_filter.mpr ⟨lvL_mem h1 hp, ?_⟩))
      simp only [Bool.and_eq_true, Bool.not_eq_true', beq_eq_false_iff_ne, Bool.and_eq_false_iff, beq_eq_false_iff_ne]
      refine ⟨Ne.symm hj, Ne.symm hj1, ?_⟩
      by_cases hq : j + 1 = i
      · exact Or.inr (fun hc => h2 ⟨hq, cat_trv hc hp⟩)
      · exact Or.inl hq
def o_iload (i : Nat) (K : KT) : KT := fun L st h => match nth L i with
  | some (.int x) => K L (.int x :: st) h
  | _ => False
def o_lload (i : Nat) (K : KT) : KT := fun L st h => match nth L i with
  | some (.long x) => K L (.long x :: st) h
  | _ => False
def o_aload (i : Nat) (K : KT) : KT := fun L st h => match nth L i with
  | some (.ref x) => K L (.ref x :: st) h
  | some (.float x) => K L (.float x :: st) h
  | some .null => K L (.null :: st) h
  | _ => False
def o_istore (i : Nat) (K : KT) : KT := fun L st h => match st with
  | .int x :: st => K (stv L i (.int x)) st h
  | _ => False
def o_lstore (i : Nat) (K : KT) : KT := fun L st h => match st with
  | .long x :: st => K (stl L i (.long x)) st h
  | _ => False
def o_astore (i : Nat) (K : KT) : KT := fun L st h => match st with
  | .ref x :: st => K (stv L i (.ref x)) st h
  | _ => False
def o_iinc (i : Nat) (v : Int32) (K : KT) : KT := fun L st h => match nth L i with
  | some (.int x) => K (stv L i (.int (x + v))) st h
  | _ => False
def o_push (v : Value) (K : KT) : KT := fun L st h => K L (v :: st) h
def o_ibin (f : Int32 → Int32 → Int32) (K : KT) : KT := fun L st h => match st with
  | .int y :: .int x :: st => K L (.int (f x y) :: st) h
  | _ => False
def o_idiv (f : Int32 → Int32 → Int32) (K : KT) : KT := fun L st h => match st with
  | .int y :: .int x :: st => ¬ y = 0 ∧ K L (.int (f x y) :: st) h
  | _ => False
def o_iun (f : Int32 → Int32) (K : KT) : KT := fun L st h => match st with
  | .int x :: st => K L (.int (f x) :: st) h
  | _ => False
def o_lbin (f : Int64 → Int64 → Int64) (K : KT) : KT := fun L st h => match st with
  | .long y :: .long x :: st => K L (.long (f x y) :: st) h
  | _ => False
def o_ldiv (f : Int64 → Int64 → Int64) (K : KT) : KT := fun L st h => match st with
  | .long y :: .long x :: st => ¬ y = 0 ∧ K L (.long (f x y) :: st) h
  | _ => False
def o_i2l (K : KT) : KT := fun L st h => match st with
  | .int x :: st => K L (.long x.toInt64 :: st) h
  | _ => False
def o_l2i (K : KT) : KT := fun L st h => match st with
  | .long x :: st => K L (.int x.toInt32 :: st) h
  | _ => False
def o_lcmp (K : KT) : KT := fun L st h => match st with
  | .long y :: .long x :: st => K L (.int (lg_cmp x y) :: st) h
  | _ => False
def o_dup (K : KT) : KT := fun L st h => match st with
  | .int x :: st => K L (.int x :: .int x :: st) h
  | .ref x :: st => K L (.ref x :: .ref x :: st) h
  | _ => False
def o_dup2 (K : KT) : KT := fun L st h => match st with
  | .int y :: .ref x :: st => K L (.int y :: .ref x :: .int y :: .ref x :: st) h
  | _ => False
def o_pop (K : KT) : KT := fun L st h => match st with
  | .int _ :: st => K L st h
  | .ref _ :: st => K L st h
  | _ => False
def o_if (P : Int32 → Prop) (K1 K2 : KT) : KT := fun L st h => match st with
  | .int x :: st => (P x → K1 L st h) ∧ (¬ P x → K2 L st h)
  | _ => False
def o_icmp (P : Int32 → Int32 → Prop) (K1 K2 : KT) : KT := fun L st h => match st with
  | .int y :: .int x :: st => (P x y → K1 L st h) ∧ (¬ P x y → K2 L st h)
  | _ => False
def o_ifnull (K1 K2 : KT) : KT := fun L st h => match st with
  | .null :: st => K1 L st h
  | .ref _ :: st => K2 L st h
  | _ => False
section OPS
variable {g : GT} {M : MD} {d : Nat} {b : Nat × Nat} {Q : Option Value → HP → Prop} {pc : Nat} {K K1 K2 : KT} {L st : List Value} {h : HP}
abbrev Nx (g : GT) (M : MD) (d : Nat) (b : Nat × Nat) (Q : Option Value → HP → Prop) (pc : Nat) (K : KT) : Prop := ∀ L st h, K L st h → Sat g M d b Q pc L st h
theorem k_iload_n {k : Fin 4} {i : Nat} (hd : decode M.2.1 pc = .ok (.iload_n k, 1)) (hi : (k : Nat) = i) (n : Nx g M d b Q (pc + 1) K) : o_iload i K L st h → Sat g M d b Q pc L st h := by
  intro ho p e R s m args below meth c H locs cells slots Z ls C hH hL hc hs hF
  unfold o_iload at ho
  split at ho
  · next x hx => exact lv_iload_n C.1 C.2.1 hd hi (hL.2.2 i (.int x) (by rw [← nth_eq]; exact hx) rfl) (n _ _ _ ho p e R s m args below meth c H locs cells slots Z ls C hH hL hc hs hF)
  · exact absurd ho id
theorem k_iload {i : Nat} (hd : decode M.2.1 pc = .ok (.iload i, 2)) (n : Nx g M d b Q (pc + 2) K) : o_iload i K L st h → Sat g M d b Q pc L st h := by
  intro ho p e R s m args below meth c H locs cells slots Z ls C hH hL hc hs hF
  unfold o_iload at ho
  split at ho
  · next x hx => exact lv_iload C.1 C.2.1 hd (hL.2.2 i (.int x) (by rw [← nth_eq]; exact hx) rfl) (n _ _ _ ho p e R s m args below meth c H locs cells slots Z ls C hH hL hc hs hF)
  · exact absurd ho id
theorem k_lload_n {k : Fin 4} {i : Nat} (hd : decode M.2.1 pc = .ok (.lload_n k, 1)) (hi : (k : Nat) = i) (n : Nx g M d b Q (pc + 1) K) : o_lload i K L st h → Sat g M d b Q pc L st h := by
  intro ho p e R s m args below meth c H locs cells slots Z ls C hH hL hc hs hF
  unfold o_lload at ho
  split at ho
  · next x hx => exact lv_lload_n C.1 C.2.1 hd hi (hL.2.2 i (.long x) (by rw [← nth_eq]; exact hx) rfl) (n _ _ _ ho p e R s m args below meth c H locs cells slots Z ls C hH hL hc hs hF)
  · exact absurd ho id
theorem k_lload {i : Nat} (hd : decode M.2.1 pc = .ok (.lload i, 2)) (n : Nx g M d b Q (pc + 2) K) : o_lload i K L st h → Sat g M d b Q pc L st h := by
  intro ho p e R s m args below meth c H locs cells slots Z ls C hH hL hc hs hF
  unfold o_lload at ho
  split at ho
  · next x hx => exact lv_lload C.1 C.2.1 hd (hL.2.2 i (.long x) (by rw [← nth_eq]; exact hx) rfl) (n _ _ _ ho p e R s m args below meth c H locs cells slots Z ls C hH hL hc hs hF)
  · exact absurd ho id
theorem lw_aloadN_n {p : Program} {l : Launch} {e : Env} {R : Room} {s : State} {m : MethodId} {args : Array Value} {below : List Frame} {meth : Method} {c : Code} {H : Heap} {locs : List Loc} {cells slots : Nat} {Q : State → Prop} {cc : ByteArray} {ls : Array Slot} {rest : List Value} (hexec : p.tables.exec = Jvm.exec) (hb : c.code = cc) {k : Fin 4} {i : Nat} (hdg : decode cc pc = .ok (.aload_n k, 1)) (hi : (k : Nat) = i) (hl : ls[i]? = some (.val .null))
    (k : W p l e R s m args below meth c H locs cells slots Q (F0 m (pc + 1) ls (.null :: rest))) : W p l e R s m args below meth c H locs cells slots Q (F0 m pc ls (rest)) := by
  subst hi
  intro T hT X
  obtain ⟨t, a, b⟩ := k T hT X
  refine ⟨t, ?_, b⟩
  jvm_step X.here [X.here.top, hexec, hb, hdg, hl, Value.isRef]
  exact a
theorem lw_aloadN {p : Program} {l : Launch} {e : Env} {R : Room} {s : State} {m : MethodId} {args : Array Value} {below : List Frame} {meth : Method} {c : Code} {H : Heap} {locs : List Loc} {cells slots : Nat} {Q : State → Prop} {cc : ByteArray} {ls : Array Slot} {rest : List Value} (hexec : p.tables.exec = Jvm.exec) (hb : c.code = cc) {i : Nat} (hdg : decode cc pc = .ok (.aload i, 2)) (hl : ls[i]? = some (.val .null))
    (k : W p l e R s m args below meth c H locs cells slots Q (F0 m (pc + 2) ls (.null :: rest))) : W p l e R s m args below meth c H locs cells slots Q (F0 m pc ls (rest)) := by
  intro T hT X
  obtain ⟨t, a, b⟩ := k T hT X
  refine ⟨t, ?_, b⟩
  jvm_step X.here [X.here.top, hexec, hb, hdg, hl, Value.isRef]
  exact a
theorem k_aload_n {k : Fin 4} {i : Nat} (hd : decode M.2.1 pc = .ok (.aload_n k, 1)) (hi : (k : Nat) = i) (n : Nx g M d b Q (pc + 1) K) : o_aload i K L st h → Sat g M d b Q pc L st h := by
  intro ho p e R s m args below meth c H locs cells slots Z ls C hH hL hc hs hF
  unfold o_aload at ho
  split at ho
  · next x hx => exact lv_aload_n C.1 C.2.1 hd hi (hL.2.2 i (.ref x) (by rw [← nth_eq]; exact hx) rfl) (n _ _ _ ho p e R s m args below meth c H locs cells slots Z ls C hH hL hc hs hF)
  · next x hx => exact lv_aload_n C.1 C.2.1 hd hi (hL.2.2 i (.float x) (by rw [← nth_eq]; exact hx) rfl) (n _ _ _ ho p e R s m args below meth c H locs cells slots Z ls C hH hL hc hs hF)
  · next hx => exact lw_aloadN_n C.1 C.2.1 hd hi (hL.2.2 i .null (by rw [← nth_eq]; exact hx) rfl) (n _ _ _ ho p e R s m args below meth c H locs cells slots Z ls C hH hL hc hs hF)
  · exact absurd ho id
theorem k_aload {i : Nat} (hd : decode M.2.1 pc = .ok (.aload i, 2)) (n : Nx g M d b Q (pc + 2) K) : o_aload i K L st h → Sat g M d b Q pc L st h := by
  intro ho p e R s m args below meth c H locs cells slots Z ls C hH hL hc hs hF
  unfold o_aload at ho
  split at ho
  · next x hx => exact lv_aload C.1 C.2.1 hd (hL.2.2 i (.ref x) (by rw [← nth_eq]; exact hx) rfl) (n _ _ _ ho p e R s m args below meth c H locs cells slots Z ls C hH hL hc hs hF)
  · next x hx => exact lv_aload C.1 C.2.1 hd (hL.2.2 i (.float x) (by rw [← nth_eq]; exact hx) rfl) (n _ _ _ ho p e R s m args below meth c H locs cells slots Z ls C hH hL hc hs hF)
  · next hx => exact lw_aloadN C.1 C.2.1 hd (hL.2.2 i .null (by rw [← nth_eq]; exact hx) rfl) (n _ _ _ ho p e R s m args below meth c H locs cells slots Z ls C hH hL hc hs hF)
  · exact absurd ho id
theorem k_istore_n {k : Fin 4} {i : Nat} (hd : decode M.2.1 pc = .ok (.istore_n k, 1)) (hi : (k : Nat) = i) (hw : i < M.2.2.1) (n : Nx g M d b Q (pc + 1) K) : o_istore i K L st h → Sat g M d b Q pc L st h := by
  intro ho p e R s m args below meth c H locs cells slots Z ls C hH hL hc hs hF
  unfold o_istore at ho
  split at ho
  · next x st2 => exact lv_istore_n (x := x) C.1 C.2.1 hd hi hL.has hw rfl (fun ls hl => n _ _ _ ho p e R s m args below meth c H locs cells slots Z ls C hH (LH.st1 (x := .int x) hl) hc hs hF)
  · exact absurd ho id
theorem k_istore {i : Nat} (hd : decode M.2.1 pc = .ok (.istore i, 2)) (hw : i < M.2.2.1) (n : Nx g M d b Q (pc + 2) K) : o_istore i K L st h → Sat g M d b Q pc L st h := by
  intro ho p e R s m args below meth c H locs cells slots Z ls C hH hL hc hs hF
  unfold o_istore at ho
  split at ho
  · next x st2 => exact lv_istore (x := x) C.1 C.2.1 hd hL.has hw rfl (fun ls hl => n _ _ _ ho p e R s m args below meth c H locs cells slots Z ls C hH (LH.st1 (x := .int x) hl) hc hs hF)
  · exact absurd ho id
theorem k_lstore_n {k : Fin 4} {i : Nat} (hd : decode M.2.1 pc = .ok (.lstore_n k, 1)) (hi : (k : Nat) = i) (hw : i + 1 < M.2.2.1) (n : Nx g M d b Q (pc + 1) K) : o_lstore i K L st h → Sat g M d b Q pc L st h := by
  intro ho p e R s m args below meth c H locs cells slots Z ls C hH hL hc hs hF
  unfold o_lstore at ho
  split at ho
  · next x st2 => exact lv_lstore_n (x := x) C.1 C.2.1 hd hi hL.has hw rfl (fun ls hl => n _ _ _ ho p e R s m args below meth c H locs cells slots Z ls C hH (LH.st2 (x := .long x) hl) hc hs hF)
  · exact absurd ho id
theorem k_lstore {i : Nat} (hd : decode M.2.1 pc = .ok (.lstore i, 2)) (hw : i + 1 < M.2.2.1) (n : Nx g M d b Q (pc + 2) K) : o_lstore i K L st h → Sat g M d b Q pc L st h := by
  intro ho p e R s m args below meth c H locs cells slots Z ls C hH hL hc hs hF
  unfold o_lstore at ho
  split at ho
  · next x st2 => exact lv_lstore (x := x) C.1 C.2.1 hd hL.has hw rfl (fun ls hl => n _ _ _ ho p e R s m args below meth c H locs cells slots Z ls C hH (LH.st2 (x := .long x) hl) hc hs hF)
  · exact absurd ho id
theorem k_astore_n {k : Fin 4} {i : Nat} (hd : decode M.2.1 pc = .ok (.astore_n k, 1)) (hi : (k : Nat) = i) (hw : i < M.2.2.1) (n : Nx g M d b Q (pc + 1) K) : o_astore i K L st h → Sat g M d b Q pc L st h := by
  intro ho p e R s m args below meth c H locs cells slots Z ls C hH hL hc hs hF
  unfold o_astore at ho
  split at ho
  · next x st2 => exact lv_astore_n (x := gz g + x) C.1 C.2.1 hd hi hL.has hw rfl (fun ls hl => n _ _ _ ho p e R s m args below meth c H locs cells slots Z ls C hH (LH.st1 (x := .ref x) hl) hc hs hF)
  · exact absurd ho id
theorem k_astore {i : Nat} (hd : decode M.2.1 pc = .ok (.astore i, 2)) (hw : i < M.2.2.1) (n : Nx g M d b Q (pc + 2) K) : o_astore i K L st h → Sat g M d b Q pc L st h := by
  intro ho p e R s m args below meth c H locs cells slots Z ls C hH hL hc hs hF
  unfold o_astore at ho
  split at ho
  · next x st2 => exact lv_astore (x := gz g + x) C.1 C.2.1 hd hL.has hw rfl (fun ls hl => n _ _ _ ho p e R s m args below meth c H locs cells slots Z ls C hH (LH.st1 (x := .ref x) hl) hc hs hF)
  · exact absurd ho id
theorem k_iinc {i : Nat} {z : Int} {v : Int32} (hd : decode M.2.1 pc = .ok (.iinc i z, 3)) (hv : Int32.ofInt z = v) (hw : i < M.2.2.1) (n : Nx g M d b Q (pc + 3) K) : o_iinc i v K L st h → Sat g M d b Q pc L st h := by
  intro ho p e R s m args below meth c H locs cells slots Z ls C hH hL hc hs hF
  unfold o_iinc at ho
  split at ho
  · next x hx =>
    obtain ⟨k, hk⟩ := List.getElem?_of_mem (lvL_mem (g := g) (show L[i]? = some (.int x) by rw [← nth_eq]; exact hx) rfl)
    exact lv_iinc (x := x) (v := x + v) (k := k) C.1 C.2.1 hd hL.has hk (by rw [hv]) hw rfl (fun ls hl => n _ _ _ ho p e R s m args below meth c H locs cells slots Z ls C hH (LH.st1 (x := .int (x + v)) hl) hc hs hF)
  · exact absurd ho id
theorem k_iconst {z : Int} {v : Int32} (hd : decode M.2.1 pc = .ok (.iconst z, 1)) (hv : Int32.ofInt z = v) (n : Nx g M d b Q (pc + 1) K) : o_push (.int v) K L st h → Sat g M d b Q pc L st h := by
  intro ho p e R s m args below meth c H locs cells slots Z ls C hH hL hc hs hF
  exact lv_iconst C.1 C.2.1 hd hv (n _ _ _ ho p e R s m args below meth c H locs cells slots Z ls C hH hL hc hs hF)
theorem k_bipush {z : Int} {v : Int32} (hd : decode M.2.1 pc = .ok (.bipush z, 2)) (hv : (Int8.ofInt z).toInt32 = v) (n : Nx g M d b Q (pc + 2) K) : o_push (.int v) K L st h → Sat g M d b Q pc L st h := by
  intro ho p e R s m args below meth c H locs cells slots Z ls C hH hL hc hs hF
  exact lv_bipush C.1 C.2.1 hd hv (n _ _ _ ho p e R s m args below meth c H locs cells slots Z ls C hH hL hc hs hF)
theorem k_sipush {z : Int} {v : Int32} (hd : decode M.2.1 pc = .ok (.sipush z, 3)) (hv : (Int16.ofInt z).toInt32 = v) (n : Nx g M d b Q (pc + 3) K) : o_push (.int v) K L st h → Sat g M d b Q pc L st h := by
  intro ho p e R s m args below meth c H locs cells slots Z ls C hH hL hc hs hF
  exact lv_sipush C.1 C.2.1 hd hv (n _ _ _ ho p e R s m args below meth c H locs cells slots Z ls C hH hL hc hs hF)
theorem k_lconst {z : Fin 2} {v : Int64} (hd : decode M.2.1 pc = .ok (.lconst z, 1)) (hv : Int64.ofNat (z : Nat) = v) (n : Nx g M d b Q (pc + 1) K) : o_push (.long v) K L st h → Sat g M d b Q pc L st h := by
  intro ho p e R s m args below meth c H locs cells slots Z ls C hH hL hc hs hF
  exact lv_lconst C.1 C.2.1 hd hv (n _ _ _ ho p e R s m args below meth c H locs cells slots Z ls C hH hL hc hs hF)
theorem k_null (hd : decode M.2.1 pc = .ok (.aconst_null, 1)) (n : Nx g M d b Q (pc + 1) K) : o_push .null K L st h → Sat g M d b Q pc L st h := by
  intro ho p e R s m args below meth c H locs cells slots Z ls C hH hL hc hs hF
  exact lv_null C.1 C.2.1 hd (n _ _ _ ho p e R s m args below meth c H locs cells slots Z ls C hH hL hc hs hF)
theorem k_ldc {i : Nat} {v : Int32} (hd : decode M.2.1 pc = .ok (.ldc i, 2)) (hw : Cond.constant M.1.cls i v ∈ lw_good) (n : Nx g M d b Q (pc + 2) K) : o_push (.int v) K L st h → Sat g M d b Q pc L st h := by
  intro ho p e R s m args below meth c H locs cells slots Z ls C hH hL hc hs hF
  exact W.ldc C.1 C.2.1 C.2.2.2.2.1 (C.2.2.2.2.2.2.1 _ hw) rfl hd (n _ _ _ ho p e R s m args below meth c H locs cells slots Z ls C hH hL hc hs hF)
theorem k_ldcw {i : Nat} {v : Int32} (hd : decode M.2.1 pc = .ok (.ldc_w i, 3)) (hw : Cond.constant M.1.cls i v ∈ lw_good) (n : Nx g M d b Q (pc + 3) K) : o_push (.int v) K L st h → Sat g M d b Q pc L st h := by
  intro ho p e R s m args below meth c H locs cells slots Z ls C hH hL hc hs hF
  exact lv_ldcw C.1 C.2.1 C.2.2.2.2.1 (C.2.2.2.2.2.2.1 _ hw) hd (n _ _ _ ho p e R s m args below meth c H locs cells slots Z ls C hH hL hc hs hF)
theorem k_ldc2 {i : Nat} {v : Int64} (hd : decode M.2.1 pc = .ok (.ldc2_w i, 3)) (hw : Cond.constantLong M.1.cls i v ∈ lw_good) (n : Nx g M d b Q (pc + 3) K) : o_push (.long v) K L st h → Sat g M d b Q pc L st h := by
  intro ho p e R s m args below meth c H locs cells slots Z ls C hH hL hc hs hF
  exact lv_ldc2 C.1 C.2.1 C.2.2.2.2.1 (C.2.2.2.2.2.2.1 _ hw) hd (n _ _ _ ho p e R s m args below meth c H locs cells slots Z ls C hH hL hc hs hF)
theorem k_ldcS {i : Nat} (q : UInt32) (hq : q.toNat < 24) (hd : decode M.2.1 pc = .ok (.ldc (stK.getD q.toNat 0), 2)) (hw : M.1.cls = stO.getD q.toNat "") (n : Nx g M d b Q (pc + 2) K) : o_push (.float q) K L st h → Sat g M d b Q pc L st h := by
  intro ho p e R s m args below meth c H locs cells slots Z ls C hH hL hc hs hF
  exact va_ldcS C.1 C.2.1 (by rw [← hw]; exact C.2.2.2.2.1) (C.2.2.2.2.2.2.2.2.2.2.1.2.2.2.1 _ hq) hd (n _ _ _ ho p e R s m args below meth c H locs cells slots Z ls C hH hL hc hs hF)
theorem k_iadd (hd : decode M.2.1 pc = .ok (.iadd, 1)) (n : Nx g M d b Q (pc + 1) K) : o_ibin (fun x y => x + y) K L st h → Sat g M d b Q pc L st h := by
  intro ho p e R s m args below meth c H locs cells slots Z ls C hH hL hc hs hF
  unfold o_ibin at ho
  split at ho
  · exact lv_iadd C.1 C.2.1 hd (n _ _ _ ho p e R s m args below meth c H locs cells slots Z ls C hH hL hc hs hF)
  · exact absurd ho id
theorem k_isub (hd : decode M.2.1 pc = .ok (.isub, 1)) (n : Nx g M d b Q (pc + 1) K) : o_ibin (fun x y => x - y) K L st h → Sat g M d b Q pc L st h := by
  intro ho p e R s m args below meth c H locs cells slots Z ls C hH hL hc hs hF
  unfold o_ibin at ho
  split at ho
  · exact lv_isub C.1 C.2.1 hd (n _ _ _ ho p e R s m args below meth c H locs cells slots Z ls C hH hL hc hs hF)
  · exact absurd ho id
theorem k_imul (hd : decode M.2.1 pc = .ok (.imul, 1)) (n : Nx g M d b Q (pc + 1) K) : o_ibin (fun x y => x * y) K L st h → Sat g M d b Q pc L st h := by
  intro ho p e R s m args below meth c H locs cells slots Z ls C hH hL hc hs hF
  unfold o_ibin at ho
  split at ho
  · exact lv_imul C.1 C.2.1 hd (n _ _ _ ho p e R s m args below meth c H locs cells slots Z ls C hH hL hc hs hF)
  · exact absurd ho id
theorem k_iand (hd : decode M.2.1 pc = .ok (.iand, 1)) (n : Nx g M d b Q (pc + 1) K) : o_ibin (fun x y => x &&& y) K L st h → Sat g M d b Q pc L st h := by
  intro ho p e R s m args below meth c H locs cells slots Z ls C hH hL hc hs hF
  unfold o_ibin at ho
  split at ho
  · exact lv_iand C.1 C.2.1 hd (n _ _ _ ho p e R s m args below meth c H locs cells slots Z ls C hH hL hc hs hF)
  · exact absurd ho id
theorem k_ior (hd : decode M.2.1 pc = .ok (.ior, 1)) (n : Nx g M d b Q (pc + 1) K) : o_ibin (fun x y => x ||| y) K L st h → Sat g M d b Q pc L st h := by
  intro ho p e R s m args below meth c H locs cells slots Z ls C hH hL hc hs hF
  unfold o_ibin at ho
  split at ho
  · exact lv_ior C.1 C.2.1 hd (n _ _ _ ho p e R s m args below meth c H locs cells slots Z ls C hH hL hc hs hF)
  · exact absurd ho id
theorem k_ixor (hd : decode M.2.1 pc = .ok (.ixor, 1)) (n : Nx g M d b Q (pc + 1) K) : o_ibin (fun x y => x ^^^ y) K L st h → Sat g M d b Q pc L st h := by
  intro ho p e R s m args below meth c H locs cells slots Z ls C hH hL hc hs hF
  unfold o_ibin at ho
  split at ho
  · exact lv_ixor C.1 C.2.1 hd (n _ _ _ ho p e R s m args below meth c H locs cells slots Z ls C hH hL hc hs hF)
  · exact absurd ho id
theorem k_ishl (hd : decode M.2.1 pc = .ok (.ishl, 1)) (n : Nx g M d b Q (pc + 1) K) : o_ibin (fun x y => x <<< (y &&& 31)) K L st h → Sat g M d b Q pc L st h := by
  intro ho p e R s m args below meth c H locs cells slots Z ls C hH hL hc hs hF
  unfold o_ibin at ho
  split at ho
  · exact lv_ishl C.1 C.2.1 hd (n _ _ _ ho p e R s m args below meth c H locs cells slots Z ls C hH hL hc hs hF)
  · exact absurd ho id
theorem k_ishr (hd : decode M.2.1 pc = .ok (.ishr, 1)) (n : Nx g M d b Q (pc + 1) K) : o_ibin (fun x y => x >>> (y &&& 31)) K L st h → Sat g M d b Q pc L st h := by
  intro ho p e R s m args below meth c H locs cells slots Z ls C hH hL hc hs hF
  unfold o_ibin at ho
  split at ho
  · exact lv_ishr C.1 C.2.1 hd (n _ _ _ ho p e R s m args below meth c H locs cells slots Z ls C hH hL hc hs hF)
  · exact absurd ho id
theorem k_iushr (hd : decode M.2.1 pc = .ok (.iushr, 1)) (n : Nx g M d b Q (pc + 1) K) : o_ibin (fun x y => (x.toUInt32 >>> (y.toUInt32 &&& Int32.toUInt32 31)).toInt32) K L st h → Sat g M d b Q pc L st h := by
  intro ho p e R s m args below meth c H locs cells slots Z ls C hH hL hc hs hF
  unfold o_ibin at ho
  split at ho
  · exact lv_iushr C.1 C.2.1 hd rfl (n _ _ _ ho p e R s m args below meth c H locs cells slots Z ls C hH hL hc hs hF)
  · exact absurd ho id
theorem k_idiv (hd : decode M.2.1 pc = .ok (.idiv, 1)) (n : Nx g M d b Q (pc + 1) K) : o_idiv (fun x y => x / y) K L st h → Sat g M d b Q pc L st h := by
  intro ho p e R s m args below meth c H locs cells slots Z ls C hH hL hc hs hF
  unfold o_idiv at ho
  split at ho
  · exact lv_idiv C.1 C.2.1 hd ho.1 (n _ _ _ ho.2 p e R s m args below meth c H locs cells slots Z ls C hH hL hc hs hF)
  · exact absurd ho id
theorem k_irem (hd : decode M.2.1 pc = .ok (.irem, 1)) (n : Nx g M d b Q (pc + 1) K) : o_idiv (fun x y => x - x / y * y) K L st h → Sat g M d b Q pc L st h := by
  intro ho p e R s m args below meth c H locs cells slots Z ls C hH hL hc hs hF
  unfold o_idiv at ho
  split at ho
  · exact lv_irem C.1 C.2.1 hd ho.1 (n _ _ _ ho.2 p e R s m args below meth c H locs cells slots Z ls C hH hL hc hs hF)
  · exact absurd ho id
theorem k_ineg (hd : decode M.2.1 pc = .ok (.ineg, 1)) (n : Nx g M d b Q (pc + 1) K) : o_iun (fun x => -x) K L st h → Sat g M d b Q pc L st h := by
  intro ho p e R s m args below meth c H locs cells slots Z ls C hH hL hc hs hF
  unfold o_iun at ho
  split at ho
  · exact lv_ineg C.1 C.2.1 hd (n _ _ _ ho p e R s m args below meth c H locs cells slots Z ls C hH hL hc hs hF)
  · exact absurd ho id
theorem k_i2c (hd : decode M.2.1 pc = .ok (.i2c, 1)) (n : Nx g M d b Q (pc + 1) K) : o_iun (fun x => (x.toUInt32 % 65536).toInt32) K L st h → Sat g M d b Q pc L st h := by
  intro ho p e R s m args below meth c H locs cells slots Z ls C hH hL hc hs hF
  unfold o_iun at ho
  split at ho
  · exact lv_i2c C.1 C.2.1 hd rfl (n _ _ _ ho p e R s m args below meth c H locs cells slots Z ls C hH hL hc hs hF)
  · exact absurd ho id
theorem k_i2b (hd : decode M.2.1 pc = .ok (.i2b, 1)) (n : Nx g M d b Q (pc + 1) K) : o_iun (fun x => x.toInt8.toInt32) K L st h → Sat g M d b Q pc L st h := by
  intro ho p e R s m args below meth c H locs cells slots Z ls C hH hL hc hs hF
  unfold o_iun at ho
  split at ho
  · exact lv_i2b C.1 C.2.1 hd rfl (n _ _ _ ho p e R s m args below meth c H locs cells slots Z ls C hH hL hc hs hF)
  · exact absurd ho id
theorem k_ladd (hd : decode M.2.1 pc = .ok (.ladd, 1)) (n : Nx g M d b Q (pc + 1) K) : o_lbin (fun x y => x + y) K L st h → Sat g M d b Q pc L st h := by
  intro ho p e R s m args below meth c H locs cells slots Z ls C hH hL hc hs hF
  unfold o_lbin at ho
  split at ho
  · exact lv_ladd C.1 C.2.1 hd (n _ _ _ ho p e R s m args below meth c H locs cells slots Z ls C hH hL hc hs hF)
  · exact absurd ho id
theorem k_lsub (hd : decode M.2.1 pc = .ok (.lsub, 1)) (n : Nx g M d b Q (pc + 1) K) : o_lbin (fun x y => x - y) K L st h → Sat g M d b Q pc L st h := by
  intro ho p e R s m args below meth c H locs cells slots Z ls C hH hL hc hs hF
  unfold o_lbin at ho
  split at ho
  · exact lv_lsub C.1 C.2.1 hd (n _ _ _ ho p e R s m args below meth c H locs cells slots Z ls C hH hL hc hs hF)
  · exact absurd ho id
theorem k_lmul (hd : decode M.2.1 pc = .ok (.lmul, 1)) (n : Nx g M d b Q (pc + 1) K) : o_lbin (fun x y => x * y) K L st h → Sat g M d b Q pc L st h := by
  intro ho p e R s m args below meth c H locs cells slots Z ls C hH hL hc hs hF
  unfold o_lbin at ho
  split at ho
  · exact lv_lmul C.1 C.2.1 hd (n _ _ _ ho p e R s m args below meth c H locs cells slots Z ls C hH hL hc hs hF)
  · exact absurd ho id
theorem k_land (hd : decode M.2.1 pc = .ok (.land, 1)) (n : Nx g M d b Q (pc + 1) K) : o_lbin (fun x y => x &&& y) K L st h → Sat g M d b Q pc L st h := by
  intro ho p e R s m args below meth c H locs cells slots Z ls C hH hL hc hs hF
  unfold o_lbin at ho
  split at ho
  · exact lv_land C.1 C.2.1 hd (n _ _ _ ho p e R s m args below meth c H locs cells slots Z ls C hH hL hc hs hF)
  · exact absurd ho id
theorem k_lor (hd : decode M.2.1 pc = .ok (.lor, 1)) (n : Nx g M d b Q (pc + 1) K) : o_lbin (fun x y => x ||| y) K L st h → Sat g M d b Q pc L st h := by
  intro ho p e R s m args below meth c H locs cells slots Z ls C hH hL hc hs hF
  unfold o_lbin at ho
  split at ho
  · exact lv_lor C.1 C.2.1 hd (n _ _ _ ho p e R s m args below meth c H locs cells slots Z ls C hH hL hc hs hF)
  · exact absurd ho id
theorem k_ldiv (hd : decode M.2.1 pc = .ok (.ldiv, 1)) (n : Nx g M d b Q (pc + 1) K) : o_ldiv (fun x y => x / y) K L st h → Sat g M d b Q pc L st h := by
  intro ho p e R s m args below meth c H locs cells slots Z ls C hH hL hc hs hF
  unfold o_ldiv at ho
  split at ho
  · exact lv_ldiv C.1 C.2.1 hd ho.1 (n _ _ _ ho.2 p e R s m args below meth c H locs cells slots Z ls C hH hL hc hs hF)
  · exact absurd ho id
theorem k_lrem (hd : decode M.2.1 pc = .ok (.lrem, 1)) (n : Nx g M d b Q (pc + 1) K) : o_ldiv (fun x y => x - x / y * y) K L st h → Sat g M d b Q pc L st h := by
  intro ho p e R s m args below meth c H locs cells slots Z ls C hH hL hc hs hF
  unfold o_ldiv at ho
  split at ho
  · exact lv_lrem C.1 C.2.1 hd ho.1 (n _ _ _ ho.2 p e R s m args below meth c H locs cells slots Z ls C hH hL hc hs hF)
  · exact absurd ho id
theorem k_i2l (hd : decode M.2.1 pc = .ok (.i2l, 1)) (n : Nx g M d b Q (pc + 1) K) : o_i2l K L st h → Sat g M d b Q pc L st h := by
  intro ho p e R s m args below meth c H locs cells slots Z ls C hH hL hc hs hF
  unfold o_i2l at ho
  split at ho
  · exact lv_i2l C.1 C.2.1 hd rfl (n _ _ _ ho p e R s m args below meth c H locs cells slots Z ls C hH hL hc hs hF)
  · exact absurd ho id
theorem k_l2i (hd : decode M.2.1 pc = .ok (.l2i, 1)) (n : Nx g M d b Q (pc + 1) K) : o_l2i K L st h → Sat g M d b Q pc L st h := by
  intro ho p e R s m args below meth c H locs cells slots Z ls C hH hL hc hs hF
  unfold o_l2i at ho
  split at ho
  · exact lv_l2i C.1 C.2.1 hd rfl (n _ _ _ ho p e R s m args below meth c H locs cells slots Z ls C hH hL hc hs hF)
  · exact absurd ho id
theorem k_lcmp (hd : decode M.2.1 pc = .ok (.lcmp, 1)) (n : Nx g M d b Q (pc + 1) K) : o_lcmp K L st h → Sat g M d b Q pc L st h := by
  intro ho p e R s m args below meth c H locs cells slots Z ls C hH hL hc hs hF
  unfold o_lcmp at ho
  split at ho
  · exact W.lcmp C.1 C.2.1 hd (n _ _ _ ho p e R s m args below meth c H locs cells slots Z ls C hH hL hc hs hF)
  · exact absurd ho id
theorem k_dup (hd : decode M.2.1 pc = .ok (.dup, 1)) (n : Nx g M d b Q (pc + 1) K) : o_dup K L st h → Sat g M d b Q pc L st h := by
  intro ho p e R s m args below meth c H locs cells slots Z ls C hH hL hc hs hF
  unfold o_dup at ho
  split at ho
  · exact lv_dup C.1 C.2.1 hd rfl (n _ _ _ ho p e R s m args below meth c H locs cells slots Z ls C hH hL hc hs hF)
  · exact lv_dup C.1 C.2.1 hd rfl (n _ _ _ ho p e R s m args below meth c H locs cells slots Z ls C hH hL hc hs hF)
  · exact absurd ho id
theorem k_pop (hd : decode M.2.1 pc = .ok (.pop, 1)) (n : Nx g M d b Q (pc + 1) K) : o_pop K L st h → Sat g M d b Q pc L st h := by
  intro ho p e R s m args below meth c H locs cells slots Z ls C hH hL hc hs hF
  unfold o_pop at ho
  split at ho
  · exact lv_pop C.1 C.2.1 hd rfl (n _ _ _ ho p e R s m args below meth c H locs cells slots Z ls C hH hL hc hs hF)
  · exact lv_pop C.1 C.2.1 hd rfl (n _ _ _ ho p e R s m args below meth c H locs cells slots Z ls C hH hL hc hs hF)
  · exact absurd ho id
theorem k_dup2 (hd : decode M.2.1 pc = .ok (.dup2, 1)) (n : Nx g M d b Q (pc + 1) K) : o_dup2 K L st h → Sat g M d b Q pc L st h := by
  intro ho p e R s m args below meth c H locs cells slots Z ls C hH hL hc hs hF
  unfold o_dup2 at ho
  split at ho
  · exact lv_dup2_11 C.1 C.2.1 hd rfl rfl (n _ _ _ ho p e R s m args below meth c H locs cells slots Z ls C hH hL hc hs hF)
  · exact absurd ho id
theorem k_if_eq {off : Int} {tgt : Nat} (hd : decode M.2.1 pc = .ok (.ifCond .eq off, 3)) (ht : (pc : Int) + off = (tgt : Int)) (n1 : Nx g M d b Q tgt K1) (n2 : Nx g M d b Q (pc + 3) K2) : o_if (fun x => x = 0) K1 K2 L st h → Sat g M d b Q pc L st h := by
  intro ho p e R s m args below meth c H locs cells slots Z ls C hH hL hc hs hF
  unfold o_if at ho
  split at ho
  · exact lv_if_eq C.1 C.2.1 hd ht (fun q => n1 _ _ _ (ho.1 q) p e R s m args below meth c H locs cells slots Z ls C hH hL hc hs hF) (fun q => n2 _ _ _ (ho.2 q) p e R s m args below meth c H locs cells slots Z ls C hH hL hc hs hF)
  · exact absurd ho id
theorem k_icmp_eq {off : Int} {tgt : Nat} (hd : decode M.2.1 pc = .ok (.if_icmp .eq off, 3)) (ht : (pc : Int) + off = (tgt : Int)) (n1 : Nx g M d b Q tgt K1) (n2 : Nx g M d b Q (pc + 3) K2) : o_icmp (fun x y => x = y) K1 K2 L st h → Sat g M d b Q pc L st h := by
  intro ho p e R s m args below meth c H locs cells slots Z ls C hH hL hc hs hF
  unfold o_icmp at ho
  split at ho
  · exact lv_icmp_eq C.1 C.2.1 hd ht (fun q => n1 _ _ _ (ho.1 q) p e R s m args below meth c H locs cells slots Z ls C hH hL hc hs hF) (fun q => n2 _ _ _ (ho.2 q) p e R s m args below meth c H locs cells slots Z ls C hH hL hc hs hF)
  · exact absurd ho id
theorem k_if_lt {off : Int} {tgt : Nat} (hd : decode M.2.1 pc = .ok (.ifCond .lt off, 3)) (ht : (pc : Int) + off = (tgt : Int)) (n1 : Nx g M d b Q tgt K1) (n2 : Nx g M d b Q (pc + 3) K2) : o_if (fun x => x < 0) K1 K2 L st h → Sat g M d b Q pc L st h := by
  intro ho p e R s m args below meth c H locs cells slots Z ls C hH hL hc hs hF
  unfold o_if at ho
  split at ho
  · exact lv_if_lt C.1 C.2.1 hd ht (fun q => n1 _ _ _ (ho.1 q) p e R s m args below meth c H locs cells slots Z ls C hH hL hc hs hF) (fun q => n2 _ _ _ (ho.2 q) p e R s m args below meth c H locs cells slots Z ls C hH hL hc hs hF)
  · exact absurd ho id
theorem k_icmp_lt {off : Int} {tgt : Nat} (hd : decode M.2.1 pc = .ok (.if_icmp .lt off, 3)) (ht : (pc : Int) + off = (tgt : Int)) (n1 : Nx g M d b Q tgt K1) (n2 : Nx g M d b Q (pc + 3) K2) : o_icmp (fun x y => x < y) K1 K2 L st h → Sat g M d b Q pc L st h := by
  intro ho p e R s m args below meth c H locs cells slots Z ls C hH hL hc hs hF
  unfold o_icmp at ho
  split at ho
  · exact lv_icmp_lt C.1 C.2.1 hd ht (fun q => n1 _ _ _ (ho.1 q) p e R s m args below meth c H locs cells slots Z ls C hH hL hc hs hF) (fun q => n2 _ _ _ (ho.2 q) p e R s m args below meth c H locs cells slots Z ls C hH hL hc hs hF)
  · exact absurd ho id
theorem k_if_ge {off : Int} {tgt : Nat} (hd : decode M.2.1 pc = .ok (.ifCond .ge off, 3)) (ht : (pc : Int) + off = (tgt : Int)) (n1 : Nx g M d b Q tgt K1) (n2 : Nx g M d b Q (pc + 3) K2) : o_if (fun x => 0 ≤ x) K1 K2 L st h → Sat g M d b Q pc L st h := by
  intro ho p e R s m args below meth c H locs cells slots Z ls C hH hL hc hs hF
  unfold o_if at ho
  split at ho
  · exact lv_if_ge C.1 C.2.1 hd ht (fun q => n1 _ _ _ (ho.1 q) p e R s m args below meth c H locs cells slots Z ls C hH hL hc hs hF) (fun q => n2 _ _ _ (ho.2 q) p e R s m args below meth c H locs cells slots Z ls C hH hL hc hs hF)
  · exact absurd ho id
theorem k_icmp_ge {off : Int} {tgt : Nat} (hd : decode M.2.1 pc = .ok (.if_icmp .ge off, 3)) (ht : (pc : Int) + off = (tgt : Int)) (n1 : Nx g M d b Q tgt K1) (n2 : Nx g M d b Q (pc + 3) K2) : o_icmp (fun x y => y ≤ x) K1 K2 L st h → Sat g M d b Q pc L st h := by
  intro ho p e R s m args below meth c H locs cells slots Z ls C hH hL hc hs hF
  unfold o_icmp at ho
  split at ho
  · exact lv_icmp_ge C.1 C.2.1 hd ht (fun q => n1 _ _ _ (ho.1 q) p e R s m args below meth c H locs cells slots Z ls C hH hL hc hs hF) (fun q => n2 _ _ _ (ho.2 q) p e R s m args below meth c H locs cells slots Z ls C hH hL hc hs hF)
  · exact absurd ho id
theorem k_if_gt {off : Int} {tgt : Nat} (hd : decode M.2.1 pc = .ok (.ifCond .gt off, 3)) (ht : (pc : Int) + off = (tgt : Int)) (n1 : Nx g M d b Q tgt K1) (n2 : Nx g M d b Q (pc + 3) K2) : o_if (fun x => 0 < x) K1 K2 L st h → Sat g M d b Q pc L st h := by
  intro ho p e R s m args below meth c H locs cells slots Z ls C hH hL hc hs hF
  unfold o_if at ho
  split at ho
  · exact lv_if_gt C.1 C.2.1 hd ht (fun q => n1 _ _ _ (ho.1 q) p e R s m args below meth c H locs cells slots Z ls C hH hL hc hs hF) (fun q => n2 _ _ _ (ho.2 q) p e R s m args below meth c H locs cells slots Z ls C hH hL hc hs hF)
  · exact absurd ho id
theorem k_icmp_gt {off : Int} {tgt : Nat} (hd : decode M.2.1 pc = .ok (.if_icmp .gt off, 3)) (ht : (pc : Int) + off = (tgt : Int)) (n1 : Nx g M d b Q tgt K1) (n2 : Nx g M d b Q (pc + 3) K2) : o_icmp (fun x y => y < x) K1 K2 L st h → Sat g M d b Q pc L st h := by
  intro ho p e R s m args below meth c H locs cells slots Z ls C hH hL hc hs hF
  unfold o_icmp at ho
  split at ho
  · exact lv_icmp_gt C.1 C.2.1 hd ht (fun q => n1 _ _ _ (ho.1 q) p e R s m args below meth c H locs cells slots Z ls C hH hL hc hs hF) (fun q => n2 _ _ _ (ho.2 q) p e R s m args below meth c H locs cells slots Z ls C hH hL hc hs hF)
  · exact absurd ho id
theorem k_if_le {off : Int} {tgt : Nat} (hd : decode M.2.1 pc = .ok (.ifCond .le off, 3)) (ht : (pc : Int) + off = (tgt : Int)) (n1 : Nx g M d b Q tgt K1) (n2 : Nx g M d b Q (pc + 3) K2) : o_if (fun x => x ≤ 0) K1 K2 L st h → Sat g M d b Q pc L st h := by
  intro ho p e R s m args below meth c H locs cells slots Z ls C hH hL hc hs hF
  unfold o_if at ho
  split at ho
  · exact lv_if_le C.1 C.2.1 hd ht (fun q => n1 _ _ _ (ho.1 q) p e R s m args below meth c H locs cells slots Z ls C hH hL hc hs hF) (fun q => n2 _ _ _ (ho.2 q) p e R s m args below meth c H locs cells slots Z ls C hH hL hc hs hF)
  · exact absurd ho id
theorem k_icmp_le {off : Int} {tgt : Nat} (hd : decode M.2.1 pc = .ok (.if_icmp .le off, 3)) (ht : (pc : Int) + off = (tgt : Int)) (n1 : Nx g M d b Q tgt K1) (n2 : Nx g M d b Q (pc + 3) K2) : o_icmp (fun x y => x ≤ y) K1 K2 L st h → Sat g M d b Q pc L st h := by
  intro ho p e R s m args below meth c H locs cells slots Z ls C hH hL hc hs hF
  unfold o_icmp at ho
  split at ho
  · exact lv_icmp_le C.1 C.2.1 hd ht (fun q => n1 _ _ _ (ho.1 q) p e R s m args below meth c H locs cells slots Z ls C hH hL hc hs hF) (fun q => n2 _ _ _ (ho.2 q) p e R s m args below meth c H locs cells slots Z ls C hH hL hc hs hF)
  · exact absurd ho id
theorem k_if_ne {off : Int} {tgt : Nat} (hd : decode M.2.1 pc = .ok (.ifCond .ne off, 3)) (ht : (pc : Int) + off = (tgt : Int)) (n2 : Nx g M d b Q tgt K2) (n1 : Nx g M d b Q (pc + 3) K1) : o_if (fun x => x = 0) K1 K2 L st h → Sat g M d b Q pc L st h := by
  intro ho p e R s m args below meth c H locs cells slots Z ls C hH hL hc hs hF
  unfold o_if at ho
  split at ho
  · exact lv_if_ne C.1 C.2.1 hd ht (fun q => n2 _ _ _ (ho.2 q) p e R s m args below meth c H locs cells slots Z ls C hH hL hc hs hF) (fun q => n1 _ _ _ (ho.1 q) p e R s m args below meth c H locs cells slots Z ls C hH hL hc hs hF)
  · exact absurd ho id
theorem k_icmp_ne {off : Int} {tgt : Nat} (hd : decode M.2.1 pc = .ok (.if_icmp .ne off, 3)) (ht : (pc : Int) + off = (tgt : Int)) (n2 : Nx g M d b Q tgt K2) (n1 : Nx g M d b Q (pc + 3) K1) : o_icmp (fun x y => x = y) K1 K2 L st h → Sat g M d b Q pc L st h := by
  intro ho p e R s m args below meth c H locs cells slots Z ls C hH hL hc hs hF
  unfold o_icmp at ho
  split at ho
  · exact lv_icmp_ne C.1 C.2.1 hd ht (fun q => n2 _ _ _ (ho.2 q) p e R s m args below meth c H locs cells slots Z ls C hH hL hc hs hF) (fun q => n1 _ _ _ (ho.1 q) p e R s m args below meth c H locs cells slots Z ls C hH hL hc hs hF)
  · exact absurd ho id
theorem k_goto {off : Int} {tgt : Nat} (hd : decode M.2.1 pc = .ok (.goto off, 3)) (ht : (pc : Int) + off = (tgt : Int)) (n : Nx g M d b Q tgt K) : K L st h → Sat g M d b Q pc L st h := by
  intro ho p e R s m args below meth c H locs cells slots Z ls C hH hL hc hs hF
  exact lv_goto C.1 C.2.1 hd ht (n _ _ _ ho p e R s m args below meth c H locs cells slots Z ls C hH hL hc hs hF)
theorem k_ifnull {off : Int} {tgt : Nat} (hd : decode M.2.1 pc = .ok (.ifnull off, 3)) (ht : (pc : Int) + off = (tgt : Int)) (n1 : Nx g M d b Q tgt K1) (n2 : Nx g M d b Q (pc + 3) K2) : o_ifnull K1 K2 L st h → Sat g M d b Q pc L st h := by
  intro ho p e R s m args below meth c H locs cells slots Z ls C hH hL hc hs hF
  unfold o_ifnull at ho
  split at ho
  · exact lv_ifnullN C.1 C.2.1 hd ht (n1 _ _ _ ho p e R s m args below meth c H locs cells slots Z ls C hH hL hc hs hF)
  · exact lv_ifnull C.1 C.2.1 hd (n2 _ _ _ ho p e R s m args below meth c H locs cells slots Z ls C hH hL hc hs hF)
  · exact absurd ho id
theorem k_ifnonnull {off : Int} {tgt : Nat} (hd : decode M.2.1 pc = .ok (.ifnonnull off, 3)) (ht : (pc : Int) + off = (tgt : Int)) (n1 : Nx g M d b Q (pc + 3) K1) (n2 : Nx g M d b Q tgt K2) : o_ifnull K1 K2 L st h → Sat g M d b Q pc L st h := by
  intro ho p e R s m args below meth c H locs cells slots Z ls C hH hL hc hs hF
  unfold o_ifnull at ho
  split at ho
  · exact lv_ifnonnullN C.1 C.2.1 hd (n1 _ _ _ ho p e R s m args below meth c H locs cells slots Z ls C hH hL hc hs hF)
  · exact lv_ifnonnull C.1 C.2.1 hd ht (n2 _ _ _ ho p e R s m args below meth c H locs cells slots Z ls C hH hL hc hs hF)
  · exact absurd ho id
end OPS
