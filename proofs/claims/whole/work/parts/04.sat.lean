/-! what holds of every state, the judgement, and the contract that comes of it -/
def lw_good : List Cond := lw_tbl.filter goodWord
theorem good_in {w : Cond} (h : w ∈ lw_tbl) (h2 : goodWord w = true) : w ∈ lw_good := List.mem_filter.mpr ⟨h, h2⟩
theorem good_all {w : Cond} (h : w ∈ lw_good) : goodWord w = true := (List.mem_filter.mp h).2
def stO : List String := [RX6, RX6, RX6, RX6, RX6, RX6, RX10, RX10, RX10, RX10, RX10, RX10, RX10, RX10, RX10, RX10, RX10, RX10, RX10, RX10, RX10, RX10, RX10, RX10]
def stK : List Nat := [48, 92, 103, 114, 119, 145, 175, 177, 179, 180, 181, 182, 183, 184, 186, 188, 190, 192, 274, 288, 290, 292, 330, 332]
def stX : List String := ["city bed lodger ", "lie ", "if ", "and or ", "not ", "lodger bed shape body wants hollow under stuff room last near night ", "lodger", "bed", "shape", "body", "wants", "hollow", "under", "stuff", "room", "last", "near", "night", "not", "and", "or", "city", "lie", "if"]
def stLen : List Nat := [16, 4, 3, 7, 4, 68, 6, 3, 5, 4, 5, 6, 5, 5, 4, 4, 4, 5, 3, 3, 2, 4, 3, 2]
def stByt : List (List Int32) := [[99, 105, 116, 121, 32, 98, 101, 100, 32, 108, 111, 100, 103, 101, 114, 32], [108, 105, 101, 32], [105, 102, 32], [97, 110, 100, 32, 111, 114, 32], [110, 111, 116, 32], [108, 111, 100, 103, 101, 114, 32, 98, 101, 100, 32, 115, 104, 97, 112, 101, 32, 98, 111, 100, 121, 32, 119, 97, 110, 116, 115, 32, 104, 111, 108, 108, 111, 119, 32, 117, 110, 100, 101, 114, 32, 115, 116, 117, 102, 102, 32, 114, 111, 111, 109, 32, 108, 97, 115, 116, 32, 110, 101, 97, 114, 32, 110, 105, 103, 104, 116, 32], [108, 111, 100, 103, 101, 114], [98, 101, 100], [115, 104, 97, 112, 101], [98, 111, 100, 121], [119, 97, 110, 116, 115], [104, 111, 108, 108, 111, 119], [117, 110, 100, 101, 114], [115, 116, 117, 102, 102], [114, 111, 111, 109], [108, 97, 115, 116], [110, 101, 97, 114], [110, 105, 103, 104, 116], [110, 111, 116], [97, 110, 100], [111, 114], [99, 105, 116, 121], [108, 105, 101], [105, 102]]
def GS (g : GT) (U : State) : Prop := va_K (gD g) vwCl (gtys g) U ∧ (∀ w ∈ lw_nest, va_Nw w U) ∧ (va_AO RX8 U ∧ va_AO RX7 U ∧ va_AO RX3 U) ∧ (∀ i, i < 24 → vk_R (stO.getD i "") (stK.getD i 0) (stX.getD i "") (gS g i) U) ∧ vk_S 24 stLen stByt (gS g) (fun i => gS g (100 + i)) (fun q => gz g ≤ q) U (gH g) ∧ (va_Z "java/lang/String" "COMPACT_STRINGS" "Z" (.int 1) (fun q => gz g ≤ q) U (gH g) ∧ (va_Z "jdk/internal/util/Preconditions" "SIOOBE_FORMATTER" "Ljava/util/function/BiFunction;" (.ref (gS g 200)) (fun q => gz g ≤ q) U (gH g) ∨ va_Z "jdk/internal/util/Preconditions" "SIOOBE_FORMATTER" "Ljava/util/function/BiFunction;" .null (fun q => gz g ≤ q) U (gH g))) ∧ ((gH g).size = gz g ∧ ∀ scr : Cell, (gH g)[gS g 99]? = some scr → U.isArrayOf scr .int) ∧ ∀ q, q < gz g → U.heap[q]? = (gH g)[q]?
theorem nest_warm {s U : State} (hW : s.WarmedH U.vm) (h : ∀ w ∈ lw_nest, va_Nw w s) : ∀ w ∈ lw_nest, va_Nw w U := by
  intro w hw
  have h1 := h w hw
  simp only [lw_nest, List.mem_cons, List.not_mem_nil, or_false] at hw
  rcases hw with rfl | rfl | rfl | rfl | rfl | rfl | rfl | rfl | rfl | rfl <;> exact va_Nw.warmM hW h1
theorem nest_same {s U : State} (hv : s.vm = U.vm) (h : ∀ w ∈ lw_nest, va_Nw w s) : ∀ w ∈ lw_nest, va_Nw w U := by
  intro w hw
  have h1 := h w hw
  simp only [lw_nest, List.mem_cons, List.not_mem_nil, or_false] at hw
  rcases hw with rfl | rfl | rfl | rfl | rfl | rfl | rfl | rfl | rfl | rfl <;> exact va_Nw.same rfl hv h1
theorem GS.warm {g : GT} {s U : State} (hW : s.WarmedH U.vm) (hq : ∀ q, q < gz g → U.heap[q]? = s.heap[q]?) (h : GS g s) : GS g U := by
  obtain ⟨h1, h2, ⟨h3, h4, h5⟩, h6, h7, ⟨h8, h9⟩, h10, h11⟩ := h
  exact ⟨h1.moved hW.alike, nest_warm hW h2, ⟨h3.moved hW.alike, h4.moved hW.alike, h5.moved hW.alike⟩, fun i hi => (h6 i hi).warm hW, h7.moved hW.alike, ⟨h8.moved hW.alike, h9.imp (fun q => q.moved hW.alike) (fun q => q.moved hW.alike)⟩, ⟨h10.1, fun scr hs => State.isArrayOf_alike hW.alike (h10.2 scr hs)⟩, fun q hz => (hq q hz).trans (h11 q hz)⟩
theorem GS.same {g : GT} {s U : State} (hv : U.vm = s.vm) (hh : U.heap = s.heap) (h : GS g s) : GS g U := by
  obtain ⟨h1, h2, ⟨h3, h4, h5⟩, h6, h7, ⟨h8, h9⟩, h10, h11⟩ := h
  have ha : s.vm.Alike U.vm := by rw [hv]; exact Vm.Alike.refl _
  exact ⟨h1.moved ha, nest_same hv.symm h2, ⟨h3.moved ha, h4.moved ha, h5.moved ha⟩, fun i hi => (h6 i hi).same hv, h7.moved ha, ⟨h8.moved ha, h9.imp (fun q => q.moved ha) (fun q => q.moved ha)⟩, ⟨h10.1, fun scr hs => State.isArrayOf_alike ha (h10.2 scr hs)⟩, fun q hz => by rw [hh]; exact h11 q hz⟩
def Ctx (g : GT) (M : MD) (d : Nat) (p : Program) (R : Room) (s : State) (m : MethodId) (args : Array Value) (meth : Method) (c : Code) : Prop :=
  p.tables.exec = Jvm.exec ∧ c.code = M.2.1 ∧ meth.sig.returnType = M.2.2.2 ∧ c.maxLocals = M.2.2.1 ∧ s.vm.findClass M.1.cls = some m.cls ∧ meth.name = M.1.name ∧ (∀ w ∈ lw_good, w.before args s = true) ∧ meth.locks = false ∧ d ≤ R.frames ∧ 64 * d ≤ R.locals ∧ GS g s ∧ gz g ≤ s.heap.size
def RetAt (M : MD) (pc : Nat) (r : Option Value) : Prop := match r with
  | none => decode M.2.1 pc = .ok (.return_, 1) ∧ M.2.2.2 = none
  | some (.int v) => decode M.2.1 pc = .ok (.ireturn, 1) ∧ ∃ ty, M.2.2.2 = some ty ∧ narrow ty (.int v) = .int v
  | some (.long _) => decode M.2.1 pc = .ok (.lreturn, 1) ∧ M.2.2.2 = some .long
  | some (.ref _) => decode M.2.1 pc = .ok (.areturn, 1) ∧ ∃ n, M.2.2.2 = some (.object n)
  | some (.float _) => decode M.2.1 pc = .ok (.areturn, 1) ∧ ∃ n, M.2.2.2 = some (.object n)
  | some .null => decode M.2.1 pc = .ok (.areturn, 1) ∧ ∃ n, M.2.2.2 = some (.object n)
  | _ => False
/-- from this place of the method M, with d frames and b cells and slots left, it comes to its end with Q -/
def Sat (g : GT) (M : MD) (d : Nat) (b : Nat × Nat) (Q : Option Value → HP → Prop) (pc : Nat) (L st : List Value) (h : HP) : Prop :=
  ∀ (p : Program) (e : Env) (R : Room) (s : State) (m : MethodId) (args : Array Value) (below : List Frame) (meth : Method) (c : Code) (H : Heap) (locs : List Loc) (cells slots : Nat) (Z : State → Prop) (ls : Array Slot),
    Ctx g M d p R s m args meth c → Hp g h s H locs → LH g ls M.2.2.1 L → cells + b.1 ≤ R.cells → slots + b.2 ≤ R.slots →
    (∀ (r : Option Value) (h' : HP) (H' : Heap) (locs' : List Loc) (cells' slots' : Nat) (pc' : Nat) (ls' : Array Slot), Q r h' → Hp g h' s H' locs' → cells' ≤ R.cells → slots' ≤ R.slots → RetAt M pc' r → W p (gl g) e R s m args below meth c H' locs' cells' slots' Z (F0 m pc' ls' (r.toList.map (trv g)))) →
    W p (gl g) e R s m args below meth c H locs cells slots Z (F0 m pc ls (st.map (trv g)))
def ws_of (M : MD) : List Cond := Cond.code M.1 M.2.1 M.2.2.1 M.2.2.2 :: lw_good
def rm_of (d mc ms : Nat) : Room := { frames := d, cells := mc, slots := ms, locals := 64 * d }
def P_of (g : GT) (h : HP) (av : List Value) : Array Value → State → Prop := fun v U => v = (av.map (trv g)).toArray ∧ GS g U ∧ gz g ≤ U.heap.size ∧ Cells g h U.heap
def Q_of (g : GT) (Q : Option Value → HP → Prop) : Array Value → State → Outcome → State → Prop := fun _ st o t => ∃ (r : Option Value) (h' : HP), o = .returned (r.map (trv g)) ∧ Q r h' ∧ st.heap.size ≤ t.heap.size ∧ (∀ q, q < gz g → t.heap[q]? = st.heap[q]?) ∧ Cells g h' t.heap
/-- the locals at a method's entry -/
def entF : List Value → List Value
  | [] => []
  | .long x :: vs => .long x :: .double 0 :: entF vs
  | v :: vs => v :: entF vs
def entL (n : Nat) (vs : List Value) : List Value := entF vs ++ List.replicate (n - (entF vs).length) (.double 0)
