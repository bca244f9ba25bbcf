/-! the abstract machine: a heap of numbered cells above the law's own; its judgement Sat; how a method's Sat gives its contract -/
abbrev MD : Type := MethodName × ByteArray × Nat × Option FieldType
abbrev HP : Type := (Nat × (Nat → Nat) × (Nat → Nat)) × (Nat → Nat → Int32) × (Nat → Nat → Int64) × (Nat → Nat → Option Nat)
abbrev hn (h : HP) : Nat := h.1.1
abbrev hK (h : HP) : Nat → Nat := h.1.2.1
abbrev hN (h : HP) : Nat → Nat := h.1.2.2
abbrev hI (h : HP) : Nat → Nat → Int32 := h.2.1
abbrev hJ (h : HP) : Nat → Nat → Int64 := h.2.2.1
abbrev hR (h : HP) : Nat → Nat → Option Nat := h.2.2.2
def up1 {α : Type} (f : Nat → α) (a : Nat) (v : α) : Nat → α := fun x => if x = a then v else f x
def up2 {α : Type} (f : Nat → Nat → α) (a k : Nat) (v : α) : Nat → Nat → α := fun x y => if x = a ∧ y = k then v else f x y
def setI (h : HP) (a k : Nat) (v : Int32) : HP := (h.1, up2 (hI h) a k v, h.2.2)
def setJ (h : HP) (a k : Nat) (v : Int64) : HP := (h.1, hI h, up2 (hJ h) a k v, hR h)
def setR (h : HP) (a k : Nat) (v : Option Nat) : HP := (h.1, hI h, hJ h, up2 (hR h) a k v)
/-- a new cell of a kind and a length, all of it 0 and null -/
def newH (h : HP) (kind len : Nat) : HP := ((hn h + 1, up1 (hK h) (hn h) kind, up1 (hN h) (hn h) len), up1 (hI h) (hn h) (fun _ => 0), up1 (hJ h) (hn h) (fun _ => 0), up1 (hR h) (hn h) (fun _ => none))
/-- what is fixed: launch, tables, array types, the first address, the constants' addresses, the law's first heap -/
abbrev GT : Type := Launch × va_G × (Nat → ClassId) × Nat × (Nat → Nat) × (Nat → Nat) × Heap
abbrev gl (g : GT) : Launch := g.1
abbrev gD (g : GT) : va_G := g.2.1
abbrev gA (g : GT) : Nat → ClassId := g.2.2.1
abbrev gz (g : GT) : Nat := g.2.2.2.1
abbrev gS (g : GT) : Nat → Nat := g.2.2.2.2.1
abbrev gV (g : GT) : Nat → Nat := g.2.2.2.2.2.1
abbrev gH (g : GT) : Heap := g.2.2.2.2.2.2
def trv (g : GT) : Value → Value
  | .ref k => .ref (gz g + k)
  | .float k => .ref (gS g k.toNat)
  | v => v
def isPad : Value → Bool
  | .double _ => true
  | _ => false
def cC (c : Nat) : String := match c with
  | 0 => RX0
  | 1 => RX1
  | 2 => RX2
  | 3 => RX3
  | 4 => RX4
  | 5 => RX5
  | 6 => RX6
  | 7 => RX7
  | 8 => RX8
  | 9 => RX9
  | _ => RX10
def cT (c : Nat) : u_T := match c with
  | 0 => TX0
  | 1 => TX1
  | 2 => TX2
  | 3 => TX3
  | 4 => TX4
  | 5 => TX5
  | 6 => TX6
  | 7 => TX7
  | 8 => TX8
  | 9 => TX9
  | _ => TX10
def cN (c : Nat) : Nat := match c with
  | 0 => 10
  | 1 => 5
  | 2 => 5
  | 3 => 9
  | 4 => 5
  | 5 => 3
  | 6 => 7
  | 7 => 6
  | 8 => 13
  | 9 => 12
  | _ => 65
def cty (c : Nat) : Nat → FieldType := match c with
  | 0 => tyX0
  | 1 => tyX1
  | 2 => tyX2
  | 3 => tyX3
  | 4 => tyX4
  | 5 => tyX5
  | 6 => tyX6
  | 7 => tyX7
  | 8 => tyX8
  | 9 => tyX9
  | _ => tyX10
theorem ck_cl {c : Nat} (h : c < 11) : vwCl[c]? = some (cC c, cT c, cN c) := by
  rcases (show c = 0 ∨ c = 1 ∨ c = 2 ∨ c = 3 ∨ c = 4 ∨ c = 5 ∨ c = 6 ∨ c = 7 ∨ c = 8 ∨ c = 9 ∨ c = 10 by omega) with rfl | rfl | rfl | rfl | rfl | rfl | rfl | rfl | rfl | rfl | rfl <;> rfl
theorem ck_ty {c : Nat} (h : c < 11) : ∀ k, k < cN c → parseFieldDescriptor (cT c k).2.2.1 = some (cty c k) := by
  rcases (show c = 0 ∨ c = 1 ∨ c = 2 ∨ c = 3 ∨ c = 4 ∨ c = 5 ∨ c = 6 ∨ c = 7 ∨ c = 8 ∨ c = 9 ∨ c = 10 by omega) with rfl | rfl | rfl | rfl | rfl | rfl | rfl | rfl | rfl | rfl | rfl
  · exact tyX0_ok
  · exact tyX1_ok
  · exact tyX2_ok
  · exact tyX3_ok
  · exact tyX4_ok
  · exact tyX5_ok
  · exact tyX6_ok
  · exact tyX7_ok
  · exact tyX8_ok
  · exact tyX9_ok
  · exact tyX10_ok
theorem ck_nm {c : Nat} (h : c < 11) : ∀ a, a < cN c → ∀ b, b < cN c → a ≠ b → (cT c a).2.1 ≠ (cT c b).2.1 := by
  rcases (show c = 0 ∨ c = 1 ∨ c = 2 ∨ c = 3 ∨ c = 4 ∨ c = 5 ∨ c = 6 ∨ c = 7 ∨ c = 8 ∨ c = 9 ∨ c = 10 by omega) with rfl | rfl | rfl | rfl | rfl | rfl | rfl | rfl | rfl | rfl | rfl
  · exact nmX0
  · exact nmX1
  · exact nmX2
  · exact nmX3
  · exact nmX4
  · exact nmX5
  · exact nmX6
  · exact nmX7
  · exact nmX8
  · exact nmX9
  · exact nmX10
theorem ck_in0 : ∀ w ∈ wsX00, w ∈ lw_tbl := by decide +kernel
theorem ck_in1 : ∀ w ∈ wsX10, w ∈ lw_tbl := by decide +kernel
theorem ck_in2 : ∀ w ∈ wsX20, w ∈ lw_tbl := by decide +kernel
theorem ck_in3 : ∀ w ∈ wsX30, w ∈ lw_tbl := by decide +kernel
theorem ck_in4 : ∀ w ∈ wsX40, w ∈ lw_tbl := by decide +kernel
theorem ck_in5 : ∀ w ∈ wsX50, w ∈ lw_tbl := by decide +kernel
theorem ck_in6 : ∀ w ∈ wsX60, w ∈ lw_tbl := by decide +kernel
theorem ck_in7 : ∀ w ∈ wsX70, w ∈ lw_tbl := by decide +kernel
theorem ck_in8 : ∀ w ∈ wsX80, w ∈ lw_tbl := by decide +kernel
theorem ck_in9 : ∀ w ∈ wsX90, w ∈ lw_tbl := by decide +kernel
theorem ck_in10 : ∀ w ∈ wsX100, w ∈ lw_tbl := by decide +kernel
theorem ck_in {c : Nat} (h : c < 11) : ∀ w ∈ u_ws (cC c) (cT c) (cN c), w ∈ lw_tbl := by
  rcases (show c = 0 ∨ c = 1 ∨ c = 2 ∨ c = 3 ∨ c = 4 ∨ c = 5 ∨ c = 6 ∨ c = 7 ∨ c = 8 ∨ c = 9 ∨ c = 10 by omega) with rfl | rfl | rfl | rfl | rfl | rfl | rfl | rfl | rfl | rfl | rfl
  · exact ck_in0
  · exact ck_in1
  · exact ck_in2
  · exact ck_in3
  · exact ck_in4
  · exact ck_in5
  · exact ck_in6
  · exact ck_in7
  · exact ck_in8
  · exact ck_in9
  · exact ck_in10
/-- 0: a number of 32 bits, 1: of 64, 2: a reference -/
def ftag (t : FieldType) : Nat := match t with
  | .long => 1
  | .object _ => 2
  | .array _ => 2
  | _ => 0
def fv (g : GT) (h : HP) (a c k : Nat) : Value := match ftag (cty c k) with
  | 0 => .int (hI h a k)
  | 1 => .long (hJ h a k)
  | _ => va_rf ((hR h a k).map (gz g + ·))
def fl (g : GT) (h : HP) (a c : Nat) : List Value := (List.range (cN c)).map (fv g h a c)
/-- the kinds: c + 1 for class c; 21 int, 22 byte, 23 boolean, 24 long, 25 Town, 26 Rule, 27 Ledger -/
def ar (g : GT) (h : HP) (a : Nat) : vp_A := (hN h a, if hK h a = 24 then .inr (.inl (hJ h a)) else if 25 ≤ hK h a then .inr (.inr (.inr (.inr (fun j => (hR h a j).map (gz g + ·))))) else .inl (hI h a))
def cellE (g : GT) (h : HP) (a : Nat) : va_E := if hK h a ≤ 20 then .inr (hK h a - 1, fl g h a (hK h a - 1)) else .inl (gA g (hK h a), ar g h a)
def gtys (g : GT) : List (ClassId × FieldType) := [(gA g 21, .int), (gA g 22, .byte), (gA g 23, .boolean), (gA g 24, .long), (gA g 25, .object RX8), (gA g 26, .object RX7), (gA g 27, .object RX3)]
/-- the heap holds the cells -/
def Cells (g : GT) (h : HP) (H : Heap) : Prop := H.size = gz g + hn h ∧ (∀ a, a < hn h → hK h a ≠ 0 ∧ va_at (gD g) vwCl (gz g + a, cellE g h a) H) ∧ ∀ a, hn h ≤ a → hK h a = 0
def Hp (g : GT) (h : HP) (s : State) (H : Heap) (locs : List Loc) : Prop := s.heap.size ≤ H.size ∧ (∀ q, q < gz g → H[q]? = s.heap[q]?) ∧ (∀ x ∈ locs, gz g ≤ x.base) ∧ Cells g h H
def lw_nest : List Cond := [.methodLinkNest RX9 21 yX3_init RX9, .methodLinkNest RX3 11 yX8_init RX9, .methodLinkNest RX3 23 yX5_init RX9, .methodLinkNest RX9 36 yX6_init RX9, .methodLinkNest RX6 11 yX8_init RX9, .methodLinkNest RX9 43 yX4_init RX9, .methodLinkNest RX1 11 yX8_init RX9, .methodLinkNest RX0 46 yX8_init RX9, .methodLinkNest RX2 11 yX8_init RX9, .methodLinkNest RX9 71 yX7_init RX9]
def LH (g : GT) (ls : Array Slot) (n : Nat) (L : List Value) : Prop := ls.size = n ∧ lv_wf ls ∧ ∀ (i : Nat) (v : Value), L[i]? = some v → isPad v = false → ls[i]? = some (.val (trv g v))
