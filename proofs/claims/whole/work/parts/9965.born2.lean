/-! the two objects, born: closed heaps -/
def hZ : HP := ((0, fun _ => 0, fun _ => 0), fun _ _ => 0, fun _ _ => 0, fun _ _ => none)
def hB0 : HP := newH hZ 10 0
def hCX6 : HP := (newH (setR (newH (setR (newH (setR (fX3 3 4 (newH (setR (newH (setR (newH hB0 21 400) 0 0 (some 1)) 26 6) 0 2 (some 2)) 4 0)) 0 4 (some 3)) 27 4) 0 5 (some 27)) 23 4) 0 6 (some 28)) 7 0)
def hX6_e : HP := (setR (newH (setR (fX8 30 31 (newH hCX6 9 0)) 29 0 (some 30)) 21 0) 29 1 (some 39))
def hX9_1 : HP := (setR hX6_e 0 7 (some 29))
def hCX4 : HP := (newH hX9_1 5 0)
def hX4_e : HP := (setR (newH (setR (newH (setR (newH (setR (newH (setR (newH hCX4 21 5) 40 0 (some 41)) 21 5) 40 1 (some 42)) 21 6) 40 2 (some 43)) 21 5) 40 3 (some 44)) 24 32) 40 4 (some 45))
def hCX1 : HP := (newH (setR hX4_e 0 8 (some 40)) 2 0)
def hX1_e : HP := (setR (setR (newH (setR (newH (setR (fX8 47 48 (newH hCX1 9 0)) 46 1 (some 47)) 21 671) 46 2 (some 56)) 21 3) 46 3 (some 57)) 46 0 (some 40))
def hCX0 : HP := (newH (setR hX1_e 0 9 (some 46)) 1 0)
def hX0_1 : HP := (setR (newH (setR (newH (setR (newH (setR (newH (setR (newH (setR (newH (setR (newH hCX0 25 5) 58 1 (some 59)) 21 6) 58 2 (some 60)) 21 6) 58 3 (some 61)) 21 7) 58 4 (some 62)) 21 36) 58 5 (some 63)) 21 7) 58 6 (some 64)) 21 5) 58 7 (some 65))
def hX0_2 : HP := (setR (fX8 68 69 (newH (setR (setR (newH (setR (newH hX0_1 21 25) 58 8 (some 66)) 21 25) 58 9 (some 67)) 58 0 (some 40)) 9 0)) 59 (0 : Int32).toNatClampNeg (some 68))
def hX0_3 : HP := (setR (fX8 95 96 (newH (setR (fX8 86 87 (newH (setR (fX8 77 78 (newH hX0_2 9 0)) 59 (1 : Int32).toNatClampNeg (some 77)) 9 0)) 59 (2 : Int32).toNatClampNeg (some 86)) 9 0)) 59 (3 : Int32).toNatClampNeg (some 95))
def hX0_e : HP := (setR (fX8 104 105 (newH hX0_3 9 0)) 59 (4 : Int32).toNatClampNeg (some 104))
def hCX2 : HP := (newH (setR hX0_e 0 10 (some 58)) 3 0)
def hX2_e : HP := (setR (setR (newH (setR (newH (setR (newH (setR (fX8 114 115 (newH hCX2 9 0)) 113 1 (some 114)) 21 6) 113 2 (some 123)) 21 36) 113 3 (some 124)) 21 2) 113 4 (some 125)) 113 0 (some 40))
def hX9_2 : HP := (setR hX2_e 0 11 (some 113))
def hX9_3 : HP := (setR (fX7 136 137 (newH (setR (fX7 131 132 (newH (setR (fX7 126 127 (newH hX9_2 8 0)) 2 (0 : Int32).toNatClampNeg (some 126)) 8 0)) 2 (1 : Int32).toNatClampNeg (some 131)) 8 0)) 2 (2 : Int32).toNatClampNeg (some 136))
def hX9_4 : HP := (setR (fX7 146 147 (newH (setR (fX7 141 142 (newH hX9_3 8 0)) 2 (3 : Int32).toNatClampNeg (some 141)) 8 0)) 2 (4 : Int32).toNatClampNeg (some 146))
def hX9_5 : HP := (setR (fX3 156 157 (newH (setR (fX7 151 152 (newH hX9_4 8 0)) 2 (5 : Int32).toNatClampNeg (some 151)) 4 0)) 27 (0 : Int32).toNatClampNeg (some 156))
def hX9_6 : HP := (setR (fX3 228 229 (newH (setR (fX3 204 205 (newH (setR (fX3 180 181 (newH hX9_5 4 0)) 27 (1 : Int32).toNatClampNeg (some 180)) 4 0)) 27 (2 : Int32).toNatClampNeg (some 204)) 4 0)) 27 (3 : Int32).toNatClampNeg (some 228))
def hX9_e : HP := hX9_6
def hM0 : HP := newH hX9_e 11 0
def hX10_1 : HP := (setR (setI (setI (setI (setI (setI (setI (setI (setI (newH hM0 21 8) 253 (0 : Int32).toNatClampNeg 0) 253 (1 : Int32).toNatClampNeg 0) 253 (2 : Int32).toNatClampNeg 0) 253 (3 : Int32).toNatClampNeg 0) 253 (4 : Int32).toNatClampNeg 0) 253 (5 : Int32).toNatClampNeg 0) 253 (6 : Int32).toNatClampNeg 0) 253 (7 : Int32).toNatClampNeg (-1)) 252 1 (some 253))
def hX10_2 : HP := (setR (newH (setR (newH (setR (newH (setR (newH (setR (newH (setR (newH (setR (newH hX10_1 21 5) 252 2 (some 254)) 21 5) 252 3 (some 255)) 21 5) 252 4 (some 256)) 21 6) 252 5 (some 257)) 21 6) 252 6 (some 258)) 21 6) 252 7 (some 259)) 21 6) 252 8 (some 260))
def hX10_3 : HP := (setR (newH (setR (newH (setR (newH (setR (newH (setR (newH (setR (newH (setR (newH hX10_2 21 6) 252 9 (some 261)) 21 10) 252 10 (some 262)) 21 10) 252 11 (some 263)) 21 10) 252 12 (some 264)) 21 5) 252 13 (some 265)) 21 5) 252 14 (some 266)) 21 5) 252 15 (some 267))
def hX10_4 : HP := (setR (newH (setR (newH (setR (newH (setR (newH (setR (newH (setR (newH (setR (newH hX10_3 21 6) 252 16 (some 268)) 21 4) 252 17 (some 269)) 21 5) 252 18 (some 270)) 21 5) 252 19 (some 271)) 21 5) 252 20 (some 272)) 21 6) 252 21 (some 273)) 21 6) 252 22 (some 274))
def hX10_5 : HP := (setR (newH (setR (newH (setR (newH (setR (newH (setR (newH (setR (newH (setI (setR (newH hX10_4 21 6) 252 23 (some 275)) 252 33 12) 22 400) 252 34 (some 276)) 21 1800) 252 35 (some 277)) 21 1800) 252 36 (some 278)) 21 6) 252 37 (some 279)) 21 72) 252 38 (some 280)) 21 72) 252 39 (some 281))
def hX10_6 : HP := (setR (setI (setI (setI (setI (setI (setI (newH (setR (newH (setR (newH (setR (newH (setR (newH hX10_5 21 72) 252 40 (some 282)) 21 402) 252 41 (some 283)) 24 12) 252 42 (some 284)) 24 300) 252 43 (some 285)) 21 6) 286 (0 : Int32).toNatClampNeg (-5)) 286 (1 : Int32).toNatClampNeg (-5)) 286 (2 : Int32).toNatClampNeg (-5)) 286 (3 : Int32).toNatClampNeg (-5)) 286 (4 : Int32).toNatClampNeg (-5)) 286 (5 : Int32).toNatClampNeg (-5)) 252 44 (some 286))
def hX10_7 : HP := (setR (newH (setR (newH (setR (newH (setR (newH (setR (newH (setR (newH (setR (newH hX10_6 21 6) 252 45 (some 287)) 21 5) 252 46 (some 288)) 21 5) 252 47 (some 289)) 21 680) 252 49 (some 290)) 21 1) 252 50 (some 291)) 21 6) 252 54 (some 292)) 21 6) 252 55 (some 293))
def hX10_e : HP := (setR (newH (setR (newH (setR (newH (setR (newH (setR (newH (setR (newH (setR (newH hX10_7 21 671) 252 56 (some 294)) 21 25) 252 57 (some 295)) 21 25) 252 58 (some 296)) 21 366) 252 59 (some 297)) 21 42) 252 60 (some 298)) 21 4500) 252 61 (some 299)) 23 4) 252 62 (some 300))
set_option maxRecDepth 20000 in
theorem qX6_0 {g : GT} {d : Nat} {Q : Option Value → HP → Prop} (hQ : Q none hX6_e) : Sat g mX6_init (d + 1 + 1) (10, 58) Q 0 [Value.ref 29] [] hCX6 := by
  refine uX6_init_0 29 30 hCX6 ?_
  refine ⟨by decide +kernel, ?_⟩
  refine ⟨by decide +kernel, ?_⟩
  refine c_X8 (n := 31) (by decide +kernel) (by decide) (by decide +kernel) ?_
  refine ⟨by decide +kernel, ?_⟩
  intro h2 e
  subst e
  refine ⟨by decide +kernel, ?_⟩
  refine ⟨by decide +kernel, ?_⟩
  refine ⟨by decide +kernel, ?_⟩
  intro h3 e
  subst e
  exact hQ
theorem c_X6 {g : GT} {d : Nat} {Q : HP → Prop} (hQ : Q hX6_e) : CallV g mX6_init (d + 2) (10, 58) [.ref 29] hCX6 Q := qX6_0 (Q := fun r h' => match r with
  | none => Q h'
  | _ => False) hQ
set_option maxRecDepth 20000 in
theorem qX4_0 {g : GT} {d : Nat} {Q : Option Value → HP → Prop} (hQ : Q none hX4_e) : Sat g mX4_init (d + 1 + 1) (5, 53) Q 0 [Value.ref 40] [] hCX4 := by
  refine uX4_init_0 40 41 hCX4 ?_
  refine ⟨by decide +kernel, ?_⟩
  refine ⟨by decide +kernel, ?_⟩
  refine ⟨by decide +kernel, ?_⟩
  intro h1 e
  subst e
  refine ⟨by decide +kernel, ?_⟩
  refine ⟨by decide +kernel, ?_⟩
  refine ⟨by decide +kernel, ?_⟩
  intro h2 e
  subst e
  refine ⟨by decide +kernel, ?_⟩
  refine ⟨by decide +kernel, ?_⟩
  refine ⟨by decide +kernel, ?_⟩
  intro h3 e
  subst e
  refine ⟨by decide +kernel, ?_⟩
  refine ⟨by decide +kernel, ?_⟩
  refine ⟨by decide +kernel, ?_⟩
  intro h4 e
  subst e
  refine ⟨by decide +kernel, ?_⟩
  refine ⟨by decide +kernel, ?_⟩
  refine ⟨by decide +kernel, ?_⟩
  intro h5 e
  subst e
  exact hQ
theorem c_X4 {g : GT} {d : Nat} {Q : HP → Prop} (hQ : Q hX4_e) : CallV g mX4_init (d + 2) (5, 53) [.ref 40] hCX4 Q := qX4_0 (Q := fun r h' => match r with
  | none => Q h'
  | _ => False) hQ
set_option maxRecDepth 20000 in
theorem qX1_0 {g : GT} {d : Nat} {Q : Option Value → HP → Prop} (hQ : Q none hX1_e) : Sat g mX1_init (d + 1 + 1) (11, 732) Q 0 [Value.ref 46, .ref 40] [] hCX1 := by
  refine uX1_init_0 46 40 47 hCX1 ?_
  refine ⟨by decide +kernel, ?_⟩
  refine ⟨by decide +kernel, ?_⟩
  refine c_X8 (n := 48) (by decide +kernel) (by decide) (by decide +kernel) ?_
  refine ⟨by decide +kernel, ?_⟩
  intro h2 e
  subst e
  refine ⟨by decide +kernel, ?_⟩
  refine ⟨by decide +kernel, ?_⟩
  refine ⟨by decide +kernel, ?_⟩
  intro h3 e
  subst e
  refine ⟨by decide +kernel, ?_⟩
  refine ⟨by decide +kernel, ?_⟩
  refine ⟨by decide +kernel, ?_⟩
  intro h4 e
  subst e
  refine ⟨by decide +kernel, ?_⟩
  intro h5 e
  subst e
  exact hQ
theorem c_X1 {g : GT} {d : Nat} {Q : HP → Prop} (hQ : Q hX1_e) : CallV g mX1_init (d + 2) (11, 732) [.ref 46, .ref 40] hCX1 Q := qX1_0 (Q := fun r h' => match r with
  | none => Q h'
  | _ => False) hQ
set_option maxRecDepth 20000 in
theorem qX0_3 {g : GT} {d : Nat} {Q : Option Value → HP → Prop} (hQ : Q none hX0_e) : Sat g mX0_init (d + 1 + 1) (9, 58) Q 100 [Value.ref 58, .ref 40, .int 3] [] hX0_3 := by
  refine uX0_init_3 58 40 59 hX0_3 ?_
  refine ⟨by decide +kernel, ?_⟩
  refine ⟨by decide +kernel, ?_⟩
  refine ⟨59, by decide +kernel, ?_⟩
  refine ⟨by decide +kernel, ?_⟩
  refine ⟨by decide +kernel, ?_⟩
  refine c_X8 (n := 105) (by decide +kernel) (by decide) (by decide +kernel) ?_
  refine ⟨by decide +kernel, ?_⟩
  refine ⟨by unfold vp_in; decide +kernel, ?_⟩
  refine ⟨by decide +kernel, ?_⟩
  intro h3 e
  subst e
  refine ⟨by decide +kernel, ?_⟩
  exact hQ
set_option maxRecDepth 20000 in
theorem qX0_2 {g : GT} {d : Nat} {Q : Option Value → HP → Prop} (hQ : Q none hX0_e) : Sat g mX0_init (d + 1 + 1) (36, 232) Q 87 [Value.ref 58, .ref 40, .int 1] [] hX0_2 := by
  refine uX0_init_2 58 40 59 hX0_2 ?_
  refine ⟨by decide +kernel, ?_⟩
  refine ⟨59, by decide +kernel, ?_⟩
  refine ⟨by decide +kernel, ?_⟩
  refine ⟨by decide +kernel, ?_⟩
  refine c_X8 (n := 78) (by decide +kernel) (by decide) (by decide +kernel) ?_
  refine ⟨by decide +kernel, ?_⟩
  refine ⟨by unfold vp_in; decide +kernel, ?_⟩
  refine ⟨by decide +kernel, ?_⟩
  intro h3 e
  subst e
  refine ⟨by decide +kernel, ?_⟩
  refine ⟨by decide +kernel, ?_⟩
  refine ⟨59, by decide +kernel, ?_⟩
  refine ⟨by decide +kernel, ?_⟩
  refine ⟨by decide +kernel, ?_⟩
  refine c_X8 (n := 87) (by decide +kernel) (by decide) (by decide +kernel) ?_
  refine ⟨by decide +kernel, ?_⟩
  refine ⟨by unfold vp_in; decide +kernel, ?_⟩
  refine ⟨by decide +kernel, ?_⟩
  intro h6 e
  subst e
  refine ⟨by decide +kernel, ?_⟩
  refine ⟨by decide +kernel, ?_⟩
  refine ⟨59, by decide +kernel, ?_⟩
  refine ⟨by decide +kernel, ?_⟩
  refine ⟨by decide +kernel, ?_⟩
  refine c_X8 (n := 96) (by decide +kernel) (by decide) (by decide +kernel) ?_
  refine ⟨by decide +kernel, ?_⟩
  refine ⟨by unfold vp_in; decide +kernel, ?_⟩
  refine ⟨by decide +kernel, ?_⟩
  exact qX0_3 hQ
set_option maxRecDepth 20000 in
theorem qX0_1 {g : GT} {d : Nat} {Q : Option Value → HP → Prop} (hQ : Q none hX0_e) : Sat g mX0_init (d + 1 + 1) (47, 340) Q 59 [Value.ref 58, .ref 40, .double 0] [] hX0_1 := by
  refine uX0_init_1 58 40 59 hX0_1 ?_
  refine ⟨by decide +kernel, ?_⟩
  refine ⟨by decide +kernel, ?_⟩
  refine ⟨by decide +kernel, ?_⟩
  intro h1 e
  subst e
  refine ⟨by decide +kernel, ?_⟩
  refine ⟨by decide +kernel, ?_⟩
  refine ⟨by decide +kernel, ?_⟩
  intro h2 e
  subst e
  refine ⟨by decide +kernel, ?_⟩
  intro h3 e
  subst e
  refine ⟨by decide +kernel, ?_⟩
  refine ⟨by decide +kernel, ?_⟩
  refine ⟨59, by decide +kernel, ?_⟩
  refine ⟨by decide +kernel, ?_⟩
  refine ⟨by decide +kernel, ?_⟩
  refine c_X8 (n := 69) (by decide +kernel) (by decide) (by decide +kernel) ?_
  refine ⟨by decide +kernel, ?_⟩
  refine ⟨by unfold vp_in; decide +kernel, ?_⟩
  refine ⟨by decide +kernel, ?_⟩
  intro h6 e
  subst e
  refine ⟨by decide +kernel, ?_⟩
  exact qX0_2 hQ
set_option maxRecDepth 20000 in
theorem qX0_0 {g : GT} {d : Nat} {Q : Option Value → HP → Prop} (hQ : Q none hX0_e) : Sat g mX0_init (d + 1 + 1) (54, 412) Q 0 [Value.ref 58, .ref 40, .double 0] [] hCX0 := by
  refine uX0_init_0 58 40 59 hCX0 ?_
  refine ⟨by decide +kernel, ?_⟩
  refine ⟨by decide +kernel, ?_⟩
  refine ⟨by decide +kernel, ?_⟩
  intro h1 e
  subst e
  refine ⟨by decide +kernel, ?_⟩
  refine ⟨by decide +kernel, ?_⟩
  refine ⟨by decide +kernel, ?_⟩
  intro h2 e
  subst e
  refine ⟨by decide +kernel, ?_⟩
  refine ⟨by decide +kernel, ?_⟩
  refine ⟨by decide +kernel, ?_⟩
  intro h3 e
  subst e
  refine ⟨by decide +kernel, ?_⟩
  refine ⟨by decide +kernel, ?_⟩
  refine ⟨by decide +kernel, ?_⟩
  intro h4 e
  subst e
  refine ⟨by decide +kernel, ?_⟩
  refine ⟨by decide +kernel, ?_⟩
  refine ⟨by decide +kernel, ?_⟩
  intro h5 e
  subst e
  refine ⟨by decide +kernel, ?_⟩
  refine ⟨by decide +kernel, ?_⟩
  refine ⟨by decide +kernel, ?_⟩
  intro h6 e
  subst e
  refine ⟨by decide +kernel, ?_⟩
  refine ⟨by decide +kernel, ?_⟩
  refine ⟨by decide +kernel, ?_⟩
  exact qX0_1 hQ
theorem c_X0 {g : GT} {d : Nat} {Q : HP → Prop} (hQ : Q hX0_e) : CallV g mX0_init (d + 2) (54, 412) [.ref 58, .ref 40] hCX0 Q := qX0_0 (Q := fun r h' => match r with
  | none => Q h'
  | _ => False) hQ
set_option maxRecDepth 20000 in
theorem qX2_0 {g : GT} {d : Nat} {Q : Option Value → HP → Prop} (hQ : Q none hX2_e) : Sat g mX2_init (d + 1 + 1) (12, 102) Q 0 [Value.ref 113, .ref 40] [] hCX2 := by
  refine uX2_init_0 113 40 114 hCX2 ?_
  refine ⟨by decide +kernel, ?_⟩
  refine ⟨by decide +kernel, ?_⟩
  refine c_X8 (n := 115) (by decide +kernel) (by decide) (by decide +kernel) ?_
  refine ⟨by decide +kernel, ?_⟩
  intro h2 e
  subst e
  refine ⟨by decide +kernel, ?_⟩
  refine ⟨by decide +kernel, ?_⟩
  refine ⟨by decide +kernel, ?_⟩
  intro h3 e
  subst e
  refine ⟨by decide +kernel, ?_⟩
  refine ⟨by decide +kernel, ?_⟩
  refine ⟨by decide +kernel, ?_⟩
  intro h4 e
  subst e
  refine ⟨by decide +kernel, ?_⟩
  refine ⟨by decide +kernel, ?_⟩
  refine ⟨by decide +kernel, ?_⟩
  intro h5 e
  subst e
  refine ⟨by decide +kernel, ?_⟩
  intro h6 e
  subst e
  exact hQ
theorem c_X2 {g : GT} {d : Nat} {Q : HP → Prop} (hQ : Q hX2_e) : CallV g mX2_init (d + 2) (12, 102) [.ref 113, .ref 40] hCX2 Q := qX2_0 (Q := fun r h' => match r with
  | none => Q h'
  | _ => False) hQ
set_option maxRecDepth 20000 in
theorem qX9_6 {g : GT} {d : Nat} {Q : Option Value → HP → Prop} (hQ : Q none hX9_e) : Sat g mX9_init (d + 2 + 1) (0, 0) Q 162 [Value.ref 0, .int 3] [] hX9_6 := by
  refine uX9_init_6 0 1 hX9_6 ?_
  refine ⟨by decide +kernel, ?_⟩
  exact hQ
set_option maxRecDepth 20000 in
theorem qX9_5 {g : GT} {d : Nat} {Q : Option Value → HP → Prop} (hQ : Q none hX9_e) : Sat g mX9_init (d + 2 + 1) (72, 2514) Q 149 [Value.ref 0, .int 1] [] hX9_5 := by
  refine uX9_init_5 0 1 hX9_5 ?_
  refine ⟨by decide +kernel, ?_⟩
  refine ⟨27, by decide +kernel, ?_⟩
  refine ⟨by decide +kernel, ?_⟩
  refine ⟨by decide +kernel, ?_⟩
  refine c_X3 (n := 181) (by decide +kernel) (by decide) (by decide +kernel) ?_
  refine ⟨by decide +kernel, ?_⟩
  refine ⟨by unfold vp_in; decide +kernel, ?_⟩
  refine ⟨by decide +kernel, ?_⟩
  intro h3 e
  subst e
  refine ⟨by decide +kernel, ?_⟩
  refine ⟨by decide +kernel, ?_⟩
  refine ⟨27, by decide +kernel, ?_⟩
  refine ⟨by decide +kernel, ?_⟩
  refine ⟨by decide +kernel, ?_⟩
  refine c_X3 (n := 205) (by decide +kernel) (by decide) (by decide +kernel) ?_
  refine ⟨by decide +kernel, ?_⟩
  refine ⟨by unfold vp_in; decide +kernel, ?_⟩
  refine ⟨by decide +kernel, ?_⟩
  intro h6 e
  subst e
  refine ⟨by decide +kernel, ?_⟩
  refine ⟨by decide +kernel, ?_⟩
  refine ⟨27, by decide +kernel, ?_⟩
  refine ⟨by decide +kernel, ?_⟩
  refine ⟨by decide +kernel, ?_⟩
  refine c_X3 (n := 229) (by decide +kernel) (by decide) (by decide +kernel) ?_
  refine ⟨by decide +kernel, ?_⟩
  refine ⟨by unfold vp_in; decide +kernel, ?_⟩
  refine ⟨by decide +kernel, ?_⟩
  exact qX9_6 hQ
set_option maxRecDepth 20000 in
theorem qX9_4 {g : GT} {d : Nat} {Q : Option Value → HP → Prop} (hQ : Q none hX9_e) : Sat g mX9_init (d + 2 + 1) (101, 4183) Q 123 [Value.ref 0, .int 5] [] hX9_4 := by
  refine uX9_init_4 0 1 hX9_4 ?_
  refine ⟨by decide +kernel, ?_⟩
  refine ⟨2, by decide +kernel, ?_⟩
  refine ⟨by decide +kernel, ?_⟩
  refine ⟨by decide +kernel, ?_⟩
  refine c_X7 (n := 152) (by decide +kernel) (by decide) (by decide +kernel) ?_
  refine ⟨by decide +kernel, ?_⟩
  refine ⟨by unfold vp_in; decide +kernel, ?_⟩
  refine ⟨by decide +kernel, ?_⟩
  intro h3 e
  subst e
  refine ⟨by decide +kernel, ?_⟩
  refine ⟨by decide +kernel, ?_⟩
  refine ⟨by decide +kernel, ?_⟩
  refine ⟨27, by decide +kernel, ?_⟩
  refine ⟨by decide +kernel, ?_⟩
  refine ⟨by decide +kernel, ?_⟩
  refine c_X3 (n := 157) (by decide +kernel) (by decide) (by decide +kernel) ?_
  refine ⟨by decide +kernel, ?_⟩
  refine ⟨by unfold vp_in; decide +kernel, ?_⟩
  refine ⟨by decide +kernel, ?_⟩
  intro h6 e
  subst e
  refine ⟨by decide +kernel, ?_⟩
  exact qX9_5 hQ
set_option maxRecDepth 20000 in
theorem qX9_3 {g : GT} {d : Nat} {Q : Option Value → HP → Prop} (hQ : Q none hX9_e) : Sat g mX9_init (d + 2 + 1) (111, 5845) Q 136 [Value.ref 0, .int 2] [] hX9_3 := by
  refine uX9_init_3 0 1 hX9_3 ?_
  refine ⟨by decide +kernel, ?_⟩
  refine ⟨by decide +kernel, ?_⟩
  refine ⟨2, by decide +kernel, ?_⟩
  refine ⟨by decide +kernel, ?_⟩
  refine ⟨by decide +kernel, ?_⟩
  refine c_X7 (n := 142) (by decide +kernel) (by decide) (by decide +kernel) ?_
  refine ⟨by decide +kernel, ?_⟩
  refine ⟨by unfold vp_in; decide +kernel, ?_⟩
  refine ⟨by decide +kernel, ?_⟩
  intro h3 e
  subst e
  refine ⟨by decide +kernel, ?_⟩
  refine ⟨by decide +kernel, ?_⟩
  refine ⟨2, by decide +kernel, ?_⟩
  refine ⟨by decide +kernel, ?_⟩
  refine ⟨by decide +kernel, ?_⟩
  refine c_X7 (n := 147) (by decide +kernel) (by decide) (by decide +kernel) ?_
  refine ⟨by decide +kernel, ?_⟩
  refine ⟨by unfold vp_in; decide +kernel, ?_⟩
  refine ⟨by decide +kernel, ?_⟩
  intro h6 e
  subst e
  refine ⟨by decide +kernel, ?_⟩
  exact qX9_4 hQ
set_option maxRecDepth 20000 in
theorem qX9_2 {g : GT} {d : Nat} {Q : Option Value → HP → Prop} (hQ : Q none hX9_e) : Sat g mX9_init (d + 2 + 1) (126, 8338) Q 117 [Value.ref 0, .int 0] [] hX9_2 := by
  refine uX9_init_2 0 1 hX9_2 ?_
  refine ⟨by decide +kernel, ?_⟩
  refine ⟨by decide +kernel, ?_⟩
  refine ⟨2, by decide +kernel, ?_⟩
  refine ⟨by decide +kernel, ?_⟩
  refine ⟨by decide +kernel, ?_⟩
  refine c_X7 (n := 127) (by decide +kernel) (by decide) (by decide +kernel) ?_
  refine ⟨by decide +kernel, ?_⟩
  refine ⟨by unfold vp_in; decide +kernel, ?_⟩
  refine ⟨by decide +kernel, ?_⟩
  intro h3 e
  subst e
  refine ⟨by decide +kernel, ?_⟩
  refine ⟨by decide +kernel, ?_⟩
  refine ⟨2, by decide +kernel, ?_⟩
  refine ⟨by decide +kernel, ?_⟩
  refine ⟨by decide +kernel, ?_⟩
  refine c_X7 (n := 132) (by decide +kernel) (by decide) (by decide +kernel) ?_
  refine ⟨by decide +kernel, ?_⟩
  refine ⟨by unfold vp_in; decide +kernel, ?_⟩
  refine ⟨by decide +kernel, ?_⟩
  intro h6 e
  subst e
  refine ⟨by decide +kernel, ?_⟩
  refine ⟨by decide +kernel, ?_⟩
  refine ⟨2, by decide +kernel, ?_⟩
  refine ⟨by decide +kernel, ?_⟩
  refine ⟨by decide +kernel, ?_⟩
  refine c_X7 (n := 137) (by decide +kernel) (by decide) (by decide +kernel) ?_
  refine ⟨by decide +kernel, ?_⟩
  refine ⟨by unfold vp_in; decide +kernel, ?_⟩
  refine ⟨by decide +kernel, ?_⟩
  exact qX9_3 hQ
set_option maxRecDepth 20000 in
theorem qX9_1 {g : GT} {d : Nat} {Q : Option Value → HP → Prop} (hQ : Q none hX9_e) : Sat g mX9_init (d + 2 + 1) (212, 9662) Q 59 [Value.ref 0, .double 0] [] hX9_1 := by
  refine uX9_init_1 0 1 hX9_1 ?_
  refine ⟨by decide +kernel, ?_⟩
  refine ⟨by decide +kernel, ?_⟩
  refine c_X4 ?_
  refine ⟨by decide +kernel, ?_⟩
  intro h2 e
  subst e
  refine ⟨by decide +kernel, ?_⟩
  refine ⟨by decide +kernel, ?_⟩
  refine ⟨40, by decide +kernel, ?_⟩
  refine ⟨by decide +kernel, ?_⟩
  refine c_X1 ?_
  refine ⟨by decide +kernel, ?_⟩
  intro h5 e
  subst e
  refine ⟨by decide +kernel, ?_⟩
  refine ⟨by decide +kernel, ?_⟩
  refine ⟨40, by decide +kernel, ?_⟩
  refine ⟨by decide +kernel, ?_⟩
  refine c_X0 ?_
  refine ⟨by decide +kernel, ?_⟩
  intro h8 e
  subst e
  refine ⟨by decide +kernel, ?_⟩
  refine ⟨by decide +kernel, ?_⟩
  refine ⟨40, by decide +kernel, ?_⟩
  refine ⟨by decide +kernel, ?_⟩
  refine c_X2 ?_
  refine ⟨by decide +kernel, ?_⟩
  intro h11 e
  subst e
  exact qX9_2 hQ
set_option maxRecDepth 20000 in
theorem qX9_0 {g : GT} {d : Nat} {Q : Option Value → HP → Prop} (hQ : Q none hX9_e) : Sat g mX9_init (d + 2 + 1) (251, 10979) Q 0 [Value.ref 0, .double 0] [] hB0 := by
  refine uX9_init_0 0 1 hB0 ?_
  refine ⟨by decide +kernel, ?_⟩
  refine ⟨by decide +kernel, ?_⟩
  refine ⟨by decide +kernel, ?_⟩
  intro h1 e
  subst e
  refine ⟨by decide +kernel, ?_⟩
  refine ⟨by decide +kernel, ?_⟩
  refine ⟨by decide +kernel, ?_⟩
  intro h2 e
  subst e
  refine ⟨by decide +kernel, ?_⟩
  refine ⟨by decide +kernel, ?_⟩
  refine c_X3 (n := 4) (by decide +kernel) (by decide) (by decide +kernel) ?_
  refine ⟨by decide +kernel, ?_⟩
  intro h4 e
  subst e
  refine ⟨by decide +kernel, ?_⟩
  refine ⟨by decide +kernel, ?_⟩
  refine ⟨by decide +kernel, ?_⟩
  intro h5 e
  subst e
  refine ⟨by decide +kernel, ?_⟩
  refine ⟨by decide +kernel, ?_⟩
  refine ⟨by decide +kernel, ?_⟩
  intro h6 e
  subst e
  refine ⟨by decide +kernel, ?_⟩
  refine ⟨by decide +kernel, ?_⟩
  refine c_X6 ?_
  refine ⟨by decide +kernel, ?_⟩
  exact qX9_1 hQ
theorem c_X9 {g : GT} {d : Nat} {Q : HP → Prop} (hQ : Q hX9_e) : CallV g mX9_init (d + 3) (251, 10979) [.ref 0] hB0 Q := qX9_0 (Q := fun r h' => match r with
  | none => Q h'
  | _ => False) hQ
set_option maxRecDepth 20000 in
theorem qX10_7 {g : GT} {d : Nat} {Q : Option Value → HP → Prop} (hQ : Q none hX10_e) : Sat g mX10_init (d + 2 + 1) (7, 5633) Q 395 [Value.ref 252] [] hX10_7 := by
  refine uX10_init_7 252 253 hX10_7 ?_
  refine ⟨by decide +kernel, ?_⟩
  refine ⟨by decide +kernel, ?_⟩
  refine ⟨by decide +kernel, ?_⟩
  intro h1 e
  subst e
  refine ⟨by decide +kernel, ?_⟩
  refine ⟨by decide +kernel, ?_⟩
  refine ⟨by decide +kernel, ?_⟩
  intro h2 e
  subst e
  refine ⟨by decide +kernel, ?_⟩
  refine ⟨by decide +kernel, ?_⟩
  refine ⟨by decide +kernel, ?_⟩
  intro h3 e
  subst e
  refine ⟨by decide +kernel, ?_⟩
  refine ⟨by decide +kernel, ?_⟩
  refine ⟨by decide +kernel, ?_⟩
  intro h4 e
  subst e
  refine ⟨by decide +kernel, ?_⟩
  refine ⟨by decide +kernel, ?_⟩
  refine ⟨by decide +kernel, ?_⟩
  intro h5 e
  subst e
  refine ⟨by decide +kernel, ?_⟩
  refine ⟨by decide +kernel, ?_⟩
  refine ⟨by decide +kernel, ?_⟩
  intro h6 e
  subst e
  refine ⟨by decide +kernel, ?_⟩
  refine ⟨by decide +kernel, ?_⟩
  refine ⟨by decide +kernel, ?_⟩
  intro h7 e
  subst e
  exact hQ
set_option maxRecDepth 20000 in
theorem qX10_6 {g : GT} {d : Nat} {Q : Option Value → HP → Prop} (hQ : Q none hX10_e) : Sat g mX10_init (d + 2 + 1) (14, 6342) Q 341 [Value.ref 252] [] hX10_6 := by
  refine uX10_init_6 252 253 hX10_6 ?_
  refine ⟨by decide +kernel, ?_⟩
  refine ⟨by decide +kernel, ?_⟩
  refine ⟨by decide +kernel, ?_⟩
  intro h1 e
  subst e
  refine ⟨by decide +kernel, ?_⟩
  refine ⟨by decide +kernel, ?_⟩
  refine ⟨by decide +kernel, ?_⟩
  intro h2 e
  subst e
  refine ⟨by decide +kernel, ?_⟩
  refine ⟨by decide +kernel, ?_⟩
  refine ⟨by decide +kernel, ?_⟩
  intro h3 e
  subst e
  refine ⟨by decide +kernel, ?_⟩
  refine ⟨by decide +kernel, ?_⟩
  refine ⟨by decide +kernel, ?_⟩
  intro h4 e
  subst e
  refine ⟨by decide +kernel, ?_⟩
  refine ⟨by decide +kernel, ?_⟩
  refine ⟨by decide +kernel, ?_⟩
  intro h5 e
  subst e
  refine ⟨by decide +kernel, ?_⟩
  refine ⟨by decide +kernel, ?_⟩
  refine ⟨by decide +kernel, ?_⟩
  intro h6 e
  subst e
  refine ⟨by decide +kernel, ?_⟩
  refine ⟨by decide +kernel, ?_⟩
  refine ⟨by decide +kernel, ?_⟩
  exact qX10_7 hQ
set_option maxRecDepth 20000 in
theorem qX10_5 {g : GT} {d : Nat} {Q : Option Value → HP → Prop} (hQ : Q none hX10_e) : Sat g mX10_init (d + 2 + 1) (19, 7134) Q 269 [Value.ref 252] [] hX10_5 := by
  refine uX10_init_5 252 253 hX10_5 ?_
  refine ⟨by decide +kernel, ?_⟩
  refine ⟨by decide +kernel, ?_⟩
  refine ⟨by decide +kernel, ?_⟩
  intro h1 e
  subst e
  refine ⟨by decide +kernel, ?_⟩
  refine ⟨by decide +kernel, ?_⟩
  refine ⟨by decide +kernel, ?_⟩
  intro h2 e
  subst e
  refine ⟨by decide +kernel, ?_⟩
  refine ⟨by decide +kernel, ?_⟩
  refine ⟨by decide +kernel, ?_⟩
  intro h3 e
  subst e
  refine ⟨by decide +kernel, ?_⟩
  refine ⟨by decide +kernel, ?_⟩
  refine ⟨by decide +kernel, ?_⟩
  intro h4 e
  subst e
  refine ⟨by decide +kernel, ?_⟩
  refine ⟨by decide +kernel, ?_⟩
  refine ⟨by decide +kernel, ?_⟩
  refine ⟨by unfold vp_in; decide +kernel, ?_⟩
  refine ⟨by decide +kernel, ?_⟩
  refine ⟨by unfold vp_in; decide +kernel, ?_⟩
  refine ⟨by decide +kernel, ?_⟩
  refine ⟨by unfold vp_in; decide +kernel, ?_⟩
  refine ⟨by decide +kernel, ?_⟩
  refine ⟨by unfold vp_in; decide +kernel, ?_⟩
  refine ⟨by decide +kernel, ?_⟩
  refine ⟨by unfold vp_in; decide +kernel, ?_⟩
  refine ⟨by decide +kernel, ?_⟩
  refine ⟨by unfold vp_in; decide +kernel, ?_⟩
  refine ⟨by decide +kernel, ?_⟩
  exact qX10_6 hQ
set_option maxRecDepth 20000 in
theorem qX10_4 {g : GT} {d : Nat} {Q : Option Value → HP → Prop} (hQ : Q none hX10_e) : Sat g mX10_init (d + 2 + 1) (26, 11290) Q 204 [Value.ref 252] [] hX10_4 := by
  refine uX10_init_4 252 253 hX10_4 ?_
  refine ⟨by decide +kernel, ?_⟩
  refine ⟨by decide +kernel, ?_⟩
  refine ⟨by decide +kernel, ?_⟩
  intro h1 e
  subst e
  refine ⟨by decide +kernel, ?_⟩
  intro h2 e
  subst e
  refine ⟨by decide +kernel, ?_⟩
  refine ⟨by decide +kernel, ?_⟩
  refine ⟨by decide +kernel, ?_⟩
  intro h3 e
  subst e
  refine ⟨by decide +kernel, ?_⟩
  refine ⟨by decide +kernel, ?_⟩
  refine ⟨by decide +kernel, ?_⟩
  intro h4 e
  subst e
  refine ⟨by decide +kernel, ?_⟩
  refine ⟨by decide +kernel, ?_⟩
  refine ⟨by decide +kernel, ?_⟩
  intro h5 e
  subst e
  refine ⟨by decide +kernel, ?_⟩
  refine ⟨by decide +kernel, ?_⟩
  refine ⟨by decide +kernel, ?_⟩
  intro h6 e
  subst e
  refine ⟨by decide +kernel, ?_⟩
  refine ⟨by decide +kernel, ?_⟩
  refine ⟨by decide +kernel, ?_⟩
  intro h7 e
  subst e
  refine ⟨by decide +kernel, ?_⟩
  refine ⟨by decide +kernel, ?_⟩
  refine ⟨by decide +kernel, ?_⟩
  exact qX10_5 hQ
set_option maxRecDepth 20000 in
theorem qX10_3 {g : GT} {d : Nat} {Q : Option Value → HP → Prop} (hQ : Q none hX10_e) : Sat g mX10_init (d + 2 + 1) (33, 11327) Q 152 [Value.ref 252] [] hX10_3 := by
  refine uX10_init_3 252 253 hX10_3 ?_
  refine ⟨by decide +kernel, ?_⟩
  refine ⟨by decide +kernel, ?_⟩
  refine ⟨by decide +kernel, ?_⟩
  intro h1 e
  subst e
  refine ⟨by decide +kernel, ?_⟩
  refine ⟨by decide +kernel, ?_⟩
  refine ⟨by decide +kernel, ?_⟩
  intro h2 e
  subst e
  refine ⟨by decide +kernel, ?_⟩
  refine ⟨by decide +kernel, ?_⟩
  refine ⟨by decide +kernel, ?_⟩
  intro h3 e
  subst e
  refine ⟨by decide +kernel, ?_⟩
  refine ⟨by decide +kernel, ?_⟩
  refine ⟨by decide +kernel, ?_⟩
  intro h4 e
  subst e
  refine ⟨by decide +kernel, ?_⟩
  refine ⟨by decide +kernel, ?_⟩
  refine ⟨by decide +kernel, ?_⟩
  intro h5 e
  subst e
  refine ⟨by decide +kernel, ?_⟩
  refine ⟨by decide +kernel, ?_⟩
  refine ⟨by decide +kernel, ?_⟩
  intro h6 e
  subst e
  refine ⟨by decide +kernel, ?_⟩
  refine ⟨by decide +kernel, ?_⟩
  refine ⟨by decide +kernel, ?_⟩
  exact qX10_4 hQ
set_option maxRecDepth 20000 in
theorem qX10_2 {g : GT} {d : Nat} {Q : Option Value → HP → Prop} (hQ : Q none hX10_e) : Sat g mX10_init (d + 2 + 1) (40, 11378) Q 99 [Value.ref 252] [] hX10_2 := by
  refine uX10_init_2 252 253 hX10_2 ?_
  refine ⟨by decide +kernel, ?_⟩
  refine ⟨by decide +kernel, ?_⟩
  refine ⟨by decide +kernel, ?_⟩
  intro h1 e
  subst e
  refine ⟨by decide +kernel, ?_⟩
  refine ⟨by decide +kernel, ?_⟩
  refine ⟨by decide +kernel, ?_⟩
  intro h2 e
  subst e
  refine ⟨by decide +kernel, ?_⟩
  refine ⟨by decide +kernel, ?_⟩
  refine ⟨by decide +kernel, ?_⟩
  intro h3 e
  subst e
  refine ⟨by decide +kernel, ?_⟩
  refine ⟨by decide +kernel, ?_⟩
  refine ⟨by decide +kernel, ?_⟩
  intro h4 e
  subst e
  refine ⟨by decide +kernel, ?_⟩
  refine ⟨by decide +kernel, ?_⟩
  refine ⟨by decide +kernel, ?_⟩
  intro h5 e
  subst e
  refine ⟨by decide +kernel, ?_⟩
  refine ⟨by decide +kernel, ?_⟩
  refine ⟨by decide +kernel, ?_⟩
  intro h6 e
  subst e
  refine ⟨by decide +kernel, ?_⟩
  refine ⟨by decide +kernel, ?_⟩
  refine ⟨by decide +kernel, ?_⟩
  exact qX10_3 hQ
set_option maxRecDepth 20000 in
theorem qX10_1 {g : GT} {d : Nat} {Q : Option Value → HP → Prop} (hQ : Q none hX10_e) : Sat g mX10_init (d + 2 + 1) (47, 11417) Q 46 [Value.ref 252] [] hX10_1 := by
  refine uX10_init_1 252 253 hX10_1 ?_
  refine ⟨by decide +kernel, ?_⟩
  refine ⟨by decide +kernel, ?_⟩
  refine ⟨by decide +kernel, ?_⟩
  intro h1 e
  subst e
  refine ⟨by decide +kernel, ?_⟩
  refine ⟨by decide +kernel, ?_⟩
  refine ⟨by decide +kernel, ?_⟩
  intro h2 e
  subst e
  refine ⟨by decide +kernel, ?_⟩
  refine ⟨by decide +kernel, ?_⟩
  refine ⟨by decide +kernel, ?_⟩
  intro h3 e
  subst e
  refine ⟨by decide +kernel, ?_⟩
  refine ⟨by decide +kernel, ?_⟩
  refine ⟨by decide +kernel, ?_⟩
  intro h4 e
  subst e
  refine ⟨by decide +kernel, ?_⟩
  refine ⟨by decide +kernel, ?_⟩
  refine ⟨by decide +kernel, ?_⟩
  intro h5 e
  subst e
  refine ⟨by decide +kernel, ?_⟩
  refine ⟨by decide +kernel, ?_⟩
  refine ⟨by decide +kernel, ?_⟩
  intro h6 e
  subst e
  refine ⟨by decide +kernel, ?_⟩
  refine ⟨by decide +kernel, ?_⟩
  refine ⟨by decide +kernel, ?_⟩
  exact qX10_2 hQ
set_option maxRecDepth 20000 in
theorem qX10_0 {g : GT} {d : Nat} {Q : Option Value → HP → Prop} (hQ : Q none hX10_e) : Sat g mX10_init (d + 2 + 1) (48, 11425) Q 0 [Value.ref 252] [] hM0 := by
  refine uX10_init_0 252 253 hM0 ?_
  refine ⟨by decide +kernel, ?_⟩
  refine ⟨by decide +kernel, ?_⟩
  refine ⟨by decide +kernel, ?_⟩
  refine ⟨by unfold vp_in; decide +kernel, ?_⟩
  refine ⟨by decide +kernel, ?_⟩
  refine ⟨by unfold vp_in; decide +kernel, ?_⟩
  refine ⟨by decide +kernel, ?_⟩
  refine ⟨by unfold vp_in; decide +kernel, ?_⟩
  refine ⟨by decide +kernel, ?_⟩
  refine ⟨by unfold vp_in; decide +kernel, ?_⟩
  refine ⟨by decide +kernel, ?_⟩
  refine ⟨by unfold vp_in; decide +kernel, ?_⟩
  refine ⟨by decide +kernel, ?_⟩
  refine ⟨by unfold vp_in; decide +kernel, ?_⟩
  refine ⟨by decide +kernel, ?_⟩
  refine ⟨by unfold vp_in; decide +kernel, ?_⟩
  refine ⟨by decide +kernel, ?_⟩
  refine ⟨by unfold vp_in; decide +kernel, ?_⟩
  refine ⟨by decide +kernel, ?_⟩
  exact qX10_1 hQ
theorem c_X10 {g : GT} {d : Nat} {Q : HP → Prop} (hQ : Q hX10_e) : CallV g mX10_init (d + 3) (48, 11425) [.ref 252] hM0 Q := qX10_0 (Q := fun r h' => match r with
  | none => Q h'
  | _ => False) hQ
