/-! the one layout of the heap: kinds, lengths, references; what follows of it -/
def kT : List Nat := [10, 21, 26, 4, 9, 21, 21, 21, 21, 21, 21, 21, 21, 9, 21, 21, 21, 21, 21, 21, 21, 21, 6, 21, 21, 21, 21, 27, 23, 7, 9, 21, 21, 21, 21, 21, 21, 21, 21, 21, 5, 21, 21, 21, 21, 24, 2, 9, 21, 21, 21, 21, 21, 21, 21, 21, 21, 21, 1, 25, 21, 21, 21, 21, 21, 21, 21, 21, 9, 21, 21, 21, 21, 21, 21, 21, 21, 9, 21, 21, 21, 21, 21, 21, 21, 21, 9, 21, 21, 21, 21, 21, 21, 21, 21, 9, 21, 21, 21, 21, 21, 21, 21, 21, 9, 21, 21, 21, 21, 21, 21, 21, 21, 3, 9, 21, 21, 21, 21, 21, 21, 21, 21, 21, 21, 21, 8, 21, 21, 21, 21, 8, 21, 21, 21, 21, 8, 21, 21, 21, 21, 8, 21, 21, 21, 21, 8, 21, 21, 21, 21, 8, 21, 21, 21, 21, 4, 9, 21, 21, 21, 21, 21, 21, 21, 21, 9, 21, 21, 21, 21, 21, 21, 21, 21, 6, 21, 21, 21, 21, 4, 9, 21, 21, 21, 21, 21, 21, 21, 21, 9, 21, 21, 21, 21, 21, 21, 21, 21, 6, 21, 21, 21, 21, 4, 9, 21, 21, 21, 21, 21, 21, 21, 21, 9, 21, 21, 21, 21, 21, 21, 21, 21, 6, 21, 21, 21, 21, 4, 9, 21, 21, 21, 21, 21, 21, 21, 21, 9, 21, 21, 21, 21, 21, 21, 21, 21, 6, 21, 21, 21, 21, 11, 21, 21, 21, 21, 21, 21, 21, 21, 21, 21, 21, 21, 21, 21, 21, 21, 21, 21, 21, 21, 21, 21, 21, 22, 21, 21, 21, 21, 21, 21, 21, 24, 24, 21, 21, 21, 21, 21, 21, 21, 21, 21, 21, 21, 21, 21, 21, 23]
def nT : List Nat := [0, 400, 6, 0, 0, 5, 5, 5, 6, 6, 6, 6, 6, 0, 5, 5, 5, 6, 6, 6, 6, 6, 0, 680, 10, 10, 10, 4, 4, 0, 0, 5, 5, 5, 6, 6, 6, 6, 6, 0, 0, 5, 5, 6, 5, 32, 0, 0, 5, 5, 5, 6, 6, 6, 6, 6, 671, 3, 0, 5, 6, 6, 7, 36, 7, 5, 25, 25, 0, 5, 5, 5, 6, 6, 6, 6, 6, 0, 5, 5, 5, 6, 6, 6, 6, 6, 0, 5, 5, 5, 6, 6, 6, 6, 6, 0, 5, 5, 5, 6, 6, 6, 6, 6, 0, 5, 5, 5, 6, 6, 6, 6, 6, 0, 0, 5, 5, 5, 6, 6, 6, 6, 6, 6, 36, 2, 0, 400, 400, 13, 12, 0, 400, 400, 13, 12, 0, 400, 400, 13, 12, 0, 400, 400, 13, 12, 0, 400, 400, 13, 12, 0, 400, 400, 13, 12, 0, 0, 5, 5, 5, 6, 6, 6, 6, 6, 0, 5, 5, 5, 6, 6, 6, 6, 6, 0, 680, 10, 10, 10, 0, 0, 5, 5, 5, 6, 6, 6, 6, 6, 0, 5, 5, 5, 6, 6, 6, 6, 6, 0, 680, 10, 10, 10, 0, 0, 5, 5, 5, 6, 6, 6, 6, 6, 0, 5, 5, 5, 6, 6, 6, 6, 6, 0, 680, 10, 10, 10, 0, 0, 5, 5, 5, 6, 6, 6, 6, 6, 0, 5, 5, 5, 6, 6, 6, 6, 6, 0, 680, 10, 10, 10, 0, 8, 5, 5, 5, 6, 6, 6, 6, 6, 10, 10, 10, 5, 5, 5, 6, 4, 5, 5, 5, 6, 6, 6, 400, 1800, 1800, 6, 72, 72, 72, 402, 12, 300, 6, 6, 5, 5, 680, 1, 6, 6, 671, 25, 25, 366, 42, 4500, 4]
def K0 (x : Nat) : Nat := kT.getD x 0
def N0 (x : Nat) : Nat := nT.getD x 0
def rT : List (Nat × Nat × Nat) := [(0, 0, 1), (0, 2, 2), (0, 4, 3), (0, 5, 27), (0, 6, 28), (0, 7, 29), (0, 8, 40), (0, 9, 46), (0, 10, 58), (0, 11, 113), (2, 0, 126), (2, 1, 131), (2, 2, 136), (2, 3, 141), (2, 4, 146), (2, 5, 151), (3, 0, 4), (3, 1, 13), (3, 2, 22), (3, 3, 24), (3, 4, 25), (3, 5, 26), (4, 5, 5), (4, 6, 6), (4, 7, 7), (4, 8, 8), (4, 9, 9), (4, 10, 10), (4, 11, 11), (4, 12, 12), (13, 5, 14), (13, 6, 15), (13, 7, 16), (13, 8, 17), (13, 9, 18), (13, 10, 19), (13, 11, 20), (13, 12, 21), (22, 0, 23), (27, 0, 156), (27, 1, 180), (27, 2, 204), (27, 3, 228), (29, 0, 30), (30, 5, 31), (30, 6, 32), (30, 7, 33), (30, 8, 34), (30, 9, 35), (30, 10, 36), (30, 11, 37), (30, 12, 38), (40, 0, 41), (40, 1, 42), (40, 2, 43), (40, 3, 44), (40, 4, 45), (46, 0, 40), (46, 1, 47), (46, 2, 56), (46, 3, 57), (47, 5, 48), (47, 6, 49), (47, 7, 50), (47, 8, 51), (47, 9, 52), (47, 10, 53), (47, 11, 54), (47, 12, 55), (58, 0, 40), (58, 1, 59), (58, 2, 60), (58, 3, 61), (58, 4, 62), (58, 5, 63), (58, 6, 64), (58, 7, 65), (58, 8, 66), (58, 9, 67), (59, 0, 68), (59, 1, 77), (59, 2, 86), (59, 3, 95), (59, 4, 104), (68, 5, 69), (68, 6, 70), (68, 7, 71), (68, 8, 72), (68, 9, 73), (68, 10, 74), (68, 11, 75), (68, 12, 76), (77, 5, 78), (77, 6, 79), (77, 7, 80), (77, 8, 81), (77, 9, 82), (77, 10, 83), (77, 11, 84), (77, 12, 85), (86, 5, 87), (86, 6, 88), (86, 7, 89), (86, 8, 90), (86, 9, 91), (86, 10, 92), (86, 11, 93), (86, 12, 94), (95, 5, 96), (95, 6, 97), (95, 7, 98), (95, 8, 99), (95, 9, 100), (95, 10, 101), (95, 11, 102), (95, 12, 103), (104, 5, 105), (104, 6, 106), (104, 7, 107), (104, 8, 108), (104, 9, 109), (104, 10, 110), (104, 11, 111), (104, 12, 112), (113, 0, 40), (113, 1, 114), (113, 2, 123), (113, 3, 124), (113, 4, 125), (114, 5, 115), (114, 6, 116), (114, 7, 117), (114, 8, 118), (114, 9, 119), (114, 10, 120), (114, 11, 121), (114, 12, 122), (126, 0, 127), (126, 1, 128), (126, 3, 129), (126, 4, 130), (131, 0, 132), (131, 1, 133), (131, 3, 134), (131, 4, 135), (136, 0, 137), (136, 1, 138), (136, 3, 139), (136, 4, 140), (141, 0, 142), (141, 1, 143), (141, 3, 144), (141, 4, 145), (146, 0, 147), (146, 1, 148), (146, 3, 149), (146, 4, 150), (151, 0, 152), (151, 1, 153), (151, 3, 154), (151, 4, 155), (156, 0, 157), (156, 1, 166), (156, 2, 175), (156, 3, 177), (156, 4, 178), (156, 5, 179), (157, 5, 158), (157, 6, 159), (157, 7, 160), (157, 8, 161), (157, 9, 162), (157, 10, 163), (157, 11, 164), (157, 12, 165), (166, 5, 167), (166, 6, 168), (166, 7, 169), (166, 8, 170), (166, 9, 171), (166, 10, 172), (166, 11, 173), (166, 12, 174), (175, 0, 176), (180, 0, 181), (180, 1, 190), (180, 2, 199), (180, 3, 201), (180, 4, 202), (180, 5, 203), (181, 5, 182), (181, 6, 183), (181, 7, 184), (181, 8, 185), (181, 9, 186), (181, 10, 187), (181, 11, 188), (181, 12, 189), (190, 5, 191), (190, 6, 192), (190, 7, 193), (190, 8, 194), (190, 9, 195), (190, 10, 196), (190, 11, 197), (190, 12, 198), (199, 0, 200), (204, 0, 205), (204, 1, 214), (204, 2, 223), (204, 3, 225), (204, 4, 226), (204, 5, 227), (205, 5, 206), (205, 6, 207), (205, 7, 208), (205, 8, 209), (205, 9, 210), (205, 10, 211), (205, 11, 212), (205, 12, 213), (214, 5, 215), (214, 6, 216), (214, 7, 217), (214, 8, 218), (214, 9, 219), (214, 10, 220), (214, 11, 221), (214, 12, 222), (223, 0, 224), (228, 0, 229), (228, 1, 238), (228, 2, 247), (228, 3, 249), (228, 4, 250), (228, 5, 251), (229, 5, 230), (229, 6, 231), (229, 7, 232), (229, 8, 233), (229, 9, 234), (229, 10, 235), (229, 11, 236), (229, 12, 237), (238, 5, 239), (238, 6, 240), (238, 7, 241), (238, 8, 242), (238, 9, 243), (238, 10, 244), (238, 11, 245), (238, 12, 246), (247, 0, 248), (252, 1, 253), (252, 2, 254), (252, 3, 255), (252, 4, 256), (252, 5, 257), (252, 6, 258), (252, 7, 259), (252, 8, 260), (252, 9, 261), (252, 10, 262), (252, 11, 263), (252, 12, 264), (252, 13, 265), (252, 14, 266), (252, 15, 267), (252, 16, 268), (252, 17, 269), (252, 18, 270), (252, 19, 271), (252, 20, 272), (252, 21, 273), (252, 22, 274), (252, 23, 275), (252, 34, 276), (252, 35, 277), (252, 36, 278), (252, 37, 279), (252, 38, 280), (252, 39, 281), (252, 40, 282), (252, 41, 283), (252, 42, 284), (252, 43, 285), (252, 44, 286), (252, 45, 287), (252, 46, 288), (252, 47, 289), (252, 49, 290), (252, 50, 291), (252, 54, 292), (252, 55, 293), (252, 56, 294), (252, 57, 295), (252, 58, 296), (252, 59, 297), (252, 60, 298), (252, 61, 299), (252, 62, 300)]
def Lay (h : HP) : Prop := (∀ x, x < 301 → hK h x = K0 x ∧ hN h x = N0 x) ∧ ∀ t ∈ rT, hR h t.1 t.2.1 = some t.2.2
theorem Lk {h : HP} (L : Lay h) {x v : Nat} (e : x < 301 ∧ K0 x = v) : hK h x = v := (L.1 x e.1).1.trans e.2
theorem Ln {h : HP} (L : Lay h) {x v : Nat} (e : x < 301 ∧ N0 x = v) : hN h x = v := (L.1 x e.1).2.trans e.2
theorem Lr {h : HP} (L : Lay h) {x k v : Nat} (e : (x, k, v) ∈ rT) : hR h x k = some v := L.2 _ e
theorem Li {h : HP} (L : Lay h) {x n : Nat} {i : Int32} (e : x < 301 ∧ N0 x = n) (hi : vp_in i n) : vp_in i (hN h x) := by rw [Ln L e]; exact hi
theorem vpd {i : Int32} {n : Nat} (e : ¬ (i < 0 ∨ n ≤ i.toNatClampNeg)) : vp_in i n := e
theorem Lay.to {h h' : HP} (L : Lay h) (hk : hK h' = hK h) (hn : hN h' = hN h) (hr : hR h' = hR h) : Lay h' := ⟨fun x hx => by rw [hk, hn]; exact L.1 x hx, fun t ht => by rw [hr]; exact L.2 t ht⟩
theorem Lay.fr {A : Nat → Prop} {h h' : HP} (L : Lay h) (p : Fr A h h') : Lay h' := L.to p.K p.N p.2.1
theorem rT_no : ∀ t ∈ rT, ¬ t.1 = 29 ∨ (¬ t.2.1 = 1 ∧ ¬ t.2.1 = 6) := by decide +kernel
theorem Lay.tr {h : HP} {k : Nat} {v : Option Nat} (L : Lay h) (hk : k = 1 ∨ k = 6) : Lay (setR h 29 k v) := ⟨L.1, fun t ht => by
  show up2 _ _ _ _ _ _ = _
  rw [up2_ne _ _ (by have := rT_no t ht; omega)]
  exact L.2 t ht⟩
theorem Sat.mono {g : GT} {M : MD} {d : Nat} {b : Nat × Nat} {Q Q2 : Option Value → HP → Prop} {pc : Nat} {L st : List Value} {h : HP} (s : Sat g M d b Q pc L st h) (k : ∀ r h, Q r h → Q2 r h) : Sat g M d b Q2 pc L st h := fun p e R s1 m args below meth c H locs cells slots Z ls h1 h2 h3 h4 h5 h6 => s p e R s1 m args below meth c H locs cells slots Z ls h1 h2 h3 h4 h5 (fun r h' H' locs' cells' slots' pc' ls' q => h6 r h' H' locs' cells' slots' pc' ls' (k r h' q))
theorem CallV.mono {g : GT} {M : MD} {d : Nat} {b : Nat × Nat} {av : List Value} {h : HP} {Q Q2 : HP → Prop} (s : CallV g M d b av h Q) (k : ∀ h, Q h → Q2 h) : CallV g M d b av h Q2 := Sat.mono s (fun r h q => by
  rcases r with _ | r
  · exact k h q
  · exact q)
theorem CallI.mono {g : GT} {M : MD} {d : Nat} {av : List Value} {h : HP} {Q Q2 : Int32 → HP → Prop} (s : CallI g M d av h Q) (k : ∀ x h, Q x h → Q2 x h) : CallI g M d av h Q2 := Sat.mono s (fun r h q => by
  rcases r with _ | r
  · exact q
  · cases r <;> first | exact q | exact k _ h q)
theorem CallJ.mono {g : GT} {M : MD} {d : Nat} {av : List Value} {h : HP} {Q Q2 : Int64 → HP → Prop} (s : CallJ g M d av h Q) (k : ∀ x h, Q x h → Q2 x h) : CallJ g M d av h Q2 := Sat.mono s (fun r h q => by
  rcases r with _ | r
  · exact q
  · cases r <;> first | exact q | exact k _ h q)
theorem CallR.mono {g : GT} {M : MD} {d : Nat} {av : List Value} {h : HP} {Q Q2 : Nat → HP → Prop} (s : CallR g M d av h Q) (k : ∀ x h, Q x h → Q2 x h) : CallR g M d av h Q2 := Sat.mono s (fun r h q => by
  rcases r with _ | r
  · exact q
  · cases r <;> first | exact q | exact k _ h q)
theorem CallT.mono {g : GT} {M : MD} {d : Nat} {av : List Value} {h : HP} {Q Q2 : UInt32 → HP → Prop} (s : CallT g M d av h Q) (k : ∀ x h, Q x h → Q2 x h) : CallT g M d av h Q2 := Sat.mono s (fun r h q => by
  rcases r with _ | r
  · exact q
  · cases r <;> first | exact q | exact k _ h q)
theorem CallO.mono {g : GT} {M : MD} {d : Nat} {av : List Value} {h : HP} {Q0 Q3 : HP → Prop} {Q Q2 : Nat → HP → Prop} (s : CallO g M d av h Q0 Q) (k0 : ∀ h, Q0 h → Q3 h) (k : ∀ x h, Q x h → Q2 x h) : CallO g M d av h Q3 Q2 := Sat.mono s (fun r h q => by
  rcases r with _ | r
  · exact q
  · cases r <;> first | exact q | exact k _ h q | exact k0 h q)
theorem ifn.mono {r : Option Nat} {A A2 : Prop} {B B2 : Nat → Prop} (s : ifn r A B) (k0 : A → A2) (k : ∀ x, B x → B2 x) : ifn r A2 B2 := by
  cases r
  · exact k0 s
  · exact k _ s
theorem K_0 : 0 < 301 ∧ K0 0 = 10 := by decide +kernel
theorem K_1 : 1 < 301 ∧ K0 1 = 21 := by decide +kernel
theorem K_2 : 2 < 301 ∧ K0 2 = 26 := by decide +kernel
theorem K_3 : 3 < 301 ∧ K0 3 = 4 := by decide +kernel
theorem K_4 : 4 < 301 ∧ K0 4 = 9 := by decide +kernel
theorem K_5 : 5 < 301 ∧ K0 5 = 21 := by decide +kernel
theorem K_6 : 6 < 301 ∧ K0 6 = 21 := by decide +kernel
theorem K_7 : 7 < 301 ∧ K0 7 = 21 := by decide +kernel
theorem K_8 : 8 < 301 ∧ K0 8 = 21 := by decide +kernel
theorem K_9 : 9 < 301 ∧ K0 9 = 21 := by decide +kernel
theorem K_10 : 10 < 301 ∧ K0 10 = 21 := by decide +kernel
theorem K_11 : 11 < 301 ∧ K0 11 = 21 := by decide +kernel
theorem K_12 : 12 < 301 ∧ K0 12 = 21 := by decide +kernel
theorem K_13 : 13 < 301 ∧ K0 13 = 9 := by decide +kernel
theorem K_14 : 14 < 301 ∧ K0 14 = 21 := by decide +kernel
theorem K_15 : 15 < 301 ∧ K0 15 = 21 := by decide +kernel
theorem K_16 : 16 < 301 ∧ K0 16 = 21 := by decide +kernel
theorem K_17 : 17 < 301 ∧ K0 17 = 21 := by decide +kernel
theorem K_18 : 18 < 301 ∧ K0 18 = 21 := by decide +kernel
theorem K_19 : 19 < 301 ∧ K0 19 = 21 := by decide +kernel
theorem K_20 : 20 < 301 ∧ K0 20 = 21 := by decide +kernel
theorem K_21 : 21 < 301 ∧ K0 21 = 21 := by decide +kernel
theorem K_22 : 22 < 301 ∧ K0 22 = 6 := by decide +kernel
theorem K_23 : 23 < 301 ∧ K0 23 = 21 := by decide +kernel
theorem K_24 : 24 < 301 ∧ K0 24 = 21 := by decide +kernel
theorem K_25 : 25 < 301 ∧ K0 25 = 21 := by decide +kernel
theorem K_26 : 26 < 301 ∧ K0 26 = 21 := by decide +kernel
theorem K_27 : 27 < 301 ∧ K0 27 = 27 := by decide +kernel
theorem K_28 : 28 < 301 ∧ K0 28 = 23 := by decide +kernel
theorem K_29 : 29 < 301 ∧ K0 29 = 7 := by decide +kernel
theorem K_30 : 30 < 301 ∧ K0 30 = 9 := by decide +kernel
theorem K_31 : 31 < 301 ∧ K0 31 = 21 := by decide +kernel
theorem K_32 : 32 < 301 ∧ K0 32 = 21 := by decide +kernel
theorem K_33 : 33 < 301 ∧ K0 33 = 21 := by decide +kernel
theorem K_34 : 34 < 301 ∧ K0 34 = 21 := by decide +kernel
theorem K_35 : 35 < 301 ∧ K0 35 = 21 := by decide +kernel
theorem K_36 : 36 < 301 ∧ K0 36 = 21 := by decide +kernel
theorem K_37 : 37 < 301 ∧ K0 37 = 21 := by decide +kernel
theorem K_38 : 38 < 301 ∧ K0 38 = 21 := by decide +kernel
theorem K_39 : 39 < 301 ∧ K0 39 = 21 := by decide +kernel
theorem K_40 : 40 < 301 ∧ K0 40 = 5 := by decide +kernel
theorem K_41 : 41 < 301 ∧ K0 41 = 21 := by decide +kernel
theorem K_42 : 42 < 301 ∧ K0 42 = 21 := by decide +kernel
theorem K_43 : 43 < 301 ∧ K0 43 = 21 := by decide +kernel
theorem K_44 : 44 < 301 ∧ K0 44 = 21 := by decide +kernel
theorem K_45 : 45 < 301 ∧ K0 45 = 24 := by decide +kernel
theorem K_46 : 46 < 301 ∧ K0 46 = 2 := by decide +kernel
theorem K_47 : 47 < 301 ∧ K0 47 = 9 := by decide +kernel
theorem K_48 : 48 < 301 ∧ K0 48 = 21 := by decide +kernel
theorem K_49 : 49 < 301 ∧ K0 49 = 21 := by decide +kernel
theorem K_50 : 50 < 301 ∧ K0 50 = 21 := by decide +kernel
theorem K_51 : 51 < 301 ∧ K0 51 = 21 := by decide +kernel
theorem K_52 : 52 < 301 ∧ K0 52 = 21 := by decide +kernel
theorem K_53 : 53 < 301 ∧ K0 53 = 21 := by decide +kernel
theorem K_54 : 54 < 301 ∧ K0 54 = 21 := by decide +kernel
theorem K_55 : 55 < 301 ∧ K0 55 = 21 := by decide +kernel
theorem K_56 : 56 < 301 ∧ K0 56 = 21 := by decide +kernel
theorem K_57 : 57 < 301 ∧ K0 57 = 21 := by decide +kernel
theorem K_58 : 58 < 301 ∧ K0 58 = 1 := by decide +kernel
theorem K_59 : 59 < 301 ∧ K0 59 = 25 := by decide +kernel
theorem K_60 : 60 < 301 ∧ K0 60 = 21 := by decide +kernel
theorem K_61 : 61 < 301 ∧ K0 61 = 21 := by decide +kernel
theorem K_62 : 62 < 301 ∧ K0 62 = 21 := by decide +kernel
theorem K_63 : 63 < 301 ∧ K0 63 = 21 := by decide +kernel
theorem K_64 : 64 < 301 ∧ K0 64 = 21 := by decide +kernel
theorem K_65 : 65 < 301 ∧ K0 65 = 21 := by decide +kernel
theorem K_66 : 66 < 301 ∧ K0 66 = 21 := by decide +kernel
theorem K_67 : 67 < 301 ∧ K0 67 = 21 := by decide +kernel
theorem K_68 : 68 < 301 ∧ K0 68 = 9 := by decide +kernel
theorem K_69 : 69 < 301 ∧ K0 69 = 21 := by decide +kernel
theorem K_70 : 70 < 301 ∧ K0 70 = 21 := by decide +kernel
theorem K_71 : 71 < 301 ∧ K0 71 = 21 := by decide +kernel
theorem K_72 : 72 < 301 ∧ K0 72 = 21 := by decide +kernel
theorem K_73 : 73 < 301 ∧ K0 73 = 21 := by decide +kernel
theorem K_74 : 74 < 301 ∧ K0 74 = 21 := by decide +kernel
theorem K_75 : 75 < 301 ∧ K0 75 = 21 := by decide +kernel
theorem K_76 : 76 < 301 ∧ K0 76 = 21 := by decide +kernel
theorem K_77 : 77 < 301 ∧ K0 77 = 9 := by decide +kernel
theorem K_78 : 78 < 301 ∧ K0 78 = 21 := by decide +kernel
theorem K_79 : 79 < 301 ∧ K0 79 = 21 := by decide +kernel
theorem K_80 : 80 < 301 ∧ K0 80 = 21 := by decide +kernel
theorem K_81 : 81 < 301 ∧ K0 81 = 21 := by decide +kernel
theorem K_82 : 82 < 301 ∧ K0 82 = 21 := by decide +kernel
theorem K_83 : 83 < 301 ∧ K0 83 = 21 := by decide +kernel
theorem K_84 : 84 < 301 ∧ K0 84 = 21 := by decide +kernel
theorem K_85 : 85 < 301 ∧ K0 85 = 21 := by decide +kernel
theorem K_86 : 86 < 301 ∧ K0 86 = 9 := by decide +kernel
theorem K_87 : 87 < 301 ∧ K0 87 = 21 := by decide +kernel
theorem K_88 : 88 < 301 ∧ K0 88 = 21 := by decide +kernel
theorem K_89 : 89 < 301 ∧ K0 89 = 21 := by decide +kernel
theorem K_90 : 90 < 301 ∧ K0 90 = 21 := by decide +kernel
theorem K_91 : 91 < 301 ∧ K0 91 = 21 := by decide +kernel
theorem K_92 : 92 < 301 ∧ K0 92 = 21 := by decide +kernel
theorem K_93 : 93 < 301 ∧ K0 93 = 21 := by decide +kernel
theorem K_94 : 94 < 301 ∧ K0 94 = 21 := by decide +kernel
theorem K_95 : 95 < 301 ∧ K0 95 = 9 := by decide +kernel
theorem K_96 : 96 < 301 ∧ K0 96 = 21 := by decide +kernel
theorem K_97 : 97 < 301 ∧ K0 97 = 21 := by decide +kernel
theorem K_98 : 98 < 301 ∧ K0 98 = 21 := by decide +kernel
theorem K_99 : 99 < 301 ∧ K0 99 = 21 := by decide +kernel
theorem K_100 : 100 < 301 ∧ K0 100 = 21 := by decide +kernel
theorem K_101 : 101 < 301 ∧ K0 101 = 21 := by decide +kernel
theorem K_102 : 102 < 301 ∧ K0 102 = 21 := by decide +kernel
theorem K_103 : 103 < 301 ∧ K0 103 = 21 := by decide +kernel
theorem K_104 : 104 < 301 ∧ K0 104 = 9 := by decide +kernel
theorem K_105 : 105 < 301 ∧ K0 105 = 21 := by decide +kernel
theorem K_106 : 106 < 301 ∧ K0 106 = 21 := by decide +kernel
theorem K_107 : 107 < 301 ∧ K0 107 = 21 := by decide +kernel
theorem K_108 : 108 < 301 ∧ K0 108 = 21 := by decide +kernel
theorem K_109 : 109 < 301 ∧ K0 109 = 21 := by decide +kernel
theorem K_110 : 110 < 301 ∧ K0 110 = 21 := by decide +kernel
theorem K_111 : 111 < 301 ∧ K0 111 = 21 := by decide +kernel
theorem K_112 : 112 < 301 ∧ K0 112 = 21 := by decide +kernel
theorem K_113 : 113 < 301 ∧ K0 113 = 3 := by decide +kernel
theorem K_114 : 114 < 301 ∧ K0 114 = 9 := by decide +kernel
theorem K_115 : 115 < 301 ∧ K0 115 = 21 := by decide +kernel
theorem K_116 : 116 < 301 ∧ K0 116 = 21 := by decide +kernel
theorem K_117 : 117 < 301 ∧ K0 117 = 21 := by decide +kernel
theorem K_118 : 118 < 301 ∧ K0 118 = 21 := by decide +kernel
theorem K_119 : 119 < 301 ∧ K0 119 = 21 := by decide +kernel
theorem K_120 : 120 < 301 ∧ K0 120 = 21 := by decide +kernel
theorem K_121 : 121 < 301 ∧ K0 121 = 21 := by decide +kernel
theorem K_122 : 122 < 301 ∧ K0 122 = 21 := by decide +kernel
theorem K_123 : 123 < 301 ∧ K0 123 = 21 := by decide +kernel
theorem K_124 : 124 < 301 ∧ K0 124 = 21 := by decide +kernel
theorem K_125 : 125 < 301 ∧ K0 125 = 21 := by decide +kernel
theorem K_126 : 126 < 301 ∧ K0 126 = 8 := by decide +kernel
theorem K_127 : 127 < 301 ∧ K0 127 = 21 := by decide +kernel
theorem K_128 : 128 < 301 ∧ K0 128 = 21 := by decide +kernel
theorem K_129 : 129 < 301 ∧ K0 129 = 21 := by decide +kernel
theorem K_130 : 130 < 301 ∧ K0 130 = 21 := by decide +kernel
theorem K_131 : 131 < 301 ∧ K0 131 = 8 := by decide +kernel
theorem K_132 : 132 < 301 ∧ K0 132 = 21 := by decide +kernel
theorem K_133 : 133 < 301 ∧ K0 133 = 21 := by decide +kernel
theorem K_134 : 134 < 301 ∧ K0 134 = 21 := by decide +kernel
theorem K_135 : 135 < 301 ∧ K0 135 = 21 := by decide +kernel
theorem K_136 : 136 < 301 ∧ K0 136 = 8 := by decide +kernel
theorem K_137 : 137 < 301 ∧ K0 137 = 21 := by decide +kernel
theorem K_138 : 138 < 301 ∧ K0 138 = 21 := by decide +kernel
theorem K_139 : 139 < 301 ∧ K0 139 = 21 := by decide +kernel
theorem K_140 : 140 < 301 ∧ K0 140 = 21 := by decide +kernel
theorem K_141 : 141 < 301 ∧ K0 141 = 8 := by decide +kernel
theorem K_142 : 142 < 301 ∧ K0 142 = 21 := by decide +kernel
theorem K_143 : 143 < 301 ∧ K0 143 = 21 := by decide +kernel
theorem K_144 : 144 < 301 ∧ K0 144 = 21 := by decide +kernel
theorem K_145 : 145 < 301 ∧ K0 145 = 21 := by decide +kernel
theorem K_146 : 146 < 301 ∧ K0 146 = 8 := by decide +kernel
theorem K_147 : 147 < 301 ∧ K0 147 = 21 := by decide +kernel
theorem K_148 : 148 < 301 ∧ K0 148 = 21 := by decide +kernel
theorem K_149 : 149 < 301 ∧ K0 149 = 21 := by decide +kernel
theorem K_150 : 150 < 301 ∧ K0 150 = 21 := by decide +kernel
theorem K_151 : 151 < 301 ∧ K0 151 = 8 := by decide +kernel
theorem K_152 : 152 < 301 ∧ K0 152 = 21 := by decide +kernel
theorem K_153 : 153 < 301 ∧ K0 153 = 21 := by decide +kernel
theorem K_154 : 154 < 301 ∧ K0 154 = 21 := by decide +kernel
theorem K_155 : 155 < 301 ∧ K0 155 = 21 := by decide +kernel
theorem K_156 : 156 < 301 ∧ K0 156 = 4 := by decide +kernel
theorem K_157 : 157 < 301 ∧ K0 157 = 9 := by decide +kernel
theorem K_158 : 158 < 301 ∧ K0 158 = 21 := by decide +kernel
theorem K_159 : 159 < 301 ∧ K0 159 = 21 := by decide +kernel
theorem K_160 : 160 < 301 ∧ K0 160 = 21 := by decide +kernel
theorem K_161 : 161 < 301 ∧ K0 161 = 21 := by decide +kernel
theorem K_162 : 162 < 301 ∧ K0 162 = 21 := by decide +kernel
theorem K_163 : 163 < 301 ∧ K0 163 = 21 := by decide +kernel
theorem K_164 : 164 < 301 ∧ K0 164 = 21 := by decide +kernel
theorem K_165 : 165 < 301 ∧ K0 165 = 21 := by decide +kernel
theorem K_166 : 166 < 301 ∧ K0 166 = 9 := by decide +kernel
theorem K_167 : 167 < 301 ∧ K0 167 = 21 := by decide +kernel
theorem K_168 : 168 < 301 ∧ K0 168 = 21 := by decide +kernel
theorem K_169 : 169 < 301 ∧ K0 169 = 21 := by decide +kernel
theorem K_170 : 170 < 301 ∧ K0 170 = 21 := by decide +kernel
theorem K_171 : 171 < 301 ∧ K0 171 = 21 := by decide +kernel
theorem K_172 : 172 < 301 ∧ K0 172 = 21 := by decide +kernel
theorem K_173 : 173 < 301 ∧ K0 173 = 21 := by decide +kernel
theorem K_174 : 174 < 301 ∧ K0 174 = 21 := by decide +kernel
theorem K_175 : 175 < 301 ∧ K0 175 = 6 := by decide +kernel
theorem K_176 : 176 < 301 ∧ K0 176 = 21 := by decide +kernel
theorem K_177 : 177 < 301 ∧ K0 177 = 21 := by decide +kernel
theorem K_178 : 178 < 301 ∧ K0 178 = 21 := by decide +kernel
theorem K_179 : 179 < 301 ∧ K0 179 = 21 := by decide +kernel
theorem K_180 : 180 < 301 ∧ K0 180 = 4 := by decide +kernel
theorem K_181 : 181 < 301 ∧ K0 181 = 9 := by decide +kernel
theorem K_182 : 182 < 301 ∧ K0 182 = 21 := by decide +kernel
theorem K_183 : 183 < 301 ∧ K0 183 = 21 := by decide +kernel
theorem K_184 : 184 < 301 ∧ K0 184 = 21 := by decide +kernel
theorem K_185 : 185 < 301 ∧ K0 185 = 21 := by decide +kernel
theorem K_186 : 186 < 301 ∧ K0 186 = 21 := by decide +kernel
theorem K_187 : 187 < 301 ∧ K0 187 = 21 := by decide +kernel
theorem K_188 : 188 < 301 ∧ K0 188 = 21 := by decide +kernel
theorem K_189 : 189 < 301 ∧ K0 189 = 21 := by decide +kernel
theorem K_190 : 190 < 301 ∧ K0 190 = 9 := by decide +kernel
theorem K_191 : 191 < 301 ∧ K0 191 = 21 := by decide +kernel
theorem K_192 : 192 < 301 ∧ K0 192 = 21 := by decide +kernel
theorem K_193 : 193 < 301 ∧ K0 193 = 21 := by decide +kernel
theorem K_194 : 194 < 301 ∧ K0 194 = 21 := by decide +kernel
theorem K_195 : 195 < 301 ∧ K0 195 = 21 := by decide +kernel
theorem K_196 : 196 < 301 ∧ K0 196 = 21 := by decide +kernel
theorem K_197 : 197 < 301 ∧ K0 197 = 21 := by decide +kernel
theorem K_198 : 198 < 301 ∧ K0 198 = 21 := by decide +kernel
theorem K_199 : 199 < 301 ∧ K0 199 = 6 := by decide +kernel
theorem K_200 : 200 < 301 ∧ K0 200 = 21 := by decide +kernel
theorem K_201 : 201 < 301 ∧ K0 201 = 21 := by decide +kernel
theorem K_202 : 202 < 301 ∧ K0 202 = 21 := by decide +kernel
theorem K_203 : 203 < 301 ∧ K0 203 = 21 := by decide +kernel
theorem K_204 : 204 < 301 ∧ K0 204 = 4 := by decide +kernel
theorem K_205 : 205 < 301 ∧ K0 205 = 9 := by decide +kernel
theorem K_206 : 206 < 301 ∧ K0 206 = 21 := by decide +kernel
theorem K_207 : 207 < 301 ∧ K0 207 = 21 := by decide +kernel
theorem K_208 : 208 < 301 ∧ K0 208 = 21 := by decide +kernel
theorem K_209 : 209 < 301 ∧ K0 209 = 21 := by decide +kernel
theorem K_210 : 210 < 301 ∧ K0 210 = 21 := by decide +kernel
theorem K_211 : 211 < 301 ∧ K0 211 = 21 := by decide +kernel
theorem K_212 : 212 < 301 ∧ K0 212 = 21 := by decide +kernel
theorem K_213 : 213 < 301 ∧ K0 213 = 21 := by decide +kernel
theorem K_214 : 214 < 301 ∧ K0 214 = 9 := by decide +kernel
theorem K_215 : 215 < 301 ∧ K0 215 = 21 := by decide +kernel
theorem K_216 : 216 < 301 ∧ K0 216 = 21 := by decide +kernel
theorem K_217 : 217 < 301 ∧ K0 217 = 21 := by decide +kernel
theorem K_218 : 218 < 301 ∧ K0 218 = 21 := by decide +kernel
theorem K_219 : 219 < 301 ∧ K0 219 = 21 := by decide +kernel
theorem K_220 : 220 < 301 ∧ K0 220 = 21 := by decide +kernel
theorem K_221 : 221 < 301 ∧ K0 221 = 21 := by decide +kernel
theorem K_222 : 222 < 301 ∧ K0 222 = 21 := by decide +kernel
theorem K_223 : 223 < 301 ∧ K0 223 = 6 := by decide +kernel
theorem K_224 : 224 < 301 ∧ K0 224 = 21 := by decide +kernel
theorem K_225 : 225 < 301 ∧ K0 225 = 21 := by decide +kernel
theorem K_226 : 226 < 301 ∧ K0 226 = 21 := by decide +kernel
theorem K_227 : 227 < 301 ∧ K0 227 = 21 := by decide +kernel
theorem K_228 : 228 < 301 ∧ K0 228 = 4 := by decide +kernel
theorem K_229 : 229 < 301 ∧ K0 229 = 9 := by decide +kernel
theorem K_230 : 230 < 301 ∧ K0 230 = 21 := by decide +kernel
theorem K_231 : 231 < 301 ∧ K0 231 = 21 := by decide +kernel
theorem K_232 : 232 < 301 ∧ K0 232 = 21 := by decide +kernel
theorem K_233 : 233 < 301 ∧ K0 233 = 21 := by decide +kernel
theorem K_234 : 234 < 301 ∧ K0 234 = 21 := by decide +kernel
theorem K_235 : 235 < 301 ∧ K0 235 = 21 := by decide +kernel
theorem K_236 : 236 < 301 ∧ K0 236 = 21 := by decide +kernel
theorem K_237 : 237 < 301 ∧ K0 237 = 21 := by decide +kernel
theorem K_238 : 238 < 301 ∧ K0 238 = 9 := by decide +kernel
theorem K_239 : 239 < 301 ∧ K0 239 = 21 := by decide +kernel
theorem K_240 : 240 < 301 ∧ K0 240 = 21 := by decide +kernel
theorem K_241 : 241 < 301 ∧ K0 241 = 21 := by decide +kernel
theorem K_242 : 242 < 301 ∧ K0 242 = 21 := by decide +kernel
theorem K_243 : 243 < 301 ∧ K0 243 = 21 := by decide +kernel
theorem K_244 : 244 < 301 ∧ K0 244 = 21 := by decide +kernel
theorem K_245 : 245 < 301 ∧ K0 245 = 21 := by decide +kernel
theorem K_246 : 246 < 301 ∧ K0 246 = 21 := by decide +kernel
theorem K_247 : 247 < 301 ∧ K0 247 = 6 := by decide +kernel
theorem K_248 : 248 < 301 ∧ K0 248 = 21 := by decide +kernel
theorem K_249 : 249 < 301 ∧ K0 249 = 21 := by decide +kernel
theorem K_250 : 250 < 301 ∧ K0 250 = 21 := by decide +kernel
theorem K_251 : 251 < 301 ∧ K0 251 = 21 := by decide +kernel
theorem K_252 : 252 < 301 ∧ K0 252 = 11 := by decide +kernel
theorem K_253 : 253 < 301 ∧ K0 253 = 21 := by decide +kernel
theorem K_254 : 254 < 301 ∧ K0 254 = 21 := by decide +kernel
theorem K_255 : 255 < 301 ∧ K0 255 = 21 := by decide +kernel
theorem K_256 : 256 < 301 ∧ K0 256 = 21 := by decide +kernel
theorem K_257 : 257 < 301 ∧ K0 257 = 21 := by decide +kernel
theorem K_258 : 258 < 301 ∧ K0 258 = 21 := by decide +kernel
theorem K_259 : 259 < 301 ∧ K0 259 = 21 := by decide +kernel
theorem K_260 : 260 < 301 ∧ K0 260 = 21 := by decide +kernel
theorem K_261 : 261 < 301 ∧ K0 261 = 21 := by decide +kernel
theorem K_262 : 262 < 301 ∧ K0 262 = 21 := by decide +kernel
theorem K_263 : 263 < 301 ∧ K0 263 = 21 := by decide +kernel
theorem K_264 : 264 < 301 ∧ K0 264 = 21 := by decide +kernel
theorem K_265 : 265 < 301 ∧ K0 265 = 21 := by decide +kernel
theorem K_266 : 266 < 301 ∧ K0 266 = 21 := by decide +kernel
theorem K_267 : 267 < 301 ∧ K0 267 = 21 := by decide +kernel
theorem K_268 : 268 < 301 ∧ K0 268 = 21 := by decide +kernel
theorem K_269 : 269 < 301 ∧ K0 269 = 21 := by decide +kernel
theorem K_270 : 270 < 301 ∧ K0 270 = 21 := by decide +kernel
theorem K_271 : 271 < 301 ∧ K0 271 = 21 := by decide +kernel
theorem K_272 : 272 < 301 ∧ K0 272 = 21 := by decide +kernel
theorem K_273 : 273 < 301 ∧ K0 273 = 21 := by decide +kernel
theorem K_274 : 274 < 301 ∧ K0 274 = 21 := by decide +kernel
theorem K_275 : 275 < 301 ∧ K0 275 = 21 := by decide +kernel
theorem K_276 : 276 < 301 ∧ K0 276 = 22 := by decide +kernel
theorem K_277 : 277 < 301 ∧ K0 277 = 21 := by decide +kernel
theorem K_278 : 278 < 301 ∧ K0 278 = 21 := by decide +kernel
theorem K_279 : 279 < 301 ∧ K0 279 = 21 := by decide +kernel
theorem K_280 : 280 < 301 ∧ K0 280 = 21 := by decide +kernel
theorem K_281 : 281 < 301 ∧ K0 281 = 21 := by decide +kernel
theorem K_282 : 282 < 301 ∧ K0 282 = 21 := by decide +kernel
theorem K_283 : 283 < 301 ∧ K0 283 = 21 := by decide +kernel
theorem K_284 : 284 < 301 ∧ K0 284 = 24 := by decide +kernel
theorem K_285 : 285 < 301 ∧ K0 285 = 24 := by decide +kernel
theorem K_286 : 286 < 301 ∧ K0 286 = 21 := by decide +kernel
theorem K_287 : 287 < 301 ∧ K0 287 = 21 := by decide +kernel
theorem K_288 : 288 < 301 ∧ K0 288 = 21 := by decide +kernel
theorem K_289 : 289 < 301 ∧ K0 289 = 21 := by decide +kernel
theorem K_290 : 290 < 301 ∧ K0 290 = 21 := by decide +kernel
theorem K_291 : 291 < 301 ∧ K0 291 = 21 := by decide +kernel
theorem K_292 : 292 < 301 ∧ K0 292 = 21 := by decide +kernel
theorem K_293 : 293 < 301 ∧ K0 293 = 21 := by decide +kernel
theorem K_294 : 294 < 301 ∧ K0 294 = 21 := by decide +kernel
theorem K_295 : 295 < 301 ∧ K0 295 = 21 := by decide +kernel
theorem K_296 : 296 < 301 ∧ K0 296 = 21 := by decide +kernel
theorem K_297 : 297 < 301 ∧ K0 297 = 21 := by decide +kernel
theorem K_298 : 298 < 301 ∧ K0 298 = 21 := by decide +kernel
theorem K_299 : 299 < 301 ∧ K0 299 = 21 := by decide +kernel
theorem K_300 : 300 < 301 ∧ K0 300 = 23 := by decide +kernel
theorem N_1 : 1 < 301 ∧ N0 1 = 400 := by decide +kernel
theorem N_2 : 2 < 301 ∧ N0 2 = 6 := by decide +kernel
theorem N_5 : 5 < 301 ∧ N0 5 = 5 := by decide +kernel
theorem N_6 : 6 < 301 ∧ N0 6 = 5 := by decide +kernel
theorem N_7 : 7 < 301 ∧ N0 7 = 5 := by decide +kernel
theorem N_8 : 8 < 301 ∧ N0 8 = 6 := by decide +kernel
theorem N_9 : 9 < 301 ∧ N0 9 = 6 := by decide +kernel
theorem N_10 : 10 < 301 ∧ N0 10 = 6 := by decide +kernel
theorem N_11 : 11 < 301 ∧ N0 11 = 6 := by decide +kernel
theorem N_12 : 12 < 301 ∧ N0 12 = 6 := by decide +kernel
theorem N_14 : 14 < 301 ∧ N0 14 = 5 := by decide +kernel
theorem N_15 : 15 < 301 ∧ N0 15 = 5 := by decide +kernel
theorem N_16 : 16 < 301 ∧ N0 16 = 5 := by decide +kernel
theorem N_17 : 17 < 301 ∧ N0 17 = 6 := by decide +kernel
theorem N_18 : 18 < 301 ∧ N0 18 = 6 := by decide +kernel
theorem N_19 : 19 < 301 ∧ N0 19 = 6 := by decide +kernel
theorem N_20 : 20 < 301 ∧ N0 20 = 6 := by decide +kernel
theorem N_21 : 21 < 301 ∧ N0 21 = 6 := by decide +kernel
theorem N_23 : 23 < 301 ∧ N0 23 = 680 := by decide +kernel
theorem N_24 : 24 < 301 ∧ N0 24 = 10 := by decide +kernel
theorem N_25 : 25 < 301 ∧ N0 25 = 10 := by decide +kernel
theorem N_26 : 26 < 301 ∧ N0 26 = 10 := by decide +kernel
theorem N_27 : 27 < 301 ∧ N0 27 = 4 := by decide +kernel
theorem N_28 : 28 < 301 ∧ N0 28 = 4 := by decide +kernel
theorem N_31 : 31 < 301 ∧ N0 31 = 5 := by decide +kernel
theorem N_32 : 32 < 301 ∧ N0 32 = 5 := by decide +kernel
theorem N_33 : 33 < 301 ∧ N0 33 = 5 := by decide +kernel
theorem N_34 : 34 < 301 ∧ N0 34 = 6 := by decide +kernel
theorem N_35 : 35 < 301 ∧ N0 35 = 6 := by decide +kernel
theorem N_36 : 36 < 301 ∧ N0 36 = 6 := by decide +kernel
theorem N_37 : 37 < 301 ∧ N0 37 = 6 := by decide +kernel
theorem N_38 : 38 < 301 ∧ N0 38 = 6 := by decide +kernel
theorem N_39 : 39 < 301 ∧ N0 39 = 0 := by decide +kernel
theorem N_41 : 41 < 301 ∧ N0 41 = 5 := by decide +kernel
theorem N_42 : 42 < 301 ∧ N0 42 = 5 := by decide +kernel
theorem N_43 : 43 < 301 ∧ N0 43 = 6 := by decide +kernel
theorem N_44 : 44 < 301 ∧ N0 44 = 5 := by decide +kernel
theorem N_45 : 45 < 301 ∧ N0 45 = 32 := by decide +kernel
theorem N_48 : 48 < 301 ∧ N0 48 = 5 := by decide +kernel
theorem N_49 : 49 < 301 ∧ N0 49 = 5 := by decide +kernel
theorem N_50 : 50 < 301 ∧ N0 50 = 5 := by decide +kernel
theorem N_51 : 51 < 301 ∧ N0 51 = 6 := by decide +kernel
theorem N_52 : 52 < 301 ∧ N0 52 = 6 := by decide +kernel
theorem N_53 : 53 < 301 ∧ N0 53 = 6 := by decide +kernel
theorem N_54 : 54 < 301 ∧ N0 54 = 6 := by decide +kernel
theorem N_55 : 55 < 301 ∧ N0 55 = 6 := by decide +kernel
theorem N_56 : 56 < 301 ∧ N0 56 = 671 := by decide +kernel
theorem N_57 : 57 < 301 ∧ N0 57 = 3 := by decide +kernel
theorem N_59 : 59 < 301 ∧ N0 59 = 5 := by decide +kernel
theorem N_60 : 60 < 301 ∧ N0 60 = 6 := by decide +kernel
theorem N_61 : 61 < 301 ∧ N0 61 = 6 := by decide +kernel
theorem N_62 : 62 < 301 ∧ N0 62 = 7 := by decide +kernel
theorem N_63 : 63 < 301 ∧ N0 63 = 36 := by decide +kernel
theorem N_64 : 64 < 301 ∧ N0 64 = 7 := by decide +kernel
theorem N_65 : 65 < 301 ∧ N0 65 = 5 := by decide +kernel
theorem N_66 : 66 < 301 ∧ N0 66 = 25 := by decide +kernel
theorem N_67 : 67 < 301 ∧ N0 67 = 25 := by decide +kernel
theorem N_69 : 69 < 301 ∧ N0 69 = 5 := by decide +kernel
theorem N_70 : 70 < 301 ∧ N0 70 = 5 := by decide +kernel
theorem N_71 : 71 < 301 ∧ N0 71 = 5 := by decide +kernel
theorem N_72 : 72 < 301 ∧ N0 72 = 6 := by decide +kernel
theorem N_73 : 73 < 301 ∧ N0 73 = 6 := by decide +kernel
theorem N_74 : 74 < 301 ∧ N0 74 = 6 := by decide +kernel
theorem N_75 : 75 < 301 ∧ N0 75 = 6 := by decide +kernel
theorem N_76 : 76 < 301 ∧ N0 76 = 6 := by decide +kernel
theorem N_78 : 78 < 301 ∧ N0 78 = 5 := by decide +kernel
theorem N_79 : 79 < 301 ∧ N0 79 = 5 := by decide +kernel
theorem N_80 : 80 < 301 ∧ N0 80 = 5 := by decide +kernel
theorem N_81 : 81 < 301 ∧ N0 81 = 6 := by decide +kernel
theorem N_82 : 82 < 301 ∧ N0 82 = 6 := by decide +kernel
theorem N_83 : 83 < 301 ∧ N0 83 = 6 := by decide +kernel
theorem N_84 : 84 < 301 ∧ N0 84 = 6 := by decide +kernel
theorem N_85 : 85 < 301 ∧ N0 85 = 6 := by decide +kernel
theorem N_87 : 87 < 301 ∧ N0 87 = 5 := by decide +kernel
theorem N_88 : 88 < 301 ∧ N0 88 = 5 := by decide +kernel
theorem N_89 : 89 < 301 ∧ N0 89 = 5 := by decide +kernel
theorem N_90 : 90 < 301 ∧ N0 90 = 6 := by decide +kernel
theorem N_91 : 91 < 301 ∧ N0 91 = 6 := by decide +kernel
theorem N_92 : 92 < 301 ∧ N0 92 = 6 := by decide +kernel
theorem N_93 : 93 < 301 ∧ N0 93 = 6 := by decide +kernel
theorem N_94 : 94 < 301 ∧ N0 94 = 6 := by decide +kernel
theorem N_96 : 96 < 301 ∧ N0 96 = 5 := by decide +kernel
theorem N_97 : 97 < 301 ∧ N0 97 = 5 := by decide +kernel
theorem N_98 : 98 < 301 ∧ N0 98 = 5 := by decide +kernel
theorem N_99 : 99 < 301 ∧ N0 99 = 6 := by decide +kernel
theorem N_100 : 100 < 301 ∧ N0 100 = 6 := by decide +kernel
theorem N_101 : 101 < 301 ∧ N0 101 = 6 := by decide +kernel
theorem N_102 : 102 < 301 ∧ N0 102 = 6 := by decide +kernel
theorem N_103 : 103 < 301 ∧ N0 103 = 6 := by decide +kernel
theorem N_105 : 105 < 301 ∧ N0 105 = 5 := by decide +kernel
theorem N_106 : 106 < 301 ∧ N0 106 = 5 := by decide +kernel
theorem N_107 : 107 < 301 ∧ N0 107 = 5 := by decide +kernel
theorem N_108 : 108 < 301 ∧ N0 108 = 6 := by decide +kernel
theorem N_109 : 109 < 301 ∧ N0 109 = 6 := by decide +kernel
theorem N_110 : 110 < 301 ∧ N0 110 = 6 := by decide +kernel
theorem N_111 : 111 < 301 ∧ N0 111 = 6 := by decide +kernel
theorem N_112 : 112 < 301 ∧ N0 112 = 6 := by decide +kernel
theorem N_115 : 115 < 301 ∧ N0 115 = 5 := by decide +kernel
theorem N_116 : 116 < 301 ∧ N0 116 = 5 := by decide +kernel
theorem N_117 : 117 < 301 ∧ N0 117 = 5 := by decide +kernel
theorem N_118 : 118 < 301 ∧ N0 118 = 6 := by decide +kernel
theorem N_119 : 119 < 301 ∧ N0 119 = 6 := by decide +kernel
theorem N_120 : 120 < 301 ∧ N0 120 = 6 := by decide +kernel
theorem N_121 : 121 < 301 ∧ N0 121 = 6 := by decide +kernel
theorem N_122 : 122 < 301 ∧ N0 122 = 6 := by decide +kernel
theorem N_123 : 123 < 301 ∧ N0 123 = 6 := by decide +kernel
theorem N_124 : 124 < 301 ∧ N0 124 = 36 := by decide +kernel
theorem N_125 : 125 < 301 ∧ N0 125 = 2 := by decide +kernel
theorem N_127 : 127 < 301 ∧ N0 127 = 400 := by decide +kernel
theorem N_128 : 128 < 301 ∧ N0 128 = 400 := by decide +kernel
theorem N_129 : 129 < 301 ∧ N0 129 = 13 := by decide +kernel
theorem N_130 : 130 < 301 ∧ N0 130 = 12 := by decide +kernel
theorem N_132 : 132 < 301 ∧ N0 132 = 400 := by decide +kernel
theorem N_133 : 133 < 301 ∧ N0 133 = 400 := by decide +kernel
theorem N_134 : 134 < 301 ∧ N0 134 = 13 := by decide +kernel
theorem N_135 : 135 < 301 ∧ N0 135 = 12 := by decide +kernel
theorem N_137 : 137 < 301 ∧ N0 137 = 400 := by decide +kernel
theorem N_138 : 138 < 301 ∧ N0 138 = 400 := by decide +kernel
theorem N_139 : 139 < 301 ∧ N0 139 = 13 := by decide +kernel
theorem N_140 : 140 < 301 ∧ N0 140 = 12 := by decide +kernel
theorem N_142 : 142 < 301 ∧ N0 142 = 400 := by decide +kernel
theorem N_143 : 143 < 301 ∧ N0 143 = 400 := by decide +kernel
theorem N_144 : 144 < 301 ∧ N0 144 = 13 := by decide +kernel
theorem N_145 : 145 < 301 ∧ N0 145 = 12 := by decide +kernel
theorem N_147 : 147 < 301 ∧ N0 147 = 400 := by decide +kernel
theorem N_148 : 148 < 301 ∧ N0 148 = 400 := by decide +kernel
theorem N_149 : 149 < 301 ∧ N0 149 = 13 := by decide +kernel
theorem N_150 : 150 < 301 ∧ N0 150 = 12 := by decide +kernel
theorem N_152 : 152 < 301 ∧ N0 152 = 400 := by decide +kernel
theorem N_153 : 153 < 301 ∧ N0 153 = 400 := by decide +kernel
theorem N_154 : 154 < 301 ∧ N0 154 = 13 := by decide +kernel
theorem N_155 : 155 < 301 ∧ N0 155 = 12 := by decide +kernel
theorem N_158 : 158 < 301 ∧ N0 158 = 5 := by decide +kernel
theorem N_159 : 159 < 301 ∧ N0 159 = 5 := by decide +kernel
theorem N_160 : 160 < 301 ∧ N0 160 = 5 := by decide +kernel
theorem N_161 : 161 < 301 ∧ N0 161 = 6 := by decide +kernel
theorem N_162 : 162 < 301 ∧ N0 162 = 6 := by decide +kernel
theorem N_163 : 163 < 301 ∧ N0 163 = 6 := by decide +kernel
theorem N_164 : 164 < 301 ∧ N0 164 = 6 := by decide +kernel
theorem N_165 : 165 < 301 ∧ N0 165 = 6 := by decide +kernel
theorem N_167 : 167 < 301 ∧ N0 167 = 5 := by decide +kernel
theorem N_168 : 168 < 301 ∧ N0 168 = 5 := by decide +kernel
theorem N_169 : 169 < 301 ∧ N0 169 = 5 := by decide +kernel
theorem N_170 : 170 < 301 ∧ N0 170 = 6 := by decide +kernel
theorem N_171 : 171 < 301 ∧ N0 171 = 6 := by decide +kernel
theorem N_172 : 172 < 301 ∧ N0 172 = 6 := by decide +kernel
theorem N_173 : 173 < 301 ∧ N0 173 = 6 := by decide +kernel
theorem N_174 : 174 < 301 ∧ N0 174 = 6 := by decide +kernel
theorem N_176 : 176 < 301 ∧ N0 176 = 680 := by decide +kernel
theorem N_177 : 177 < 301 ∧ N0 177 = 10 := by decide +kernel
theorem N_178 : 178 < 301 ∧ N0 178 = 10 := by decide +kernel
theorem N_179 : 179 < 301 ∧ N0 179 = 10 := by decide +kernel
theorem N_182 : 182 < 301 ∧ N0 182 = 5 := by decide +kernel
theorem N_183 : 183 < 301 ∧ N0 183 = 5 := by decide +kernel
theorem N_184 : 184 < 301 ∧ N0 184 = 5 := by decide +kernel
theorem N_185 : 185 < 301 ∧ N0 185 = 6 := by decide +kernel
theorem N_186 : 186 < 301 ∧ N0 186 = 6 := by decide +kernel
theorem N_187 : 187 < 301 ∧ N0 187 = 6 := by decide +kernel
theorem N_188 : 188 < 301 ∧ N0 188 = 6 := by decide +kernel
theorem N_189 : 189 < 301 ∧ N0 189 = 6 := by decide +kernel
theorem N_191 : 191 < 301 ∧ N0 191 = 5 := by decide +kernel
theorem N_192 : 192 < 301 ∧ N0 192 = 5 := by decide +kernel
theorem N_193 : 193 < 301 ∧ N0 193 = 5 := by decide +kernel
theorem N_194 : 194 < 301 ∧ N0 194 = 6 := by decide +kernel
theorem N_195 : 195 < 301 ∧ N0 195 = 6 := by decide +kernel
theorem N_196 : 196 < 301 ∧ N0 196 = 6 := by decide +kernel
theorem N_197 : 197 < 301 ∧ N0 197 = 6 := by decide +kernel
theorem N_198 : 198 < 301 ∧ N0 198 = 6 := by decide +kernel
theorem N_200 : 200 < 301 ∧ N0 200 = 680 := by decide +kernel
theorem N_201 : 201 < 301 ∧ N0 201 = 10 := by decide +kernel
theorem N_202 : 202 < 301 ∧ N0 202 = 10 := by decide +kernel
theorem N_203 : 203 < 301 ∧ N0 203 = 10 := by decide +kernel
theorem N_206 : 206 < 301 ∧ N0 206 = 5 := by decide +kernel
theorem N_207 : 207 < 301 ∧ N0 207 = 5 := by decide +kernel
theorem N_208 : 208 < 301 ∧ N0 208 = 5 := by decide +kernel
theorem N_209 : 209 < 301 ∧ N0 209 = 6 := by decide +kernel
theorem N_210 : 210 < 301 ∧ N0 210 = 6 := by decide +kernel
theorem N_211 : 211 < 301 ∧ N0 211 = 6 := by decide +kernel
theorem N_212 : 212 < 301 ∧ N0 212 = 6 := by decide +kernel
theorem N_213 : 213 < 301 ∧ N0 213 = 6 := by decide +kernel
theorem N_215 : 215 < 301 ∧ N0 215 = 5 := by decide +kernel
theorem N_216 : 216 < 301 ∧ N0 216 = 5 := by decide +kernel
theorem N_217 : 217 < 301 ∧ N0 217 = 5 := by decide +kernel
theorem N_218 : 218 < 301 ∧ N0 218 = 6 := by decide +kernel
theorem N_219 : 219 < 301 ∧ N0 219 = 6 := by decide +kernel
theorem N_220 : 220 < 301 ∧ N0 220 = 6 := by decide +kernel
theorem N_221 : 221 < 301 ∧ N0 221 = 6 := by decide +kernel
theorem N_222 : 222 < 301 ∧ N0 222 = 6 := by decide +kernel
theorem N_224 : 224 < 301 ∧ N0 224 = 680 := by decide +kernel
theorem N_225 : 225 < 301 ∧ N0 225 = 10 := by decide +kernel
theorem N_226 : 226 < 301 ∧ N0 226 = 10 := by decide +kernel
theorem N_227 : 227 < 301 ∧ N0 227 = 10 := by decide +kernel
theorem N_230 : 230 < 301 ∧ N0 230 = 5 := by decide +kernel
theorem N_231 : 231 < 301 ∧ N0 231 = 5 := by decide +kernel
theorem N_232 : 232 < 301 ∧ N0 232 = 5 := by decide +kernel
theorem N_233 : 233 < 301 ∧ N0 233 = 6 := by decide +kernel
theorem N_234 : 234 < 301 ∧ N0 234 = 6 := by decide +kernel
theorem N_235 : 235 < 301 ∧ N0 235 = 6 := by decide +kernel
theorem N_236 : 236 < 301 ∧ N0 236 = 6 := by decide +kernel
theorem N_237 : 237 < 301 ∧ N0 237 = 6 := by decide +kernel
theorem N_239 : 239 < 301 ∧ N0 239 = 5 := by decide +kernel
theorem N_240 : 240 < 301 ∧ N0 240 = 5 := by decide +kernel
theorem N_241 : 241 < 301 ∧ N0 241 = 5 := by decide +kernel
theorem N_242 : 242 < 301 ∧ N0 242 = 6 := by decide +kernel
theorem N_243 : 243 < 301 ∧ N0 243 = 6 := by decide +kernel
theorem N_244 : 244 < 301 ∧ N0 244 = 6 := by decide +kernel
theorem N_245 : 245 < 301 ∧ N0 245 = 6 := by decide +kernel
theorem N_246 : 246 < 301 ∧ N0 246 = 6 := by decide +kernel
theorem N_248 : 248 < 301 ∧ N0 248 = 680 := by decide +kernel
theorem N_249 : 249 < 301 ∧ N0 249 = 10 := by decide +kernel
theorem N_250 : 250 < 301 ∧ N0 250 = 10 := by decide +kernel
theorem N_251 : 251 < 301 ∧ N0 251 = 10 := by decide +kernel
theorem N_253 : 253 < 301 ∧ N0 253 = 8 := by decide +kernel
theorem N_254 : 254 < 301 ∧ N0 254 = 5 := by decide +kernel
theorem N_255 : 255 < 301 ∧ N0 255 = 5 := by decide +kernel
theorem N_256 : 256 < 301 ∧ N0 256 = 5 := by decide +kernel
theorem N_257 : 257 < 301 ∧ N0 257 = 6 := by decide +kernel
theorem N_258 : 258 < 301 ∧ N0 258 = 6 := by decide +kernel
theorem N_259 : 259 < 301 ∧ N0 259 = 6 := by decide +kernel
theorem N_260 : 260 < 301 ∧ N0 260 = 6 := by decide +kernel
theorem N_261 : 261 < 301 ∧ N0 261 = 6 := by decide +kernel
theorem N_262 : 262 < 301 ∧ N0 262 = 10 := by decide +kernel
theorem N_263 : 263 < 301 ∧ N0 263 = 10 := by decide +kernel
theorem N_264 : 264 < 301 ∧ N0 264 = 10 := by decide +kernel
theorem N_265 : 265 < 301 ∧ N0 265 = 5 := by decide +kernel
theorem N_266 : 266 < 301 ∧ N0 266 = 5 := by decide +kernel
theorem N_267 : 267 < 301 ∧ N0 267 = 5 := by decide +kernel
theorem N_268 : 268 < 301 ∧ N0 268 = 6 := by decide +kernel
theorem N_269 : 269 < 301 ∧ N0 269 = 4 := by decide +kernel
theorem N_270 : 270 < 301 ∧ N0 270 = 5 := by decide +kernel
theorem N_271 : 271 < 301 ∧ N0 271 = 5 := by decide +kernel
theorem N_272 : 272 < 301 ∧ N0 272 = 5 := by decide +kernel
theorem N_273 : 273 < 301 ∧ N0 273 = 6 := by decide +kernel
theorem N_274 : 274 < 301 ∧ N0 274 = 6 := by decide +kernel
theorem N_275 : 275 < 301 ∧ N0 275 = 6 := by decide +kernel
theorem N_276 : 276 < 301 ∧ N0 276 = 400 := by decide +kernel
theorem N_277 : 277 < 301 ∧ N0 277 = 1800 := by decide +kernel
theorem N_278 : 278 < 301 ∧ N0 278 = 1800 := by decide +kernel
theorem N_279 : 279 < 301 ∧ N0 279 = 6 := by decide +kernel
theorem N_280 : 280 < 301 ∧ N0 280 = 72 := by decide +kernel
theorem N_281 : 281 < 301 ∧ N0 281 = 72 := by decide +kernel
theorem N_282 : 282 < 301 ∧ N0 282 = 72 := by decide +kernel
theorem N_283 : 283 < 301 ∧ N0 283 = 402 := by decide +kernel
theorem N_284 : 284 < 301 ∧ N0 284 = 12 := by decide +kernel
theorem N_285 : 285 < 301 ∧ N0 285 = 300 := by decide +kernel
theorem N_286 : 286 < 301 ∧ N0 286 = 6 := by decide +kernel
theorem N_287 : 287 < 301 ∧ N0 287 = 6 := by decide +kernel
theorem N_288 : 288 < 301 ∧ N0 288 = 5 := by decide +kernel
theorem N_289 : 289 < 301 ∧ N0 289 = 5 := by decide +kernel
theorem N_290 : 290 < 301 ∧ N0 290 = 680 := by decide +kernel
theorem N_291 : 291 < 301 ∧ N0 291 = 1 := by decide +kernel
theorem N_292 : 292 < 301 ∧ N0 292 = 6 := by decide +kernel
theorem N_293 : 293 < 301 ∧ N0 293 = 6 := by decide +kernel
theorem N_294 : 294 < 301 ∧ N0 294 = 671 := by decide +kernel
theorem N_295 : 295 < 301 ∧ N0 295 = 25 := by decide +kernel
theorem N_296 : 296 < 301 ∧ N0 296 = 25 := by decide +kernel
theorem N_297 : 297 < 301 ∧ N0 297 = 366 := by decide +kernel
theorem N_298 : 298 < 301 ∧ N0 298 = 42 := by decide +kernel
theorem N_299 : 299 < 301 ∧ N0 299 = 4500 := by decide +kernel
theorem N_300 : 300 < 301 ∧ N0 300 = 4 := by decide +kernel
theorem R_0_0 : (0, 0, 1) ∈ rT := List.mem_of_getElem? (i := 0) rfl
theorem R_0_2 : (0, 2, 2) ∈ rT := List.mem_of_getElem? (i := 1) rfl
theorem R_0_4 : (0, 4, 3) ∈ rT := List.mem_of_getElem? (i := 2) rfl
theorem R_0_5 : (0, 5, 27) ∈ rT := List.mem_of_getElem? (i := 3) rfl
theorem R_0_6 : (0, 6, 28) ∈ rT := List.mem_of_getElem? (i := 4) rfl
theorem R_0_7 : (0, 7, 29) ∈ rT := List.mem_of_getElem? (i := 5) rfl
theorem R_0_8 : (0, 8, 40) ∈ rT := List.mem_of_getElem? (i := 6) rfl
theorem R_0_9 : (0, 9, 46) ∈ rT := List.mem_of_getElem? (i := 7) rfl
theorem R_0_10 : (0, 10, 58) ∈ rT := List.mem_of_getElem? (i := 8) rfl
theorem R_0_11 : (0, 11, 113) ∈ rT := List.mem_of_getElem? (i := 9) rfl
theorem R_2_0 : (2, 0, 126) ∈ rT := List.mem_of_getElem? (i := 10) rfl
theorem R_2_1 : (2, 1, 131) ∈ rT := List.mem_of_getElem? (i := 11) rfl
theorem R_2_2 : (2, 2, 136) ∈ rT := List.mem_of_getElem? (i := 12) rfl
theorem R_2_3 : (2, 3, 141) ∈ rT := List.mem_of_getElem? (i := 13) rfl
theorem R_2_4 : (2, 4, 146) ∈ rT := List.mem_of_getElem? (i := 14) rfl
theorem R_2_5 : (2, 5, 151) ∈ rT := List.mem_of_getElem? (i := 15) rfl
theorem R_3_0 : (3, 0, 4) ∈ rT := List.mem_of_getElem? (i := 16) rfl
theorem R_3_1 : (3, 1, 13) ∈ rT := List.mem_of_getElem? (i := 17) rfl
theorem R_3_2 : (3, 2, 22) ∈ rT := List.mem_of_getElem? (i := 18) rfl
theorem R_3_3 : (3, 3, 24) ∈ rT := List.mem_of_getElem? (i := 19) rfl
theorem R_3_4 : (3, 4, 25) ∈ rT := List.mem_of_getElem? (i := 20) rfl
theorem R_3_5 : (3, 5, 26) ∈ rT := List.mem_of_getElem? (i := 21) rfl
theorem R_4_5 : (4, 5, 5) ∈ rT := List.mem_of_getElem? (i := 22) rfl
theorem R_4_6 : (4, 6, 6) ∈ rT := List.mem_of_getElem? (i := 23) rfl
theorem R_4_7 : (4, 7, 7) ∈ rT := List.mem_of_getElem? (i := 24) rfl
theorem R_4_8 : (4, 8, 8) ∈ rT := List.mem_of_getElem? (i := 25) rfl
theorem R_4_9 : (4, 9, 9) ∈ rT := List.mem_of_getElem? (i := 26) rfl
theorem R_4_10 : (4, 10, 10) ∈ rT := List.mem_of_getElem? (i := 27) rfl
theorem R_4_11 : (4, 11, 11) ∈ rT := List.mem_of_getElem? (i := 28) rfl
theorem R_4_12 : (4, 12, 12) ∈ rT := List.mem_of_getElem? (i := 29) rfl
theorem R_13_5 : (13, 5, 14) ∈ rT := List.mem_of_getElem? (i := 30) rfl
theorem R_13_6 : (13, 6, 15) ∈ rT := List.mem_of_getElem? (i := 31) rfl
theorem R_13_7 : (13, 7, 16) ∈ rT := List.mem_of_getElem? (i := 32) rfl
theorem R_13_8 : (13, 8, 17) ∈ rT := List.mem_of_getElem? (i := 33) rfl
theorem R_13_9 : (13, 9, 18) ∈ rT := List.mem_of_getElem? (i := 34) rfl
theorem R_13_10 : (13, 10, 19) ∈ rT := List.mem_of_getElem? (i := 35) rfl
theorem R_13_11 : (13, 11, 20) ∈ rT := List.mem_of_getElem? (i := 36) rfl
theorem R_13_12 : (13, 12, 21) ∈ rT := List.mem_of_getElem? (i := 37) rfl
theorem R_22_0 : (22, 0, 23) ∈ rT := List.mem_of_getElem? (i := 38) rfl
theorem R_27_0 : (27, 0, 156) ∈ rT := List.mem_of_getElem? (i := 39) rfl
theorem R_27_1 : (27, 1, 180) ∈ rT := List.mem_of_getElem? (i := 40) rfl
theorem R_27_2 : (27, 2, 204) ∈ rT := List.mem_of_getElem? (i := 41) rfl
theorem R_27_3 : (27, 3, 228) ∈ rT := List.mem_of_getElem? (i := 42) rfl
theorem R_29_0 : (29, 0, 30) ∈ rT := List.mem_of_getElem? (i := 43) rfl
theorem R_30_5 : (30, 5, 31) ∈ rT := List.mem_of_getElem? (i := 44) rfl
theorem R_30_6 : (30, 6, 32) ∈ rT := List.mem_of_getElem? (i := 45) rfl
theorem R_30_7 : (30, 7, 33) ∈ rT := List.mem_of_getElem? (i := 46) rfl
theorem R_30_8 : (30, 8, 34) ∈ rT := List.mem_of_getElem? (i := 47) rfl
theorem R_30_9 : (30, 9, 35) ∈ rT := List.mem_of_getElem? (i := 48) rfl
theorem R_30_10 : (30, 10, 36) ∈ rT := List.mem_of_getElem? (i := 49) rfl
theorem R_30_11 : (30, 11, 37) ∈ rT := List.mem_of_getElem? (i := 50) rfl
theorem R_30_12 : (30, 12, 38) ∈ rT := List.mem_of_getElem? (i := 51) rfl
theorem R_40_0 : (40, 0, 41) ∈ rT := List.mem_of_getElem? (i := 52) rfl
theorem R_40_1 : (40, 1, 42) ∈ rT := List.mem_of_getElem? (i := 53) rfl
theorem R_40_2 : (40, 2, 43) ∈ rT := List.mem_of_getElem? (i := 54) rfl
theorem R_40_3 : (40, 3, 44) ∈ rT := List.mem_of_getElem? (i := 55) rfl
theorem R_40_4 : (40, 4, 45) ∈ rT := List.mem_of_getElem? (i := 56) rfl
theorem R_46_0 : (46, 0, 40) ∈ rT := List.mem_of_getElem? (i := 57) rfl
theorem R_46_1 : (46, 1, 47) ∈ rT := List.mem_of_getElem? (i := 58) rfl
theorem R_46_2 : (46, 2, 56) ∈ rT := List.mem_of_getElem? (i := 59) rfl
theorem R_46_3 : (46, 3, 57) ∈ rT := List.mem_of_getElem? (i := 60) rfl
theorem R_47_5 : (47, 5, 48) ∈ rT := List.mem_of_getElem? (i := 61) rfl
theorem R_47_6 : (47, 6, 49) ∈ rT := List.mem_of_getElem? (i := 62) rfl
theorem R_47_7 : (47, 7, 50) ∈ rT := List.mem_of_getElem? (i := 63) rfl
theorem R_47_8 : (47, 8, 51) ∈ rT := List.mem_of_getElem? (i := 64) rfl
theorem R_47_9 : (47, 9, 52) ∈ rT := List.mem_of_getElem? (i := 65) rfl
theorem R_47_10 : (47, 10, 53) ∈ rT := List.mem_of_getElem? (i := 66) rfl
theorem R_47_11 : (47, 11, 54) ∈ rT := List.mem_of_getElem? (i := 67) rfl
theorem R_47_12 : (47, 12, 55) ∈ rT := List.mem_of_getElem? (i := 68) rfl
theorem R_58_0 : (58, 0, 40) ∈ rT := List.mem_of_getElem? (i := 69) rfl
theorem R_58_1 : (58, 1, 59) ∈ rT := List.mem_of_getElem? (i := 70) rfl
theorem R_58_2 : (58, 2, 60) ∈ rT := List.mem_of_getElem? (i := 71) rfl
theorem R_58_3 : (58, 3, 61) ∈ rT := List.mem_of_getElem? (i := 72) rfl
theorem R_58_4 : (58, 4, 62) ∈ rT := List.mem_of_getElem? (i := 73) rfl
theorem R_58_5 : (58, 5, 63) ∈ rT := List.mem_of_getElem? (i := 74) rfl
theorem R_58_6 : (58, 6, 64) ∈ rT := List.mem_of_getElem? (i := 75) rfl
theorem R_58_7 : (58, 7, 65) ∈ rT := List.mem_of_getElem? (i := 76) rfl
theorem R_58_8 : (58, 8, 66) ∈ rT := List.mem_of_getElem? (i := 77) rfl
theorem R_58_9 : (58, 9, 67) ∈ rT := List.mem_of_getElem? (i := 78) rfl
theorem R_59_0 : (59, 0, 68) ∈ rT := List.mem_of_getElem? (i := 79) rfl
theorem R_59_1 : (59, 1, 77) ∈ rT := List.mem_of_getElem? (i := 80) rfl
theorem R_59_2 : (59, 2, 86) ∈ rT := List.mem_of_getElem? (i := 81) rfl
theorem R_59_3 : (59, 3, 95) ∈ rT := List.mem_of_getElem? (i := 82) rfl
theorem R_59_4 : (59, 4, 104) ∈ rT := List.mem_of_getElem? (i := 83) rfl
theorem R_68_5 : (68, 5, 69) ∈ rT := List.mem_of_getElem? (i := 84) rfl
theorem R_68_6 : (68, 6, 70) ∈ rT := List.mem_of_getElem? (i := 85) rfl
theorem R_68_7 : (68, 7, 71) ∈ rT := List.mem_of_getElem? (i := 86) rfl
theorem R_68_8 : (68, 8, 72) ∈ rT := List.mem_of_getElem? (i := 87) rfl
theorem R_68_9 : (68, 9, 73) ∈ rT := List.mem_of_getElem? (i := 88) rfl
theorem R_68_10 : (68, 10, 74) ∈ rT := List.mem_of_getElem? (i := 89) rfl
theorem R_68_11 : (68, 11, 75) ∈ rT := List.mem_of_getElem? (i := 90) rfl
theorem R_68_12 : (68, 12, 76) ∈ rT := List.mem_of_getElem? (i := 91) rfl
theorem R_77_5 : (77, 5, 78) ∈ rT := List.mem_of_getElem? (i := 92) rfl
theorem R_77_6 : (77, 6, 79) ∈ rT := List.mem_of_getElem? (i := 93) rfl
theorem R_77_7 : (77, 7, 80) ∈ rT := List.mem_of_getElem? (i := 94) rfl
theorem R_77_8 : (77, 8, 81) ∈ rT := List.mem_of_getElem? (i := 95) rfl
theorem R_77_9 : (77, 9, 82) ∈ rT := List.mem_of_getElem? (i := 96) rfl
theorem R_77_10 : (77, 10, 83) ∈ rT := List.mem_of_getElem? (i := 97) rfl
theorem R_77_11 : (77, 11, 84) ∈ rT := List.mem_of_getElem? (i := 98) rfl
theorem R_77_12 : (77, 12, 85) ∈ rT := List.mem_of_getElem? (i := 99) rfl
theorem R_86_5 : (86, 5, 87) ∈ rT := List.mem_of_getElem? (i := 100) rfl
theorem R_86_6 : (86, 6, 88) ∈ rT := List.mem_of_getElem? (i := 101) rfl
theorem R_86_7 : (86, 7, 89) ∈ rT := List.mem_of_getElem? (i := 102) rfl
theorem R_86_8 : (86, 8, 90) ∈ rT := List.mem_of_getElem? (i := 103) rfl
theorem R_86_9 : (86, 9, 91) ∈ rT := List.mem_of_getElem? (i := 104) rfl
theorem R_86_10 : (86, 10, 92) ∈ rT := List.mem_of_getElem? (i := 105) rfl
theorem R_86_11 : (86, 11, 93) ∈ rT := List.mem_of_getElem? (i := 106) rfl
theorem R_86_12 : (86, 12, 94) ∈ rT := List.mem_of_getElem? (i := 107) rfl
theorem R_95_5 : (95, 5, 96) ∈ rT := List.mem_of_getElem? (i := 108) rfl
theorem R_95_6 : (95, 6, 97) ∈ rT := List.mem_of_getElem? (i := 109) rfl
theorem R_95_7 : (95, 7, 98) ∈ rT := List.mem_of_getElem? (i := 110) rfl
theorem R_95_8 : (95, 8, 99) ∈ rT := List.mem_of_getElem? (i := 111) rfl
theorem R_95_9 : (95, 9, 100) ∈ rT := List.mem_of_getElem? (i := 112) rfl
theorem R_95_10 : (95, 10, 101) ∈ rT := List.mem_of_getElem? (i := 113) rfl
theorem R_95_11 : (95, 11, 102) ∈ rT := List.mem_of_getElem? (i := 114) rfl
theorem R_95_12 : (95, 12, 103) ∈ rT := List.mem_of_getElem? (i := 115) rfl
theorem R_104_5 : (104, 5, 105) ∈ rT := List.mem_of_getElem? (i := 116) rfl
theorem R_104_6 : (104, 6, 106) ∈ rT := List.mem_of_getElem? (i := 117) rfl
theorem R_104_7 : (104, 7, 107) ∈ rT := List.mem_of_getElem? (i := 118) rfl
theorem R_104_8 : (104, 8, 108) ∈ rT := List.mem_of_getElem? (i := 119) rfl
theorem R_104_9 : (104, 9, 109) ∈ rT := List.mem_of_getElem? (i := 120) rfl
theorem R_104_10 : (104, 10, 110) ∈ rT := List.mem_of_getElem? (i := 121) rfl
theorem R_104_11 : (104, 11, 111) ∈ rT := List.mem_of_getElem? (i := 122) rfl
theorem R_104_12 : (104, 12, 112) ∈ rT := List.mem_of_getElem? (i := 123) rfl
theorem R_113_0 : (113, 0, 40) ∈ rT := List.mem_of_getElem? (i := 124) rfl
theorem R_113_1 : (113, 1, 114) ∈ rT := List.mem_of_getElem? (i := 125) rfl
theorem R_113_2 : (113, 2, 123) ∈ rT := List.mem_of_getElem? (i := 126) rfl
theorem R_113_3 : (113, 3, 124) ∈ rT := List.mem_of_getElem? (i := 127) rfl
theorem R_113_4 : (113, 4, 125) ∈ rT := List.mem_of_getElem? (i := 128) rfl
theorem R_114_5 : (114, 5, 115) ∈ rT := List.mem_of_getElem? (i := 129) rfl
theorem R_114_6 : (114, 6, 116) ∈ rT := List.mem_of_getElem? (i := 130) rfl
theorem R_114_7 : (114, 7, 117) ∈ rT := List.mem_of_getElem? (i := 131) rfl
theorem R_114_8 : (114, 8, 118) ∈ rT := List.mem_of_getElem? (i := 132) rfl
theorem R_114_9 : (114, 9, 119) ∈ rT := List.mem_of_getElem? (i := 133) rfl
theorem R_114_10 : (114, 10, 120) ∈ rT := List.mem_of_getElem? (i := 134) rfl
theorem R_114_11 : (114, 11, 121) ∈ rT := List.mem_of_getElem? (i := 135) rfl
theorem R_114_12 : (114, 12, 122) ∈ rT := List.mem_of_getElem? (i := 136) rfl
theorem R_126_0 : (126, 0, 127) ∈ rT := List.mem_of_getElem? (i := 137) rfl
theorem R_126_1 : (126, 1, 128) ∈ rT := List.mem_of_getElem? (i := 138) rfl
theorem R_126_3 : (126, 3, 129) ∈ rT := List.mem_of_getElem? (i := 139) rfl
theorem R_126_4 : (126, 4, 130) ∈ rT := List.mem_of_getElem? (i := 140) rfl
theorem R_131_0 : (131, 0, 132) ∈ rT := List.mem_of_getElem? (i := 141) rfl
theorem R_131_1 : (131, 1, 133) ∈ rT := List.mem_of_getElem? (i := 142) rfl
theorem R_131_3 : (131, 3, 134) ∈ rT := List.mem_of_getElem? (i := 143) rfl
theorem R_131_4 : (131, 4, 135) ∈ rT := List.mem_of_getElem? (i := 144) rfl
theorem R_136_0 : (136, 0, 137) ∈ rT := List.mem_of_getElem? (i := 145) rfl
theorem R_136_1 : (136, 1, 138) ∈ rT := List.mem_of_getElem? (i := 146) rfl
theorem R_136_3 : (136, 3, 139) ∈ rT := List.mem_of_getElem? (i := 147) rfl
theorem R_136_4 : (136, 4, 140) ∈ rT := List.mem_of_getElem? (i := 148) rfl
theorem R_141_0 : (141, 0, 142) ∈ rT := List.mem_of_getElem? (i := 149) rfl
theorem R_141_1 : (141, 1, 143) ∈ rT := List.mem_of_getElem? (i := 150) rfl
theorem R_141_3 : (141, 3, 144) ∈ rT := List.mem_of_getElem? (i := 151) rfl
theorem R_141_4 : (141, 4, 145) ∈ rT := List.mem_of_getElem? (i := 152) rfl
theorem R_146_0 : (146, 0, 147) ∈ rT := List.mem_of_getElem? (i := 153) rfl
theorem R_146_1 : (146, 1, 148) ∈ rT := List.mem_of_getElem? (i := 154) rfl
theorem R_146_3 : (146, 3, 149) ∈ rT := List.mem_of_getElem? (i := 155) rfl
theorem R_146_4 : (146, 4, 150) ∈ rT := List.mem_of_getElem? (i := 156) rfl
theorem R_151_0 : (151, 0, 152) ∈ rT := List.mem_of_getElem? (i := 157) rfl
theorem R_151_1 : (151, 1, 153) ∈ rT := List.mem_of_getElem? (i := 158) rfl
theorem R_151_3 : (151, 3, 154) ∈ rT := List.mem_of_getElem? (i := 159) rfl
theorem R_151_4 : (151, 4, 155) ∈ rT := List.mem_of_getElem? (i := 160) rfl
theorem R_156_0 : (156, 0, 157) ∈ rT := List.mem_of_getElem? (i := 161) rfl
theorem R_156_1 : (156, 1, 166) ∈ rT := List.mem_of_getElem? (i := 162) rfl
theorem R_156_2 : (156, 2, 175) ∈ rT := List.mem_of_getElem? (i := 163) rfl
theorem R_156_3 : (156, 3, 177) ∈ rT := List.mem_of_getElem? (i := 164) rfl
theorem R_156_4 : (156, 4, 178) ∈ rT := List.mem_of_getElem? (i := 165) rfl
theorem R_156_5 : (156, 5, 179) ∈ rT := List.mem_of_getElem? (i := 166) rfl
theorem R_157_5 : (157, 5, 158) ∈ rT := List.mem_of_getElem? (i := 167) rfl
theorem R_157_6 : (157, 6, 159) ∈ rT := List.mem_of_getElem? (i := 168) rfl
theorem R_157_7 : (157, 7, 160) ∈ rT := List.mem_of_getElem? (i := 169) rfl
theorem R_157_8 : (157, 8, 161) ∈ rT := List.mem_of_getElem? (i := 170) rfl
theorem R_157_9 : (157, 9, 162) ∈ rT := List.mem_of_getElem? (i := 171) rfl
theorem R_157_10 : (157, 10, 163) ∈ rT := List.mem_of_getElem? (i := 172) rfl
theorem R_157_11 : (157, 11, 164) ∈ rT := List.mem_of_getElem? (i := 173) rfl
theorem R_157_12 : (157, 12, 165) ∈ rT := List.mem_of_getElem? (i := 174) rfl
theorem R_166_5 : (166, 5, 167) ∈ rT := List.mem_of_getElem? (i := 175) rfl
theorem R_166_6 : (166, 6, 168) ∈ rT := List.mem_of_getElem? (i := 176) rfl
theorem R_166_7 : (166, 7, 169) ∈ rT := List.mem_of_getElem? (i := 177) rfl
theorem R_166_8 : (166, 8, 170) ∈ rT := List.mem_of_getElem? (i := 178) rfl
theorem R_166_9 : (166, 9, 171) ∈ rT := List.mem_of_getElem? (i := 179) rfl
theorem R_166_10 : (166, 10, 172) ∈ rT := List.mem_of_getElem? (i := 180) rfl
theorem R_166_11 : (166, 11, 173) ∈ rT := List.mem_of_getElem? (i := 181) rfl
theorem R_166_12 : (166, 12, 174) ∈ rT := List.mem_of_getElem? (i := 182) rfl
theorem R_175_0 : (175, 0, 176) ∈ rT := List.mem_of_getElem? (i := 183) rfl
theorem R_180_0 : (180, 0, 181) ∈ rT := List.mem_of_getElem? (i := 184) rfl
theorem R_180_1 : (180, 1, 190) ∈ rT := List.mem_of_getElem? (i := 185) rfl
theorem R_180_2 : (180, 2, 199) ∈ rT := List.mem_of_getElem? (i := 186) rfl
theorem R_180_3 : (180, 3, 201) ∈ rT := List.mem_of_getElem? (i := 187) rfl
theorem R_180_4 : (180, 4, 202) ∈ rT := List.mem_of_getElem? (i := 188) rfl
theorem R_180_5 : (180, 5, 203) ∈ rT := List.mem_of_getElem? (i := 189) rfl
theorem R_181_5 : (181, 5, 182) ∈ rT := List.mem_of_getElem? (i := 190) rfl
theorem R_181_6 : (181, 6, 183) ∈ rT := List.mem_of_getElem? (i := 191) rfl
theorem R_181_7 : (181, 7, 184) ∈ rT := List.mem_of_getElem? (i := 192) rfl
theorem R_181_8 : (181, 8, 185) ∈ rT := List.mem_of_getElem? (i := 193) rfl
theorem R_181_9 : (181, 9, 186) ∈ rT := List.mem_of_getElem? (i := 194) rfl
theorem R_181_10 : (181, 10, 187) ∈ rT := List.mem_of_getElem? (i := 195) rfl
theorem R_181_11 : (181, 11, 188) ∈ rT := List.mem_of_getElem? (i := 196) rfl
theorem R_181_12 : (181, 12, 189) ∈ rT := List.mem_of_getElem? (i := 197) rfl
theorem R_190_5 : (190, 5, 191) ∈ rT := List.mem_of_getElem? (i := 198) rfl
theorem R_190_6 : (190, 6, 192) ∈ rT := List.mem_of_getElem? (i := 199) rfl
theorem R_190_7 : (190, 7, 193) ∈ rT := List.mem_of_getElem? (i := 200) rfl
theorem R_190_8 : (190, 8, 194) ∈ rT := List.mem_of_getElem? (i := 201) rfl
theorem R_190_9 : (190, 9, 195) ∈ rT := List.mem_of_getElem? (i := 202) rfl
theorem R_190_10 : (190, 10, 196) ∈ rT := List.mem_of_getElem? (i := 203) rfl
theorem R_190_11 : (190, 11, 197) ∈ rT := List.mem_of_getElem? (i := 204) rfl
theorem R_190_12 : (190, 12, 198) ∈ rT := List.mem_of_getElem? (i := 205) rfl
theorem R_199_0 : (199, 0, 200) ∈ rT := List.mem_of_getElem? (i := 206) rfl
theorem R_204_0 : (204, 0, 205) ∈ rT := List.mem_of_getElem? (i := 207) rfl
theorem R_204_1 : (204, 1, 214) ∈ rT := List.mem_of_getElem? (i := 208) rfl
theorem R_204_2 : (204, 2, 223) ∈ rT := List.mem_of_getElem? (i := 209) rfl
theorem R_204_3 : (204, 3, 225) ∈ rT := List.mem_of_getElem? (i := 210) rfl
theorem R_204_4 : (204, 4, 226) ∈ rT := List.mem_of_getElem? (i := 211) rfl
theorem R_204_5 : (204, 5, 227) ∈ rT := List.mem_of_getElem? (i := 212) rfl
theorem R_205_5 : (205, 5, 206) ∈ rT := List.mem_of_getElem? (i := 213) rfl
theorem R_205_6 : (205, 6, 207) ∈ rT := List.mem_of_getElem? (i := 214) rfl
theorem R_205_7 : (205, 7, 208) ∈ rT := List.mem_of_getElem? (i := 215) rfl
theorem R_205_8 : (205, 8, 209) ∈ rT := List.mem_of_getElem? (i := 216) rfl
theorem R_205_9 : (205, 9, 210) ∈ rT := List.mem_of_getElem? (i := 217) rfl
theorem R_205_10 : (205, 10, 211) ∈ rT := List.mem_of_getElem? (i := 218) rfl
theorem R_205_11 : (205, 11, 212) ∈ rT := List.mem_of_getElem? (i := 219) rfl
theorem R_205_12 : (205, 12, 213) ∈ rT := List.mem_of_getElem? (i := 220) rfl
theorem R_214_5 : (214, 5, 215) ∈ rT := List.mem_of_getElem? (i := 221) rfl
theorem R_214_6 : (214, 6, 216) ∈ rT := List.mem_of_getElem? (i := 222) rfl
theorem R_214_7 : (214, 7, 217) ∈ rT := List.mem_of_getElem? (i := 223) rfl
theorem R_214_8 : (214, 8, 218) ∈ rT := List.mem_of_getElem? (i := 224) rfl
theorem R_214_9 : (214, 9, 219) ∈ rT := List.mem_of_getElem? (i := 225) rfl
theorem R_214_10 : (214, 10, 220) ∈ rT := List.mem_of_getElem? (i := 226) rfl
theorem R_214_11 : (214, 11, 221) ∈ rT := List.mem_of_getElem? (i := 227) rfl
theorem R_214_12 : (214, 12, 222) ∈ rT := List.mem_of_getElem? (i := 228) rfl
theorem R_223_0 : (223, 0, 224) ∈ rT := List.mem_of_getElem? (i := 229) rfl
theorem R_228_0 : (228, 0, 229) ∈ rT := List.mem_of_getElem? (i := 230) rfl
theorem R_228_1 : (228, 1, 238) ∈ rT := List.mem_of_getElem? (i := 231) rfl
theorem R_228_2 : (228, 2, 247) ∈ rT := List.mem_of_getElem? (i := 232) rfl
theorem R_228_3 : (228, 3, 249) ∈ rT := List.mem_of_getElem? (i := 233) rfl
theorem R_228_4 : (228, 4, 250) ∈ rT := List.mem_of_getElem? (i := 234) rfl
theorem R_228_5 : (228, 5, 251) ∈ rT := List.mem_of_getElem? (i := 235) rfl
theorem R_229_5 : (229, 5, 230) ∈ rT := List.mem_of_getElem? (i := 236) rfl
theorem R_229_6 : (229, 6, 231) ∈ rT := List.mem_of_getElem? (i := 237) rfl
theorem R_229_7 : (229, 7, 232) ∈ rT := List.mem_of_getElem? (i := 238) rfl
theorem R_229_8 : (229, 8, 233) ∈ rT := List.mem_of_getElem? (i := 239) rfl
theorem R_229_9 : (229, 9, 234) ∈ rT := List.mem_of_getElem? (i := 240) rfl
theorem R_229_10 : (229, 10, 235) ∈ rT := List.mem_of_getElem? (i := 241) rfl
theorem R_229_11 : (229, 11, 236) ∈ rT := List.mem_of_getElem? (i := 242) rfl
theorem R_229_12 : (229, 12, 237) ∈ rT := List.mem_of_getElem? (i := 243) rfl
theorem R_238_5 : (238, 5, 239) ∈ rT := List.mem_of_getElem? (i := 244) rfl
theorem R_238_6 : (238, 6, 240) ∈ rT := List.mem_of_getElem? (i := 245) rfl
theorem R_238_7 : (238, 7, 241) ∈ rT := List.mem_of_getElem? (i := 246) rfl
theorem R_238_8 : (238, 8, 242) ∈ rT := List.mem_of_getElem? (i := 247) rfl
theorem R_238_9 : (238, 9, 243) ∈ rT := List.mem_of_getElem? (i := 248) rfl
theorem R_238_10 : (238, 10, 244) ∈ rT := List.mem_of_getElem? (i := 249) rfl
theorem R_238_11 : (238, 11, 245) ∈ rT := List.mem_of_getElem? (i := 250) rfl
theorem R_238_12 : (238, 12, 246) ∈ rT := List.mem_of_getElem? (i := 251) rfl
theorem R_247_0 : (247, 0, 248) ∈ rT := List.mem_of_getElem? (i := 252) rfl
theorem R_252_1 : (252, 1, 253) ∈ rT := List.mem_of_getElem? (i := 253) rfl
theorem R_252_2 : (252, 2, 254) ∈ rT := List.mem_of_getElem? (i := 254) rfl
theorem R_252_3 : (252, 3, 255) ∈ rT := List.mem_of_getElem? (i := 255) rfl
theorem R_252_4 : (252, 4, 256) ∈ rT := List.mem_of_getElem? (i := 256) rfl
theorem R_252_5 : (252, 5, 257) ∈ rT := List.mem_of_getElem? (i := 257) rfl
theorem R_252_6 : (252, 6, 258) ∈ rT := List.mem_of_getElem? (i := 258) rfl
theorem R_252_7 : (252, 7, 259) ∈ rT := List.mem_of_getElem? (i := 259) rfl
theorem R_252_8 : (252, 8, 260) ∈ rT := List.mem_of_getElem? (i := 260) rfl
theorem R_252_9 : (252, 9, 261) ∈ rT := List.mem_of_getElem? (i := 261) rfl
theorem R_252_10 : (252, 10, 262) ∈ rT := List.mem_of_getElem? (i := 262) rfl
theorem R_252_11 : (252, 11, 263) ∈ rT := List.mem_of_getElem? (i := 263) rfl
theorem R_252_12 : (252, 12, 264) ∈ rT := List.mem_of_getElem? (i := 264) rfl
theorem R_252_13 : (252, 13, 265) ∈ rT := List.mem_of_getElem? (i := 265) rfl
theorem R_252_14 : (252, 14, 266) ∈ rT := List.mem_of_getElem? (i := 266) rfl
theorem R_252_15 : (252, 15, 267) ∈ rT := List.mem_of_getElem? (i := 267) rfl
theorem R_252_16 : (252, 16, 268) ∈ rT := List.mem_of_getElem? (i := 268) rfl
theorem R_252_17 : (252, 17, 269) ∈ rT := List.mem_of_getElem? (i := 269) rfl
theorem R_252_18 : (252, 18, 270) ∈ rT := List.mem_of_getElem? (i := 270) rfl
theorem R_252_19 : (252, 19, 271) ∈ rT := List.mem_of_getElem? (i := 271) rfl
theorem R_252_20 : (252, 20, 272) ∈ rT := List.mem_of_getElem? (i := 272) rfl
theorem R_252_21 : (252, 21, 273) ∈ rT := List.mem_of_getElem? (i := 273) rfl
theorem R_252_22 : (252, 22, 274) ∈ rT := List.mem_of_getElem? (i := 274) rfl
theorem R_252_23 : (252, 23, 275) ∈ rT := List.mem_of_getElem? (i := 275) rfl
theorem R_252_34 : (252, 34, 276) ∈ rT := List.mem_of_getElem? (i := 276) rfl
theorem R_252_35 : (252, 35, 277) ∈ rT := List.mem_of_getElem? (i := 277) rfl
theorem R_252_36 : (252, 36, 278) ∈ rT := List.mem_of_getElem? (i := 278) rfl
theorem R_252_37 : (252, 37, 279) ∈ rT := List.mem_of_getElem? (i := 279) rfl
theorem R_252_38 : (252, 38, 280) ∈ rT := List.mem_of_getElem? (i := 280) rfl
theorem R_252_39 : (252, 39, 281) ∈ rT := List.mem_of_getElem? (i := 281) rfl
theorem R_252_40 : (252, 40, 282) ∈ rT := List.mem_of_getElem? (i := 282) rfl
theorem R_252_41 : (252, 41, 283) ∈ rT := List.mem_of_getElem? (i := 283) rfl
theorem R_252_42 : (252, 42, 284) ∈ rT := List.mem_of_getElem? (i := 284) rfl
theorem R_252_43 : (252, 43, 285) ∈ rT := List.mem_of_getElem? (i := 285) rfl
theorem R_252_44 : (252, 44, 286) ∈ rT := List.mem_of_getElem? (i := 286) rfl
theorem R_252_45 : (252, 45, 287) ∈ rT := List.mem_of_getElem? (i := 287) rfl
theorem R_252_46 : (252, 46, 288) ∈ rT := List.mem_of_getElem? (i := 288) rfl
theorem R_252_47 : (252, 47, 289) ∈ rT := List.mem_of_getElem? (i := 289) rfl
theorem R_252_49 : (252, 49, 290) ∈ rT := List.mem_of_getElem? (i := 290) rfl
theorem R_252_50 : (252, 50, 291) ∈ rT := List.mem_of_getElem? (i := 291) rfl
theorem R_252_54 : (252, 54, 292) ∈ rT := List.mem_of_getElem? (i := 292) rfl
theorem R_252_55 : (252, 55, 293) ∈ rT := List.mem_of_getElem? (i := 293) rfl
theorem R_252_56 : (252, 56, 294) ∈ rT := List.mem_of_getElem? (i := 294) rfl
theorem R_252_57 : (252, 57, 295) ∈ rT := List.mem_of_getElem? (i := 295) rfl
theorem R_252_58 : (252, 58, 296) ∈ rT := List.mem_of_getElem? (i := 296) rfl
theorem R_252_59 : (252, 59, 297) ∈ rT := List.mem_of_getElem? (i := 297) rfl
theorem R_252_60 : (252, 60, 298) ∈ rT := List.mem_of_getElem? (i := 298) rfl
theorem R_252_61 : (252, 61, 299) ∈ rT := List.mem_of_getElem? (i := 299) rfl
theorem R_252_62 : (252, 62, 300) ∈ rT := List.mem_of_getElem? (i := 300) rfl
