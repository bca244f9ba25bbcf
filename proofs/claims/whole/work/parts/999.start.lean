/-! what the first state gives -/
def wN : Cond := Jvm.Cond.and given_1 narrow_1
def tmS (i : Nat) : Term := Term.string (stO.getD i "") (stK.getD i 0)
def pE : List Nat := [9, 29, 112, 134, 122, 38, 178, 164, 212, 231, 250, 271, 294, 317, 341, 365, 390, 416, 470, 498, 527, 150, 196, 444]
def pC : List Nat := [10, 30, 113, 135, 123, 39, 179, 165, 213, 232, 251, 272, 295, 318, 342, 366, 391, 417, 471, 499, 528, 151, 197, 445]
def pA : List Nat := [11, 31, 114, 136, 124, 40, 180, 166, 214, 233, 252, 273, 296, 319, 343, 367, 392, 418, 472, 500, 529, 152, 198, 446]
def pL : List Nat := [12, 32, 115, 137, 125, 41, 181, 167, 215, 234, 253, 274, 297, 320, 344, 368, 393, 419, 473, 501, 530, 153, 199, 447]
def pX : List (List Nat) := [[13, 14, 15, 16, 17, 18, 19, 20, 21, 22, 23, 24, 25, 26, 27, 28], [33, 34, 35, 36], [116, 117, 118], [138, 139, 140, 141, 142, 143, 144], [126, 127, 128, 129], [42, 43, 44, 45, 46, 47, 48, 49, 50, 51, 52, 53, 54, 55, 56, 57, 58, 59, 60, 61, 62, 63, 64, 65, 66, 67, 68, 69, 70, 71, 72, 73, 74, 75, 76, 77, 78, 79, 80, 81, 82, 83, 84, 85, 86, 87, 88, 89, 90, 91, 92, 93, 94, 95, 96, 97, 98, 99, 100, 101, 102, 103, 104, 105, 106, 107, 108, 109], [182, 183, 184, 185, 186, 187], [168, 169, 170], [216, 217, 218, 219, 220], [235, 236, 237, 238], [254, 255, 256, 257, 258], [275, 276, 277, 278, 279, 280], [298, 299, 300, 301, 302], [321, 322, 323, 324, 325], [345, 346, 347, 348], [369, 370, 371, 372], [394, 395, 396, 397], [420, 421, 422, 423, 424], [474, 475, 476], [502, 503, 504], [531, 532], [154, 155, 156, 157], [200, 201, 202], [448, 449]]
def pN : List (List Nat) := [[0, 37, 119, 145, 130, 110, 188, 171, 221, 239, 259, 281, 303, 326, 349, 373, 398, 425, 477, 505, 533, 158, 203, 450], [37, 0, 120, 146, 131, 111, 189, 172, 222, 240, 260, 282, 304, 327, 350, 374, 399, 426, 478, 506, 534, 159, 204, 451], [119, 120, 0, 148, 133, 121, 191, 174, 224, 242, 262, 284, 306, 329, 352, 376, 401, 428, 480, 508, 536, 161, 206, 453], [145, 146, 148, 0, 149, 147, 193, 176, 226, 244, 264, 286, 308, 331, 354, 378, 403, 430, 482, 510, 538, 163, 208, 455], [130, 131, 133, 149, 0, 132, 192, 175, 225, 243, 263, 285, 307, 330, 353, 377, 402, 429, 481, 509, 537, 162, 207, 454], [110, 111, 121, 147, 132, 0, 190, 173, 223, 241, 261, 283, 305, 328, 351, 375, 400, 427, 479, 507, 535, 160, 205, 452], [188, 189, 191, 193, 192, 190, 0, 195, 229, 247, 267, 289, 311, 334, 357, 381, 406, 433, 485, 513, 541, 194, 211, 458], [171, 172, 174, 176, 175, 173, 195, 0, 228, 246, 266, 288, 310, 333, 356, 380, 405, 432, 484, 512, 540, 177, 210, 457], [221, 222, 224, 226, 225, 223, 229, 228, 0, 249, 269, 291, 313, 336, 359, 383, 408, 435, 487, 515, 543, 227, 230, 460], [239, 240, 242, 244, 243, 241, 247, 246, 249, 0, 270, 292, 314, 337, 360, 384, 409, 436, 488, 516, 544, 245, 248, 461], [259, 260, 262, 264, 263, 261, 267, 266, 269, 270, 0, 293, 315, 338, 361, 385, 410, 437, 489, 517, 545, 265, 268, 462], [281, 282, 284, 286, 285, 283, 289, 288, 291, 292, 293, 0, 316, 339, 362, 386, 411, 438, 490, 518, 546, 287, 290, 463], [303, 304, 306, 308, 307, 305, 311, 310, 313, 314, 315, 316, 0, 340, 363, 387, 412, 439, 491, 519, 547, 309, 312, 464], [326, 327, 329, 331, 330, 328, 334, 333, 336, 337, 338, 339, 340, 0, 364, 388, 413, 440, 492, 520, 548, 332, 335, 465], [349, 350, 352, 354, 353, 351, 357, 356, 359, 360, 361, 362, 363, 364, 0, 389, 414, 441, 493, 521, 549, 355, 358, 466], [373, 374, 376, 378, 377, 375, 381, 380, 383, 384, 385, 386, 387, 388, 389, 0, 415, 442, 494, 522, 550, 379, 382, 467], [398, 399, 401, 403, 402, 400, 406, 405, 408, 409, 410, 411, 412, 413, 414, 415, 0, 443, 495, 523, 551, 404, 407, 468], [425, 426, 428, 430, 429, 427, 433, 432, 435, 436, 437, 438, 439, 440, 441, 442, 443, 0, 496, 524, 552, 431, 434, 469], [477, 478, 480, 482, 481, 479, 485, 484, 487, 488, 489, 490, 491, 492, 493, 494, 495, 496, 0, 526, 554, 483, 486, 497], [505, 506, 508, 510, 509, 507, 513, 512, 515, 516, 517, 518, 519, 520, 521, 522, 523, 524, 526, 0, 555, 511, 514, 525], [533, 534, 536, 538, 537, 535, 541, 540, 543, 544, 545, 546, 547, 548, 549, 550, 551, 552, 554, 555, 0, 539, 542, 553], [158, 159, 161, 163, 162, 160, 194, 177, 227, 245, 265, 287, 309, 332, 355, 379, 404, 431, 483, 511, 539, 0, 209, 456], [203, 204, 206, 208, 207, 205, 211, 210, 230, 248, 268, 290, 312, 335, 358, 382, 407, 434, 486, 514, 542, 209, 0, 459], [450, 451, 453, 455, 454, 452, 458, 457, 460, 461, 462, 463, 464, 465, 466, 467, 468, 469, 497, 525, 553, 456, 459, 0]]
theorem sx_e : ∀ i, i < 24 → (flatC wN)[pE.getD i 0]? = some (Cond.exactly (tmS i) "java/lang/String") := by decide +kernel
theorem sx_c : ∀ i, i < 24 → (flatC wN)[pC.getD i 0]? = some (Cond.eq (.field (tmS i) "java/lang/String" "coder" "B") (.int 0)) := by decide +kernel
theorem sx_a : ∀ i, i < 24 → (flatC wN)[pA.getD i 0]? = some (Cond.arrayOf (.field (tmS i) "java/lang/String" "value" "[B") .byte) := by decide +kernel
theorem sx_l : ∀ i, i < 24 → (flatC wN)[pL.getD i 0]? = some (Cond.eq (.length (.field (tmS i) "java/lang/String" "value" "[B")) (.int (Int32.ofNat (stLen.getD i 0)))) := by decide +kernel
theorem sx_x : ∀ i, i < 24 → ∀ j, j < stLen.getD i 0 → (flatC wN)[(pX.getD i []).getD j 0]? = some (Cond.eq (.elem (.field (tmS i) "java/lang/String" "value" "[B") (.int (Int32.ofNat j))) (.int ((stByt.getD i []).getD j 0))) := by decide +kernel
theorem sx_n : ∀ i, i < 24 → ∀ j, j < 24 → i ≠ j → ((flatC wN)[(pN.getD i []).getD j 0]? = some (Cond.not (Cond.eq (tmS i) (tmS j))) ∨ (flatC wN)[(pN.getD i []).getD j 0]? = some (Cond.not (Cond.eq (tmS j) (tmS i)))) := by decide +kernel
theorem sx_r : ∀ i, i < 24 → Cond.stringRef (stO.getD i "") (stK.getD i 0) (stX.getD i "") ∈ lw_tbl := by decide +kernel
theorem sx_nest : ∀ w ∈ lw_nest, w ∈ lw_tbl ∧ w.onTables = true := by decide +kernel
theorem sx_o8 : Cond.arrayOver (.object RX8) ∈ lw_tbl := by decide +kernel
theorem sx_o7 : Cond.arrayOver (.object RX7) ∈ lw_tbl := by decide +kernel
theorem sx_o3 : Cond.arrayOver (.object RX3) ∈ lw_tbl := by decide +kernel
theorem sx_s1 : Cond.laysStatic "java/lang/String" "COMPACT_STRINGS" "Z" ∈ lw_tbl ∧ Cond.initialized "java/lang/String" ∈ lw_tbl := by decide +kernel
theorem sx_s2 : Cond.laysStatic "jdk/internal/util/Preconditions" "SIOOBE_FORMATTER" "Ljava/util/function/BiFunction;" ∈ lw_tbl ∧ Cond.initialized "jdk/internal/util/Preconditions" ∈ lw_tbl := by decide +kernel
theorem sx_s3 : Cond.eq (.static "java/lang/String" "COMPACT_STRINGS" "Z") (.int 1) ∈ flatC wN := by decide +kernel
theorem sx_s4 : Cond.isRef (.static "jdk/internal/util/Preconditions" "SIOOBE_FORMATTER" "Ljava/util/function/BiFunction;") ∈ flatC wN := by decide +kernel
theorem good_tbl {w : Cond} (h : w ∈ lw_good) : w ∈ lw_tbl := (List.mem_filter.mp h).1
/-- the classes -/
theorem st_cls {args : Array Value} {s : State} (hts : ∀ w ∈ lw_tbl, w.before args s = true) : ∃ D : va_G, ∀ (c : Nat) (q : vw_C), vwCl[c]? = some q → u_Kn s q.1 q.2.1 q.2.2 (D.1 c) (D.2 c) := by
  have hi : ∀ c, c < 11 → Cond.instantiable (cC c) (cN c) ∈ lw_good := by
    intro c hc
    rcases (show c = 0 ∨ c = 1 ∨ c = 2 ∨ c = 3 ∨ c = 4 ∨ c = 5 ∨ c = 6 ∨ c = 7 ∨ c = 8 ∨ c = 9 ∨ c = 10 by omega) with rfl | rfl | rfl | rfl | rfl | rfl | rfl | rfl | rfl | rfl | rfl
    · exact itX0
    · exact itX1
    · exact itX2
    · exact itX3
    · exact itX4
    · exact itX5
    · exact itX6
    · exact itX7
    · exact itX8
    · exact itX9
    · exact itX10
  have h0 : ∀ c : Nat, ∃ q : ClassId × (Nat → Nat), c < 11 → u_Kn s (cC c) (cT c) (cN c) q.1 q.2 := by
    intro c
    by_cases hc : c < 11
    · obtain ⟨a, i, k⟩ := u_known hts (ck_in hc) (hts _ (good_tbl (hi c hc)))
      exact ⟨(a, i), fun _ => k⟩
    · exact ⟨(0, fun _ => 0), fun h => absurd h hc⟩
  obtain ⟨f, hf⟩ := Classical.axiomOfChoice h0
  refine ⟨(fun c => (f c).1, fun c => (f c).2), fun c q hq => ?_⟩
  have hc : c < 11 := (List.getElem?_eq_some_iff.mp hq).1
  have e := ck_cl hc
  rw [hq] at e
  have e := Option.some.inj e
  subst e
  exact hf c hc
theorem st_prim {args : Array Value} {s : State} {t : FieldType} (h : (Cond.arrayClass t).before args s = true) : ∃ c, ArrOfT s c t ∧ s.vm.findClass ("[" ++ t.toString) = some c := by
  obtain ⟨c, k, comp, h1, h2, h3⟩ := Cond.arrayClass_spec h
  exact ⟨c, fun n z => ⟨fun k h => (by cases h), k, h2, comp, h3⟩, h1⟩
theorem st_obj {args : Array Value} {s : State} {C : String} (h : (Cond.arrayOver (.object C)).before args s = true) : ∃ c, ArrOfT s c (.object C) ∧ va_RA s c (.object C) := by
  obtain ⟨comp, c, k, h1, h2, h3, h4, h5⟩ := Cond.arrayOver_spec h
  exact ⟨c, fun n z => ⟨fun k h => (by cases h), k, h3, comp, h4⟩, k, comp, h3, h4, h1, h5⟩
/-- a state as the law's first has all that is fixed -/
theorem st_GS {s : State} {b N : Nat} {xs : Nat → Int32} (l : Launch) (hts : ∀ w ∈ lw_tbl, w.before #[Value.ref b] s = true) (hX : va_X b N xs s s.heap) (hbl : b < s.heap.size) (hgv : wN.before #[Value.ref b] s = true) :
    ∃ g : GT, gl g = l ∧ gz g = s.heap.size ∧ gS g 99 = b ∧ GS g s ∧ XG g N xs := by
  have hs := flat_of_before _ hgv
  have hA : ∀ a : Nat, a < s.heap.size → ¬ (fun q : Nat => s.heap.size ≤ q) a := fun a h => Nat.not_le.mpr h
  have ps : ∀ {k : Nat} {w : Cond}, (flatC wN)[k]? = some w → w.before #[Value.ref b] s = true := fun e => hs _ (List.mem_of_getElem? e)
  obtain ⟨D, hD⟩ := st_cls hts
  obtain ⟨a21, p21, q21⟩ := st_prim (hts _ (good_tbl ac_int))
  obtain ⟨a22, p22, q22⟩ := st_prim (hts _ (good_tbl ac_byte))
  obtain ⟨a23, p23, q23⟩ := st_prim (hts _ (good_tbl ac_boolean))
  obtain ⟨a24, p24, q24⟩ := st_prim (hts _ (good_tbl ac_long))
  obtain ⟨a25, p25, q25⟩ := st_obj (hts _ sx_o8)
  obtain ⟨a26, p26, q26⟩ := st_obj (hts _ sx_o7)
  obtain ⟨a27, p27, q27⟩ := st_obj (hts _ sx_o3)
  obtain ⟨adK, adV, hS, hE⟩ := vk_Sof (args := #[Value.ref b]) (s := s) (N := 24) (tm := tmS) (len := stLen) (byt := stByt) (A := fun q : Nat => s.heap.size ≤ q) (by decide) (fun i hi => ps (sx_e i hi)) (fun i hi => ps (sx_c i hi)) (fun i hi => ps (sx_a i hi)) (fun i hi => ps (sx_l i hi)) (fun i hi j hj => ps (sx_x i hi j hj)) (fun i j hi hj hij => (sx_n i hi j hj hij).imp ps ps) hA
  have z1 := va_Zof (args := #[Value.ref b]) (A := fun q : Nat => s.heap.size ≤ q) (hts _ sx_s1.1) (hts _ sx_s1.2) (va_eqt (hs _ sx_s3)) hA
  obtain ⟨f, z2⟩ : ∃ f : Nat, va_Z "jdk/internal/util/Preconditions" "SIOOBE_FORMATTER" "Ljava/util/function/BiFunction;" (.ref f) (fun q : Nat => s.heap.size ≤ q) s s.heap ∨ va_Z "jdk/internal/util/Preconditions" "SIOOBE_FORMATTER" "Ljava/util/function/BiFunction;" .null (fun q : Nat => s.heap.size ≤ q) s s.heap := by
    have h := hs _ sx_s4
    cases hv : (Term.static "jdk/internal/util/Preconditions" "SIOOBE_FORMATTER" "Ljava/util/function/BiFunction;").eval #[Value.ref b] s none [] s with
    | none => simp [Cond.before, Cond.holds, Cond.value, hv] at h
    | some w =>
      simp only [Cond.before, Cond.holds, Cond.value, hv] at h
      cases w with
      | null => exact ⟨0, Or.inr (va_Zof (hts _ sx_s2.1) (hts _ sx_s2.2) hv hA)⟩
      | ref t => exact ⟨t, Or.inl (va_Zof (hts _ sx_s2.1) (hts _ sx_s2.2) hv hA)⟩
      | _ => simp at h
  obtain ⟨gs, g1, g2, g3, g4⟩ : ∃ gs : Nat → Nat, (∀ i, i < 24 → gs i = adK i) ∧ (∀ i, i < 24 → gs (100 + i) = adV i) ∧ gs 99 = b ∧ gs 200 = f := by
    refine ⟨fun k => if k < 24 then adK k else if k = 99 then b else if k = 200 then f else adV (k - 100), fun i hi => if_pos hi, fun i hi => ?_, rfl, rfl⟩
    show (if 100 + i < 24 then _ else if 100 + i = 99 then _ else if 100 + i = 200 then _ else adV (100 + i - 100)) = _
    rw [if_neg (by omega), if_neg (by omega), if_neg (by omega), Nat.add_sub_cancel_left]
  obtain ⟨ga, r21, r22, r23, r24, r25, r26, r27⟩ : ∃ ga : Nat → ClassId, ga 21 = a21 ∧ ga 22 = a22 ∧ ga 23 = a23 ∧ ga 24 = a24 ∧ ga 25 = a25 ∧ ga 26 = a26 ∧ ga 27 = a27 := ⟨fun k => if k = 21 then a21 else if k = 22 then a22 else if k = 23 then a23 else if k = 24 then a24 else if k = 25 then a25 else if k = 26 then a26 else a27, rfl, rfl, rfl, rfl, rfl, rfl, rfl⟩
  subst r21 r22 r23 r24 r25 r26 r27 g4
  obtain ⟨scr, x1, x2, x3, x4, x5⟩ := hX
  refine ⟨(l, D, ga, s.heap.size, gs, (fun _ => 0), s.heap), rfl, rfl, g3, ⟨⟨hD, fun k q hq => ?_⟩, fun w hw => va_Nw.of (sx_nest w hw).2 (hts w (sx_nest w hw).1), ⟨va_AO.of (hts _ sx_o8), va_AO.of (hts _ sx_o7), va_AO.of (hts _ sx_o3)⟩, fun i hi => ?_, ⟨fun i hi => ?_, fun i j hi hj e => ?_⟩, ⟨z1, z2⟩, ⟨rfl, fun c hc => ?_⟩, fun _ _ => rfl⟩, ⟨?_, scr, ?_, x3, x4, x5⟩⟩
  · match k, hq with
    | 0, hq => cases hq; exact ⟨p21, q21⟩
    | 1, hq => cases hq; exact ⟨p22, q22⟩
    | 2, hq => cases hq; exact ⟨p23, q23⟩
    | 3, hq => cases hq; exact ⟨p24, q24⟩
    | 4, hq => cases hq; exact ⟨p25, q25⟩
    | 5, hq => cases hq; exact ⟨p26, q26⟩
    | 6, hq => cases hq; exact ⟨p27, q27⟩
    | k + 7, hq => simp [gtys] at hq
  · refine vk_R.of (hts _ (sx_r i hi)) ?_
    show (tmS i).eval #[Value.ref b] s none [] s = some (.ref (gs i))
    rw [g1 i hi]
    exact hE i hi
  · show va_O _ (gs i) _ _ _ ∧ va_OF _ _ _ _ (gs i) _ _ _ ∧ va_OF _ _ _ (.ref (gs (100 + i))) (gs i) _ _ _ ∧ va_T _ (gs (100 + i)) _ _ _ _ _
    rw [g1 i hi, g2 i hi]
    exact hS.1 i hi
  · have e : gs i = gs j := e
    rw [g1 i hi, g1 j hj] at e
    exact hS.2 i j hi hj e
  · have hc : s.heap[gs 99]? = some c := hc
    rw [g3, x1] at hc
    cases hc
    exact x2
  · show gs 99 < s.heap.size
    rw [g3]
    exact hbl
  · show s.heap[gs 99]? = some scr
    rw [g3]
    exact x1
