/-! each case of the law: both calls, one answer -/
theorem nI_c (i c : Nat) : nI i + nI c = nI (i + c) := (Int32.ofNat_add i c).symm
theorem vpc {i c N : Nat} {x : Int32} (ex : x = nI c) (h : i + c < N) (hN : N ≤ 3072) : vp_in (nI i + x) N := by
  subst ex
  rw [nI_c]
  exact vp_in_nI h (by omega)
theorem case_176 {g : GT} {d : Nat} {Q : Option Value → HP → Prop} {N i : Nat} {xs : Nat → Int32} (hX : XG g N xs) (hN : N ≤ 3072) (hi : i + 6 ≤ N) {h : HP} {G : G4} (S : StG h G) (ih : ∀ h2 G', StG h2 G' → Sat g mL_law (d + 40 + 1) (0, 0) Q 1152 [.float 99, .ref 0, .ref 252, .int (nI i)] [] h2) : Sat g mL_law (d + 40 + 1) (0, 0) Q 176 [.float 99, .ref 0, .ref 252, .int (nI i)] [] h := by
  have v1 : vp_in (nI i + 1) N := vpc (c := 1) (by decide +kernel) (by omega) hN
  have v2 : vp_in (nI i + 2) N := vpc (c := 2) (by decide +kernel) (by omega) hN
  have v3 : vp_in (nI i + 3) N := vpc (c := 3) (by decide +kernel) (by omega) hN
  have v4 : vp_in (nI i + 4) N := vpc (c := 4) (by decide +kernel) (by omega) hN
  have v5 : vp_in (nI i + 5) N := vpc (c := 5) (by decide +kernel) (by omega) hN
  exact vL_176 hX 0 252 (nI i) h ⟨rfl, v1, rfl, v2, rfl, v3, rfl, v4, rfl, v5, Lk S.1.1 K_0, CallI.mono (op_feed S) (fun i1 h1 q => ⟨rfl, v1, rfl, v2, rfl, v3, rfl, v4, rfl, v5, q.1, CallI.mono q.2 (fun i2 h2 w => ⟨fun _ => ih h2 w.2.choose w.2.choose_spec, fun ne => absurd w.1 ne⟩)⟩)⟩
theorem case_239 {g : GT} {d : Nat} {Q : Option Value → HP → Prop} {N i : Nat} {xs : Nat → Int32} (hX : XG g N xs) (hN : N ≤ 3072) (hi : i + 6 ≤ N) {h : HP} {G : G4} (S : StG h G) (ih : ∀ h2 G', StG h2 G' → Sat g mL_law (d + 40 + 1) (0, 0) Q 1152 [.float 99, .ref 0, .ref 252, .int (nI i)] [] h2) : Sat g mL_law (d + 40 + 1) (0, 0) Q 239 [.float 99, .ref 0, .ref 252, .int (nI i)] [] h := by
  have v1 : vp_in (nI i + 1) N := vpc (c := 1) (by decide +kernel) (by omega) hN
  exact vL_239 hX 0 252 (nI i) h ⟨rfl, v1, Lk S.1.1 K_0, CallI.mono (op_end S) (fun i1 h1 q => ⟨rfl, v1, q.1, CallI.mono q.2 (fun i2 h2 w => ⟨fun _ => ih h2 w.2.choose w.2.choose_spec, fun ne => absurd w.1 ne⟩)⟩)⟩
theorem case_262 {g : GT} {d : Nat} {Q : Option Value → HP → Prop} {N i : Nat} {xs : Nat → Int32} (hX : XG g N xs) (hN : N ≤ 3072) (hi : i + 6 ≤ N) {h : HP} {G : G4} (S : StG h G) (ih : ∀ h2 G', StG h2 G' → Sat g mL_law (d + 40 + 1) (0, 0) Q 1152 [.float 99, .ref 0, .ref 252, .int (nI i)] [] h2) : Sat g mL_law (d + 40 + 1) (0, 0) Q 262 [.float 99, .ref 0, .ref 252, .int (nI i)] [] h := by
  exact vL_262 hX 0 252 (nI i) h ⟨Lk S.1.1 K_0, CallI.mono (op_city S) (fun i1 h1 q => ⟨q.1, CallI.mono q.2 (fun i2 h2 w => ⟨fun _ => ih h2 w.2.choose w.2.choose_spec, fun ne => absurd w.1 ne⟩)⟩)⟩
theorem case_275 {g : GT} {d : Nat} {Q : Option Value → HP → Prop} {N i : Nat} {xs : Nat → Int32} (hX : XG g N xs) (hN : N ≤ 3072) (hi : i + 6 ≤ N) {h : HP} {G : G4} (S : StG h G) (ih : ∀ h2 G', StG h2 G' → Sat g mL_law (d + 40 + 1) (0, 0) Q 1152 [.float 99, .ref 0, .ref 252, .int (nI i)] [] h2) : Sat g mL_law (d + 40 + 1) (0, 0) Q 275 [.float 99, .ref 0, .ref 252, .int (nI i)] [] h := by
  exact vL_275 hX 0 252 (nI i) h ⟨Lk S.1.1 K_0, CallI.mono (op_rule S) (fun i1 h1 q => ⟨q.1, CallI.mono q.2 (fun i2 h2 w => ⟨fun _ => ih h2 w.2.choose w.2.choose_spec, fun ne => absurd w.1 ne⟩)⟩)⟩
theorem case_288 {g : GT} {d : Nat} {Q : Option Value → HP → Prop} {N i : Nat} {xs : Nat → Int32} (hX : XG g N xs) (hN : N ≤ 3072) (hi : i + 6 ≤ N) {h : HP} {G : G4} (S : StG h G) (ih : ∀ h2 G', StG h2 G' → Sat g mL_law (d + 40 + 1) (0, 0) Q 1152 [.float 99, .ref 0, .ref 252, .int (nI i)] [] h2) : Sat g mL_law (d + 40 + 1) (0, 0) Q 288 [.float 99, .ref 0, .ref 252, .int (nI i)] [] h := by
  have v1 : vp_in (nI i + 1) N := vpc (c := 1) (by decide +kernel) (by omega) hN
  exact vL_288 hX 0 252 (nI i) h ⟨rfl, v1, Lk S.1.1 K_0, CallI.mono (op_force S) (fun i1 h1 q => ⟨rfl, v1, q.1, CallI.mono q.2 (fun i2 h2 w => ⟨fun _ => ih h2 w.2.choose w.2.choose_spec, fun ne => absurd w.1 ne⟩)⟩)⟩
theorem case_311 {g : GT} {d : Nat} {Q : Option Value → HP → Prop} {N i : Nat} {xs : Nat → Int32} (hX : XG g N xs) (hN : N ≤ 3072) (hi : i + 6 ≤ N) {h : HP} {G : G4} (S : StG h G) (ih : ∀ h2 G', StG h2 G' → Sat g mL_law (d + 40 + 1) (0, 0) Q 1152 [.float 99, .ref 0, .ref 252, .int (nI i)] [] h2) : Sat g mL_law (d + 40 + 1) (0, 0) Q 311 [.float 99, .ref 0, .ref 252, .int (nI i)] [] h := by
  have v1 : vp_in (nI i + 1) N := vpc (c := 1) (by decide +kernel) (by omega) hN
  have v2 : vp_in (nI i + 2) N := vpc (c := 2) (by decide +kernel) (by omega) hN
  exact vL_311 hX 0 252 (nI i) h ⟨rfl, v1, rfl, v2, Lk S.1.1 K_0, CallI.mono (op_bed S) (fun i1 h1 q => ⟨rfl, v1, rfl, v2, q.1, CallI.mono q.2 (fun i2 h2 w => ⟨fun _ => ih h2 w.2.choose w.2.choose_spec, fun ne => absurd w.1 ne⟩)⟩)⟩
theorem case_344 {g : GT} {d : Nat} {Q : Option Value → HP → Prop} {N i : Nat} {xs : Nat → Int32} (hX : XG g N xs) (hN : N ≤ 3072) (hi : i + 6 ≤ N) {h : HP} {G : G4} (S : StG h G) (ih : ∀ h2 G', StG h2 G' → Sat g mL_law (d + 40 + 1) (0, 0) Q 1152 [.float 99, .ref 0, .ref 252, .int (nI i)] [] h2) : Sat g mL_law (d + 40 + 1) (0, 0) Q 344 [.float 99, .ref 0, .ref 252, .int (nI i)] [] h := by
  have v1 : vp_in (nI i + 1) N := vpc (c := 1) (by decide +kernel) (by omega) hN
  have v2 : vp_in (nI i + 2) N := vpc (c := 2) (by decide +kernel) (by omega) hN
  exact vL_344 hX 0 252 (nI i) h ⟨rfl, v1, rfl, v2, Lk S.1.1 K_0, CallI.mono (op_lodger S) (fun i1 h1 q => ⟨rfl, v1, rfl, v2, q.1, CallI.mono q.2 (fun i2 h2 w => ⟨fun _ => ih h2 w.2.choose w.2.choose_spec, fun ne => absurd w.1 ne⟩)⟩)⟩
theorem case_377 {g : GT} {d : Nat} {Q : Option Value → HP → Prop} {N i : Nat} {xs : Nat → Int32} (hX : XG g N xs) (hN : N ≤ 3072) (hi : i + 6 ≤ N) {h : HP} {G : G4} (S : StG h G) (ih : ∀ h2 G', StG h2 G' → Sat g mL_law (d + 40 + 1) (0, 0) Q 1152 [.float 99, .ref 0, .ref 252, .int (nI i)] [] h2) : Sat g mL_law (d + 40 + 1) (0, 0) Q 377 [.float 99, .ref 0, .ref 252, .int (nI i)] [] h := by
  exact vL_377 hX 0 252 (nI i) h ⟨Lk S.1.1 K_0, CallI.mono (op_night S) (fun i1 h1 q => ⟨q.1, CallI.mono q.2 (fun i2 h2 w => ⟨fun _ => ih h2 w.2.choose w.2.choose_spec, fun ne => absurd w.1 ne⟩)⟩)⟩
theorem case_390 {g : GT} {d : Nat} {Q : Option Value → HP → Prop} {N i : Nat} {xs : Nat → Int32} (hX : XG g N xs) (hN : N ≤ 3072) (hi : i + 6 ≤ N) {h : HP} {G : G4} (S : StG h G) (ih : ∀ h2 G', StG h2 G' → Sat g mL_law (d + 40 + 1) (0, 0) Q 1152 [.float 99, .ref 0, .ref 252, .int (nI i)] [] h2) : Sat g mL_law (d + 40 + 1) (0, 0) Q 390 [.float 99, .ref 0, .ref 252, .int (nI i)] [] h := by
  have v1 : vp_in (nI i + 1) N := vpc (c := 1) (by decide +kernel) (by omega) hN
  exact vL_390 hX 0 252 (nI i) h ⟨rfl, v1, Lk S.1.1 K_0, CallI.mono (op_turn S) (fun i1 h1 q => ⟨rfl, v1, q.1, CallI.mono q.2 (fun i2 h2 w => ⟨fun _ => ih h2 w.2.choose w.2.choose_spec, fun ne => absurd w.1 ne⟩)⟩)⟩
theorem case_413 {g : GT} {d : Nat} {Q : Option Value → HP → Prop} {N i : Nat} {xs : Nat → Int32} (hX : XG g N xs) (hN : N ≤ 3072) (hi : i + 6 ≤ N) {h : HP} {G : G4} (S : StG h G) (ih : ∀ h2 G', StG h2 G' → Sat g mL_law (d + 40 + 1) (0, 0) Q 1152 [.float 99, .ref 0, .ref 252, .int (nI i)] [] h2) : Sat g mL_law (d + 40 + 1) (0, 0) Q 413 [.float 99, .ref 0, .ref 252, .int (nI i)] [] h := by
  have v1 : vp_in (nI i + 1) N := vpc (c := 1) (by decide +kernel) (by omega) hN
  have v2 : vp_in (nI i + 2) N := vpc (c := 2) (by decide +kernel) (by omega) hN
  exact vL_413 hX 0 252 (nI i) h ⟨rfl, v1, rfl, v2, Lk S.1.1 K_0, CallI.mono (op_stuff S) (fun i1 h1 q => ⟨rfl, v1, rfl, v2, q.1, CallI.mono q.2 (fun i2 h2 w => ⟨fun _ => ih h2 w.2.choose w.2.choose_spec, fun ne => absurd w.1 ne⟩)⟩)⟩
theorem case_446 {g : GT} {d : Nat} {Q : Option Value → HP → Prop} {N i : Nat} {xs : Nat → Int32} (hX : XG g N xs) (hN : N ≤ 3072) (hi : i + 6 ≤ N) {h : HP} {G : G4} (S : StG h G) (ih : ∀ h2 G', StG h2 G' → Sat g mL_law (d + 40 + 1) (0, 0) Q 1152 [.float 99, .ref 0, .ref 252, .int (nI i)] [] h2) : Sat g mL_law (d + 40 + 1) (0, 0) Q 446 [.float 99, .ref 0, .ref 252, .int (nI i)] [] h := by
  have v1 : vp_in (nI i + 1) N := vpc (c := 1) (by decide +kernel) (by omega) hN
  exact vL_446 hX 0 252 (nI i) h ⟨rfl, v1, Lk S.1.1 K_0, CallI.mono (op_burn S) (fun i1 h1 q => ⟨rfl, v1, q.1, CallI.mono q.2 (fun i2 h2 w => ⟨fun _ => ih h2 w.2.choose w.2.choose_spec, fun ne => absurd w.1 ne⟩)⟩)⟩
theorem case_469 {g : GT} {d : Nat} {Q : Option Value → HP → Prop} {N i : Nat} {xs : Nat → Int32} (hX : XG g N xs) (hN : N ≤ 3072) (hi : i + 6 ≤ N) {h : HP} {G : G4} (S : StG h G) (ih : ∀ h2 G', StG h2 G' → Sat g mL_law (d + 40 + 1) (0, 0) Q 1152 [.float 99, .ref 0, .ref 252, .int (nI i)] [] h2) : Sat g mL_law (d + 40 + 1) (0, 0) Q 469 [.float 99, .ref 0, .ref 252, .int (nI i)] [] h := by
  have v1 : vp_in (nI i + 1) N := vpc (c := 1) (by decide +kernel) (by omega) hN
  have v2 : vp_in (nI i + 2) N := vpc (c := 2) (by decide +kernel) (by omega) hN
  exact vL_469 hX 0 252 (nI i) h ⟨rfl, v1, rfl, v2, Lk S.1.1 K_0, CallI.mono (op_lead S) (fun i1 h1 q => ⟨rfl, v1, rfl, v2, q.1, CallI.mono q.2 (fun i2 h2 w => ⟨fun _ => ih h2 w.2.choose w.2.choose_spec, fun ne => absurd w.1 ne⟩)⟩)⟩
theorem case_502 {g : GT} {d : Nat} {Q : Option Value → HP → Prop} {N i : Nat} {xs : Nat → Int32} (hX : XG g N xs) (hN : N ≤ 3072) (hi : i + 6 ≤ N) {h : HP} {G : G4} (S : StG h G) (ih : ∀ h2 G', StG h2 G' → Sat g mL_law (d + 40 + 1) (0, 0) Q 1152 [.float 99, .ref 0, .ref 252, .int (nI i)] [] h2) : Sat g mL_law (d + 40 + 1) (0, 0) Q 502 [.float 99, .ref 0, .ref 252, .int (nI i)] [] h := by
  exact vL_502 hX 0 252 (nI i) h ⟨Lk S.1.1 K_0, CallI.mono (op_undo S) (fun i1 h1 q => ⟨q.1, CallI.mono q.2 (fun i2 h2 w => ⟨fun _ => ih h2 w.2.choose w.2.choose_spec, fun ne => absurd w.1 ne⟩)⟩)⟩
theorem case_515 {g : GT} {d : Nat} {Q : Option Value → HP → Prop} {N i : Nat} {xs : Nat → Int32} (hX : XG g N xs) (hN : N ≤ 3072) (hi : i + 6 ≤ N) {h : HP} {G : G4} (S : StG h G) (ih : ∀ h2 G', StG h2 G' → Sat g mL_law (d + 40 + 1) (0, 0) Q 1152 [.float 99, .ref 0, .ref 252, .int (nI i)] [] h2) : Sat g mL_law (d + 40 + 1) (0, 0) Q 515 [.float 99, .ref 0, .ref 252, .int (nI i)] [] h := by
  have v1 : vp_in (nI i + 1) N := vpc (c := 1) (by decide +kernel) (by omega) hN
  have v2 : vp_in (nI i + 2) N := vpc (c := 2) (by decide +kernel) (by omega) hN
  have v3 : vp_in (nI i + 3) N := vpc (c := 3) (by decide +kernel) (by omega) hN
  exact vL_515 hX 0 252 (nI i) h ⟨rfl, v1, rfl, v2, rfl, v3, Lk S.1.1 K_0, CallI.mono (op_ahead S) (fun i1 h1 q => ⟨rfl, v1, rfl, v2, rfl, v3, q.1, CallI.mono q.2 (fun i2 h2 w => ⟨fun _ => ih h2 w.2.choose w.2.choose_spec, fun ne => absurd w.1 ne⟩)⟩)⟩
theorem case_558 {g : GT} {d : Nat} {Q : Option Value → HP → Prop} {N i : Nat} {xs : Nat → Int32} (hX : XG g N xs) (hN : N ≤ 3072) (hi : i + 6 ≤ N) {h : HP} {G : G4} (S : StG h G) (ih : ∀ h2 G', StG h2 G' → Sat g mL_law (d + 40 + 1) (0, 0) Q 1152 [.float 99, .ref 0, .ref 252, .int (nI i)] [] h2) : Sat g mL_law (d + 40 + 1) (0, 0) Q 558 [.float 99, .ref 0, .ref 252, .int (nI i)] [] h := by
  have v1 : vp_in (nI i + 1) N := vpc (c := 1) (by decide +kernel) (by omega) hN
  have v2 : vp_in (nI i + 2) N := vpc (c := 2) (by decide +kernel) (by omega) hN
  exact vL_558 hX 0 252 (nI i) h ⟨rfl, v1, rfl, v2, Lk S.1.1 K_0, CallI.mono (op_comes S) (fun i1 h1 q => ⟨rfl, v1, rfl, v2, q.1, CallI.mono q.2 (fun i2 h2 w => ⟨fun _ => ih h2 w.2.choose w.2.choose_spec, fun ne => absurd w.1 ne⟩)⟩)⟩
theorem case_591 {g : GT} {d : Nat} {Q : Option Value → HP → Prop} {N i : Nat} {xs : Nat → Int32} (hX : XG g N xs) (hN : N ≤ 3072) (hi : i + 6 ≤ N) {h : HP} {G : G4} (S : StG h G) (ih : ∀ h2 G', StG h2 G' → Sat g mL_law (d + 40 + 1) (0, 0) Q 1152 [.float 99, .ref 0, .ref 252, .int (nI i)] [] h2) : Sat g mL_law (d + 40 + 1) (0, 0) Q 591 [.float 99, .ref 0, .ref 252, .int (nI i)] [] h := by
  have v1 : vp_in (nI i + 1) N := vpc (c := 1) (by decide +kernel) (by omega) hN
  have v2 : vp_in (nI i + 2) N := vpc (c := 2) (by decide +kernel) (by omega) hN
  have v3 : vp_in (nI i + 3) N := vpc (c := 3) (by decide +kernel) (by omega) hN
  exact vL_591 hX 0 252 (nI i) h ⟨rfl, v1, rfl, v2, rfl, v3, Lk S.1.1 K_0, CallI.mono (op_row S) (fun i1 h1 q => ⟨rfl, v1, rfl, v2, rfl, v3, q.1, CallI.mono q.2 (fun i2 h2 w => ⟨fun _ => ih h2 w.2.choose w.2.choose_spec, fun ne => absurd w.1 ne⟩)⟩)⟩
theorem case_634 {g : GT} {d : Nat} {Q : Option Value → HP → Prop} {N i : Nat} {xs : Nat → Int32} (hX : XG g N xs) (hN : N ≤ 3072) (hi : i + 6 ≤ N) {h : HP} {G : G4} (S : StG h G) (ih : ∀ h2 G', StG h2 G' → Sat g mL_law (d + 40 + 1) (0, 0) Q 1152 [.float 99, .ref 0, .ref 252, .int (nI i)] [] h2) : Sat g mL_law (d + 40 + 1) (0, 0) Q 634 [.float 99, .ref 0, .ref 252, .int (nI i)] [] h := by
  have v1 : vp_in (nI i + 1) N := vpc (c := 1) (by decide +kernel) (by omega) hN
  exact vL_634 hX 0 252 (nI i) h ⟨rfl, v1, Lk S.1.1 K_0, CallI.mono (op_tonight S) (fun i1 h1 q => ⟨rfl, v1, q.1, CallI.mono q.2 (fun i2 h2 w => ⟨fun _ => ih h2 w.2.choose w.2.choose_spec, fun ne => absurd w.1 ne⟩)⟩)⟩
theorem case_657 {g : GT} {d : Nat} {Q : Option Value → HP → Prop} {N i : Nat} {xs : Nat → Int32} (hX : XG g N xs) (hN : N ≤ 3072) (hi : i + 6 ≤ N) {h : HP} {G : G4} (S : StG h G) (ih : ∀ h2 G', StG h2 G' → Sat g mL_law (d + 40 + 1) (0, 0) Q 1152 [.float 99, .ref 0, .ref 252, .int (nI i)] [] h2) : Sat g mL_law (d + 40 + 1) (0, 0) Q 657 [.float 99, .ref 0, .ref 252, .int (nI i)] [] h := by
  have v1 : vp_in (nI i + 1) N := vpc (c := 1) (by decide +kernel) (by omega) hN
  have v2 : vp_in (nI i + 2) N := vpc (c := 2) (by decide +kernel) (by omega) hN
  exact vL_657 hX 0 252 (nI i) h ⟨rfl, v1, rfl, v2, Lk S.1.1 K_0, CallI.mono (op_turned S) (fun i1 h1 q => ⟨rfl, v1, rfl, v2, q.1, CallI.mono q.2 (fun i2 h2 w => ⟨fun _ => ih h2 w.2.choose w.2.choose_spec, fun ne => absurd w.1 ne⟩)⟩)⟩
theorem case_690 {g : GT} {d : Nat} {Q : Option Value → HP → Prop} {N i : Nat} {xs : Nat → Int32} (hX : XG g N xs) (hN : N ≤ 3072) (hi : i + 6 ≤ N) {h : HP} {G : G4} (S : StG h G) (ih : ∀ h2 G', StG h2 G' → Sat g mL_law (d + 40 + 1) (0, 0) Q 1152 [.float 99, .ref 0, .ref 252, .int (nI i)] [] h2) : Sat g mL_law (d + 40 + 1) (0, 0) Q 690 [.float 99, .ref 0, .ref 252, .int (nI i)] [] h := by
  have v1 : vp_in (nI i + 1) N := vpc (c := 1) (by decide +kernel) (by omega) hN
  have v2 : vp_in (nI i + 2) N := vpc (c := 2) (by decide +kernel) (by omega) hN
  have v3 : vp_in (nI i + 3) N := vpc (c := 3) (by decide +kernel) (by omega) hN
  exact vL_690 hX 0 252 (nI i) h ⟨rfl, v1, rfl, v2, rfl, v3, Lk S.1.1 K_0, CallI.mono (op_lain S) (fun i1 h1 q => ⟨rfl, v1, rfl, v2, rfl, v3, q.1, CallI.mono q.2 (fun i2 h2 w => ⟨fun _ => ih h2 w.2.choose w.2.choose_spec, fun ne => absurd w.1 ne⟩)⟩)⟩
theorem case_733 {g : GT} {d : Nat} {Q : Option Value → HP → Prop} {N i : Nat} {xs : Nat → Int32} (hX : XG g N xs) (hN : N ≤ 3072) (hi : i + 6 ≤ N) {h : HP} {G : G4} (S : StG h G) (ih : ∀ h2 G', StG h2 G' → Sat g mL_law (d + 40 + 1) (0, 0) Q 1152 [.float 99, .ref 0, .ref 252, .int (nI i)] [] h2) : Sat g mL_law (d + 40 + 1) (0, 0) Q 733 [.float 99, .ref 0, .ref 252, .int (nI i)] [] h := by
  have v1 : vp_in (nI i + 1) N := vpc (c := 1) (by decide +kernel) (by omega) hN
  have v2 : vp_in (nI i + 2) N := vpc (c := 2) (by decide +kernel) (by omega) hN
  exact vL_733 hX 0 252 (nI i) h ⟨rfl, v1, rfl, v2, Lk S.1.1 K_0, CallI.mono (op_twins S) (fun i1 h1 q => ⟨rfl, v1, rfl, v2, q.1, CallI.mono q.2 (fun i2 h2 w => ⟨fun _ => ih h2 w.2.choose w.2.choose_spec, fun ne => absurd w.1 ne⟩)⟩)⟩
theorem case_766 {g : GT} {d : Nat} {Q : Option Value → HP → Prop} {N i : Nat} {xs : Nat → Int32} (hX : XG g N xs) (hN : N ≤ 3072) (hi : i + 6 ≤ N) {h : HP} {G : G4} (S : StG h G) (ih : ∀ h2 G', StG h2 G' → Sat g mL_law (d + 40 + 1) (0, 0) Q 1152 [.float 99, .ref 0, .ref 252, .int (nI i)] [] h2) : Sat g mL_law (d + 40 + 1) (0, 0) Q 766 [.float 99, .ref 0, .ref 252, .int (nI i)] [] h := by
  have v1 : vp_in (nI i + 1) N := vpc (c := 1) (by decide +kernel) (by omega) hN
  exact vL_766 hX 0 252 (nI i) h ⟨rfl, v1, Lk S.1.1 K_0, CallI.mono (op_settled S) (fun i1 h1 q => ⟨rfl, v1, q.1, CallI.mono q.2 (fun i2 h2 w => ⟨fun _ => ih h2 w.2.choose w.2.choose_spec, fun ne => absurd w.1 ne⟩)⟩)⟩
theorem case_789 {g : GT} {d : Nat} {Q : Option Value → HP → Prop} {N i : Nat} {xs : Nat → Int32} (hX : XG g N xs) (hN : N ≤ 3072) (hi : i + 6 ≤ N) {h : HP} {G : G4} (S : StG h G) (ih : ∀ h2 G', StG h2 G' → Sat g mL_law (d + 40 + 1) (0, 0) Q 1152 [.float 99, .ref 0, .ref 252, .int (nI i)] [] h2) : Sat g mL_law (d + 40 + 1) (0, 0) Q 789 [.float 99, .ref 0, .ref 252, .int (nI i)] [] h := by
  have v1 : vp_in (nI i + 1) N := vpc (c := 1) (by decide +kernel) (by omega) hN
  have v2 : vp_in (nI i + 2) N := vpc (c := 2) (by decide +kernel) (by omega) hN
  exact vL_789 hX 0 252 (nI i) h ⟨rfl, v1, rfl, v2, Lk S.1.1 K_0, CallI.mono (op_best S) (fun i1 h1 q => ⟨rfl, v1, rfl, v2, q.1, CallI.mono q.2 (fun i2 h2 w => ⟨fun _ => ih h2 w.2.choose w.2.choose_spec, fun ne => absurd w.1 ne⟩)⟩)⟩
theorem case_822 {g : GT} {d : Nat} {Q : Option Value → HP → Prop} {N i : Nat} {xs : Nat → Int32} (hX : XG g N xs) (hN : N ≤ 3072) (hi : i + 6 ≤ N) {h : HP} {G : G4} (S : StG h G) (ih : ∀ h2 G', StG h2 G' → Sat g mL_law (d + 40 + 1) (0, 0) Q 1152 [.float 99, .ref 0, .ref 252, .int (nI i)] [] h2) : Sat g mL_law (d + 40 + 1) (0, 0) Q 822 [.float 99, .ref 0, .ref 252, .int (nI i)] [] h := by
  have v1 : vp_in (nI i + 1) N := vpc (c := 1) (by decide +kernel) (by omega) hN
  have v2 : vp_in (nI i + 2) N := vpc (c := 2) (by decide +kernel) (by omega) hN
  have v3 : vp_in (nI i + 3) N := vpc (c := 3) (by decide +kernel) (by omega) hN
  have v4 : vp_in (nI i + 4) N := vpc (c := 4) (by decide +kernel) (by omega) hN
  exact vL_822 hX 0 252 (nI i) h ⟨rfl, v1, rfl, v2, rfl, v3, rfl, v4, Lk S.1.1 K_0, CallI.mono (op_rests S) (fun i1 h1 q => ⟨rfl, v1, rfl, v2, rfl, v3, rfl, v4, q.1, CallI.mono q.2 (fun i2 h2 w => ⟨fun _ => ih h2 w.2.choose w.2.choose_spec, fun ne => absurd w.1 ne⟩)⟩)⟩
theorem case_875 {g : GT} {d : Nat} {Q : Option Value → HP → Prop} {N i : Nat} {xs : Nat → Int32} (hX : XG g N xs) (hN : N ≤ 3072) (hi : i + 6 ≤ N) {h : HP} {G : G4} (S : StG h G) (ih : ∀ h2 G', StG h2 G' → Sat g mL_law (d + 40 + 1) (0, 0) Q 1152 [.float 99, .ref 0, .ref 252, .int (nI i)] [] h2) : Sat g mL_law (d + 40 + 1) (0, 0) Q 875 [.float 99, .ref 0, .ref 252, .int (nI i)] [] h := by
  have v1 : vp_in (nI i + 1) N := vpc (c := 1) (by decide +kernel) (by omega) hN
  have v2 : vp_in (nI i + 2) N := vpc (c := 2) (by decide +kernel) (by omega) hN
  exact vL_875 hX 0 252 (nI i) h ⟨rfl, v1, rfl, v2, Lk S.1.1 K_0, CallI.mono (op_rent S) (fun i1 h1 q => ⟨rfl, v1, rfl, v2, q.1, CallI.mono q.2 (fun i2 h2 w => ⟨fun _ => ih h2 w.2.choose w.2.choose_spec, fun ne => absurd w.1 ne⟩)⟩)⟩
theorem case_908 {g : GT} {d : Nat} {Q : Option Value → HP → Prop} {N i : Nat} {xs : Nat → Int32} (hX : XG g N xs) (hN : N ≤ 3072) (hi : i + 6 ≤ N) {h : HP} {G : G4} (S : StG h G) (ih : ∀ h2 G', StG h2 G' → Sat g mL_law (d + 40 + 1) (0, 0) Q 1152 [.float 99, .ref 0, .ref 252, .int (nI i)] [] h2) : Sat g mL_law (d + 40 + 1) (0, 0) Q 908 [.float 99, .ref 0, .ref 252, .int (nI i)] [] h := by
  have v1 : vp_in (nI i + 1) N := vpc (c := 1) (by decide +kernel) (by omega) hN
  have v2 : vp_in (nI i + 2) N := vpc (c := 2) (by decide +kernel) (by omega) hN
  have v3 : vp_in (nI i + 3) N := vpc (c := 3) (by decide +kernel) (by omega) hN
  exact vL_908 hX 0 252 (nI i) h ⟨rfl, v1, rfl, v2, rfl, v3, Lk S.1.1 K_0, CallI.mono (op_note S) (fun i1 h1 q => ⟨rfl, v1, rfl, v2, rfl, v3, q.1, CallI.mono q.2 (fun i2 h2 w => ⟨fun _ => ih h2 w.2.choose w.2.choose_spec, fun ne => absurd w.1 ne⟩)⟩)⟩
theorem case_951 {g : GT} {d : Nat} {Q : Option Value → HP → Prop} {N i : Nat} {xs : Nat → Int32} (hX : XG g N xs) (hN : N ≤ 3072) (hi : i + 6 ≤ N) {h : HP} {G : G4} (S : StG h G) (ih : ∀ h2 G', StG h2 G' → Sat g mL_law (d + 40 + 1) (0, 0) Q 1152 [.float 99, .ref 0, .ref 252, .int (nI i)] [] h2) : Sat g mL_law (d + 40 + 1) (0, 0) Q 951 [.float 99, .ref 0, .ref 252, .int (nI i)] [] h := by
  have v1 : vp_in (nI i + 1) N := vpc (c := 1) (by decide +kernel) (by omega) hN
  exact vL_951 hX 0 252 (nI i) h ⟨rfl, v1, Lk S.1.1 K_0, CallI.mono (op_ruled S) (fun i1 h1 q => ⟨rfl, v1, q.1, CallI.mono q.2 (fun i2 h2 w => ⟨fun _ => ih h2 w.2.choose w.2.choose_spec, fun ne => absurd w.1 ne⟩)⟩)⟩
theorem case_974 {g : GT} {d : Nat} {Q : Option Value → HP → Prop} {N i : Nat} {xs : Nat → Int32} (hX : XG g N xs) (hN : N ≤ 3072) (hi : i + 6 ≤ N) {h : HP} {G : G4} (S : StG h G) (ih : ∀ h2 G', StG h2 G' → Sat g mL_law (d + 40 + 1) (0, 0) Q 1152 [.float 99, .ref 0, .ref 252, .int (nI i)] [] h2) : Sat g mL_law (d + 40 + 1) (0, 0) Q 974 [.float 99, .ref 0, .ref 252, .int (nI i)] [] h := by
  have v1 : vp_in (nI i + 1) N := vpc (c := 1) (by decide +kernel) (by omega) hN
  have v2 : vp_in (nI i + 2) N := vpc (c := 2) (by decide +kernel) (by omega) hN
  exact vL_974 hX 0 252 (nI i) h ⟨rfl, v1, rfl, v2, Lk S.1.1 K_0, CallI.mono (op_look S) (fun i1 h1 q => ⟨rfl, v1, rfl, v2, q.1, CallI.mono q.2 (fun i2 h2 w => ⟨fun _ => ih h2 w.2.choose w.2.choose_spec, fun ne => absurd w.1 ne⟩)⟩)⟩
theorem case_1007 {g : GT} {d : Nat} {Q : Option Value → HP → Prop} {N i : Nat} {xs : Nat → Int32} (hX : XG g N xs) (hN : N ≤ 3072) (hi : i + 6 ≤ N) {h : HP} {G : G4} (S : StG h G) (ih : ∀ h2 G', StG h2 G' → Sat g mL_law (d + 40 + 1) (0, 0) Q 1152 [.float 99, .ref 0, .ref 252, .int (nI i)] [] h2) : Sat g mL_law (d + 40 + 1) (0, 0) Q 1007 [.float 99, .ref 0, .ref 252, .int (nI i)] [] h := by
  have v1 : vp_in (nI i + 1) N := vpc (c := 1) (by decide +kernel) (by omega) hN
  exact vL_1007 hX 0 252 (nI i) h ⟨rfl, v1, Lk S.1.1 K_0, CallI.mono (op_seed S) (fun i1 h1 q => ⟨rfl, v1, q.1, CallI.mono q.2 (fun i2 h2 w => ⟨fun _ => ih h2 w.2.choose w.2.choose_spec, fun ne => absurd w.1 ne⟩)⟩)⟩
theorem case_1030 {g : GT} {d : Nat} {Q : Option Value → HP → Prop} {N i : Nat} {xs : Nat → Int32} (hX : XG g N xs) (hN : N ≤ 3072) (hi : i + 6 ≤ N) {h : HP} {G : G4} (S : StG h G) (ih : ∀ h2 G', StG h2 G' → Sat g mL_law (d + 40 + 1) (0, 0) Q 1152 [.float 99, .ref 0, .ref 252, .int (nI i)] [] h2) : Sat g mL_law (d + 40 + 1) (0, 0) Q 1030 [.float 99, .ref 0, .ref 252, .int (nI i)] [] h := by
  have v1 : vp_in (nI i + 1) N := vpc (c := 1) (by decide +kernel) (by omega) hN
  have v2 : vp_in (nI i + 2) N := vpc (c := 2) (by decide +kernel) (by omega) hN
  have v3 : vp_in (nI i + 3) N := vpc (c := 3) (by decide +kernel) (by omega) hN
  have v4 : vp_in (nI i + 4) N := vpc (c := 4) (by decide +kernel) (by omega) hN
  exact vL_1030 hX 0 252 (nI i) h ⟨rfl, v1, rfl, v2, rfl, v3, rfl, v4, Lk S.1.1 K_0, CallI.mono (op_mays S) (fun i1 h1 q => ⟨rfl, v1, rfl, v2, rfl, v3, rfl, v4, q.1, CallI.mono q.2 (fun i2 h2 w => ⟨fun _ => ih h2 w.2.choose w.2.choose_spec, fun ne => absurd w.1 ne⟩)⟩)⟩
theorem case_1083 {g : GT} {d : Nat} {Q : Option Value → HP → Prop} {N i : Nat} {xs : Nat → Int32} (hX : XG g N xs) (hN : N ≤ 3072) (hi : i + 6 ≤ N) {h : HP} {G : G4} (S : StG h G) (ih : ∀ h2 G', StG h2 G' → Sat g mL_law (d + 40 + 1) (0, 0) Q 1152 [.float 99, .ref 0, .ref 252, .int (nI i)] [] h2) : Sat g mL_law (d + 40 + 1) (0, 0) Q 1083 [.float 99, .ref 0, .ref 252, .int (nI i)] [] h := by
  have v1 : vp_in (nI i + 1) N := vpc (c := 1) (by decide +kernel) (by omega) hN
  exact vL_1083 hX 0 252 (nI i) h ⟨rfl, v1, Lk S.1.1 K_0, CallI.mono (op_count S) (fun i1 h1 q => ⟨rfl, v1, q.1, CallI.mono q.2 (fun i2 h2 w => ⟨fun _ => ih h2 w.2.choose w.2.choose_spec, fun ne => absurd w.1 ne⟩)⟩)⟩
theorem case_1106 {g : GT} {d : Nat} {Q : Option Value → HP → Prop} {N i : Nat} {xs : Nat → Int32} (hX : XG g N xs) (hN : N ≤ 3072) (hi : i + 6 ≤ N) {h : HP} {G : G4} (S : StG h G) (ih : ∀ h2 G', StG h2 G' → Sat g mL_law (d + 40 + 1) (0, 0) Q 1152 [.float 99, .ref 0, .ref 252, .int (nI i)] [] h2) : Sat g mL_law (d + 40 + 1) (0, 0) Q 1106 [.float 99, .ref 0, .ref 252, .int (nI i)] [] h := by
  have v1 : vp_in (nI i + 1) N := vpc (c := 1) (by decide +kernel) (by omega) hN
  exact vL_1106 hX 0 252 (nI i) h ⟨rfl, v1, Lk S.1.1 K_0, CallI.mono (op_image S) (fun i1 h1 q => ⟨rfl, v1, q.1, CallI.mono q.2 (fun i2 h2 w => ⟨fun _ => ih h2 w.2.choose w.2.choose_spec, fun ne => absurd w.1 ne⟩)⟩)⟩
theorem case_1129 {g : GT} {d : Nat} {Q : Option Value → HP → Prop} {N i : Nat} {xs : Nat → Int32} (hX : XG g N xs) (hN : N ≤ 3072) (hi : i + 6 ≤ N) {h : HP} {G : G4} (S : StG h G) (ih : ∀ h2 G', StG h2 G' → Sat g mL_law (d + 40 + 1) (0, 0) Q 1152 [.float 99, .ref 0, .ref 252, .int (nI i)] [] h2) : Sat g mL_law (d + 40 + 1) (0, 0) Q 1129 [.float 99, .ref 0, .ref 252, .int (nI i)] [] h := by
  have v1 : vp_in (nI i + 1) N := vpc (c := 1) (by decide +kernel) (by omega) hN
  exact vL_1129 hX 0 252 (nI i) h ⟨rfl, v1, Lk S.1.1 K_0, CallI.mono (op_back S) (fun i1 h1 q => ⟨rfl, v1, q.1, CallI.mono q.2 (fun i2 h2 w => ⟨fun _ => ih h2 w.2.choose w.2.choose_spec, fun ne => absurd w.1 ne⟩)⟩)⟩
