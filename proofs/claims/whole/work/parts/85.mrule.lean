/-! the reference reads a RULE -/
def MZr (r x k : Nat) : Prop := MY r x k ∨ ((x = 280 ∨ x = 281 ∨ x = 282) ∧ 12 * r ≤ k)
theorem myz {r : Nat} {h h' : HP} (f : FrC (MY r) h h') : FrC (MZr r) h h' := f.wd (fun x k w => Or.inl w)
theorem MT.fz {T : Nat → Nat} {n r : Nat} {h h' : HP} (C : MT T n r h) (f : FrC (MZr r) h h') : MT T n r h' := ⟨C.1.fr f (fun k w => by unfold MZr MY MX at w; omega) (fun w => by unfold MZr MY MX at w; omega), (f.I (by unfold MZr MY MX; omega)).trans C.2.1, C.2.2.1, (f.I (by unfold MZr MY MX; omega)).trans C.2.2.2⟩
def KM (r : Nat) (h : HP) (σ : PS) : Prop := ∀ i, i < sq σ → hI h 280 (12 * r + i) = nI (sA σ i) ∧ hI h 281 (12 * r + i) = nI (sT σ i) ∧ hI h 282 (12 * r + i) = nI (sA σ (i + 1))
section MR
variable {g : GT} {d n r p : Nat} {T : Nat → Nat} {h : HP}
theorem m_goesOn {Q : Int32 → HP → Prop} (C : MT0 T n h) (hp : hI h 252 25 = nI p) (hp2 : p < 900) (hF : ¬ hI h 252 26 = 0 → ∀ h', FrC A25 h h' → Q 0 h') (hE : hI h 252 26 = 0 → at_ T n (bl T n p) = 1000 → ∀ h', FrC A25 h h' → Q 0 h') (hS : hI h 252 26 = 0 → at_ T n (bl T n p) = 59 → ∀ h', FrC A25 h h' → hI h' 252 25 = nI (bl T n p + 1) → Q 1 h') (hB : hI h 252 26 = 0 → ¬ at_ T n (bl T n p) = 1000 → ¬ at_ T n (bl T n p) = 59 → ∀ h', FrC A256 h h' → hI h' 252 26 = nI (1 + 8 * bl T n p + 0) → Q 0 h') : CallI g mX10_goesOn (d + 2) [.ref 252] h Q := by
  have n4 := C.2.1
  have hT := C.2.2.2.2
  refine wX10_goesOn_0 C.1 (m_blanks C hp (by omega) (fun h1 f1 e1 => ⟨f1.lay C.1, ?_⟩))
  have C1 := C.f5 f1
  have e26 : hI h1 252 26 = hI h 252 26 := f1.I (by unfold A25; omega)
  have bP : bl T n p < 950 := by
    by_cases c : p ≤ n
    · have := (bl_rg (T := T) c).2.1; omega
    · rw [bl_n (by omega)]; omega
  generalize bl T n p = P at *
  rw [e26, e1, C1.2.2.1, nI_1]
  have f2 : FrC A25 h (setI h1 252 25 (nI (P + 1))) := f1.tr (FrC.stI ⟨rfl, rfl⟩)
  have pl_ : nI n ≤ nI P ↔ n ≤ P := nI_leI (by omega) (by omega)
  have q0 : ¬ hI h 252 26 = 0 → qI Q (some (.int 0)) (setI h1 252 25 (nI (P + 1))) := fun z => hF z _ f2
  refine ⟨fun z => ⟨fun w => ⟨fun _ => ⟨fun _ => hE z (if_neg (by have := pl_.mp w; omega)) _ f2, fun w2 => absurd w w2⟩, fun z2 => absurd z z2⟩, fun w => m_sign C1 e1 (by omega) ⟨C1.1, fun w59 => ?_, fun w59 => ?_⟩⟩, fun z => ⟨fun z2 => absurd z2 z, fun _ => q0 z⟩⟩
  · rw [e26, e1, C1.2.2.1, nI_1]
    refine ⟨fun _ => ⟨fun w2 => absurd w2 w, fun _ => hS z ((sg_eq (c := 59) hT (by omega)).mp w59) _ f2 rdI⟩, fun z2 => absurd z z2⟩
  · rw [e1]
    refine m_fails (c := 0) C1.1 (fun h4 f4 e4 => ⟨f4.lay C1.1, ?_⟩)
    have hl : P < n := Nat.lt_of_not_le (fun z => w (pl_.mpr z))
    have a1 : ¬ at_ T n P = 1000 := by
      rw [show at_ T n P = T P from if_pos hl]
      have := hT P hl; omega
    rw [e26, if_pos z] at e4
    have nz : ¬ hI h4 252 26 = 0 := by rw [e4]; exact nI_ne0 (by omega) (by omega)
    have f5 : FrC A256 h (setI h4 252 25 ((hI h4 252 25) + 1)) := ((f1.wd (fun x k w => by unfold A25 at w; unfold A256; omega)).tr (f4.wd (fun x k w => by unfold A26 at w; unfold A256; omega))).tr (FrC.stI (by unfold A256; omega))
    refine ⟨fun z2 => absurd z2 nz, fun _ => hB z a1 (fun y => w59 ((sg_eq (c := 59) hT (by omega)).mpr y)) _ f5 ?_⟩
    rw [rdn (by omega)]; exact e4
theorem MDf.of {h' : HP} {f P : Nat} (e5 : hI h' 252 25 = nI P) (hP : P ≤ n + 5) (e6 : hI h' 252 26 = nI f) (hf : 1 ≤ f ∧ f < 10000) : MDf n h' f := ⟨⟨P, hP, e5⟩, e6, hf⟩
theorem n12 (r i : Nat) : (12 : Int32) * nI r + nI i = nI (12 * r + i) := by rw [show (12 : Int32) = nI 12 from rfl, pk_mul, nI_add]
theorem m_ruleClause {i : Nat} {σ : PS} {Q : HP → Prop} (C : MT T n r h) (D : MDs r h σ) (I : Inv n (6, [], σ)) (hq : sq σ = i) (K : KM r h σ) (e30 : hI h 252 30 = 0) (hF : ∀ h' f, FrC (MZr r) h h' → MDf n h' f → (∀ z, EnX T n (.inl f) z → EnX T n (.inr (6, [], σ)) z) → Q h') (hY : i < 12 → ∀ h' σ', FrC (MZr r) h h' → MDs r h' σ' → Inv n (7, [], σ') → sq σ' = i → hI h' 252 30 = 0 → (∀ j, j ≤ i → hI h' 280 (12 * r + j) = nI (sA σ' j) ∧ hI h' 281 (12 * r + j) = nI (sT σ' j)) → (∀ j, j < i → hI h' 282 (12 * r + j) = nI (sA σ' (j + 1))) → hI h' 282 (12 * r + i) = nI (se σ') → (∀ z, EnX T n (.inr (7, [], σ')) z → EnX T n (.inr (6, [], σ)) z) → Q h') : CallV g mX10_ruleClause (d + 12) (0, 0) [.ref 252, .int (nI i)] h Q := by
  have n4 := C.1.2.1
  have hT := C.1.2.2.2.2
  have r6 := C.2.2.1
  have hi12 : i ≤ 12 := by have : sq σ ≤ 12 := I.1.2.2; omega
  have hp : sp σ ≤ n := I.1.1
  obtain ⟨b1, b2, b3⟩ := bl_rg (T := T) hp
  refine wX10_ruleClause_0 _ C.1.1 (m_blanks C.1 D.1 (by omega) (fun h1 f1 e1 => ⟨f1.lay C.1.1, ?_⟩))
  have Gb := (GoX.bk (T := T) (n := n) (m := 6) (S := []) (fun σ h => by rw [st_6, if_pos h]) σ).1
  have D1 := D.mv f1 e1
  have I1 := iv_pu I b1 b2
  have C1 := C.fr (m5x f1)
  have F1 : FrC (MZr r) h h1 := myz (mxy (m5x f1))
  have K1 : KM r h1 σ := fun j hj => by rw [f1.I (by unfold A25; omega), f1.I (by unfold A25; omega), f1.I (by unfold A25; omega)]; exact K j hj
  have n32 : ¬ at_ T n (bl T n (sp σ)) = 32 := fun w => b3 (at_32.mp w)
  generalize hP : bl T n (sp σ) = P at *
  have K1 : KM r h1 (pu σ P) := K1
  have hq : sq (pu σ P) = i := hq
  generalize hσ : pu σ P = σ1 at *
  have pP : sp σ1 = P := by rw [← hσ]
  have e53 : se σ1 ≤ 253 := iv_e n4 I1
  have s6 := st_6 T n σ1
  rw [pP, if_neg n32, hq] at s6
  have bad : ∀ c h3, c ≤ 4 → stp T n (6, [], σ1) = .inl (.inl (1 + 8 * P + c)) → FrC A26 h1 h3 → hI h3 252 26 = (if hI h1 252 26 = 0 then nI (1 + 8 * P + c) else hI h1 252 26) → Q h3 := fun c h3 hc hs f3 e3 => by
    rw [D1.2.1, if_pos rfl] at e3
    exact hF h3 _ (F1.tr (myz (mxy (m6x f3)))) (MDf.of ((f3.I (by unfold A26; omega)).trans e1) (by omega) e3 (by omega)) (fun z hz => Gb z ((GoX.ft hs).1 z hz))
  refine m_stood (d := d + 6) (t := 22) C1.1 (by decide) e1 (by omega) ⟨C1.1.1, fun w => ?_, fun w => ?_⟩
  · have nw : ¬ mW T n (wS 22) P = true := fun c => by
      rw [if_pos (show mW T n (wS (22 : UInt32).toNat) P = true from c)] at w; exact absurd w (by decide)
    rw [if_neg nw] at s6
    rw [e1]
    exact m_fails (c := 0) C1.1.1 (fun h3 f3 e3 => ⟨f3.lay C1.1.1, bad 0 h3 (by omega) s6 f3 e3⟩)
  · have yw : mW T n (wS 22) P = true := Decidable.byContradiction (fun c => w (by rw [if_neg (show ¬ mW T n (wS (22 : UInt32).toNat) P = true from c)]))
    have hle : P + 3 ≤ n := by have := mW_le yw (by decide) (by decide); have := l19.2.2.2.1; omega
    rw [if_pos yw] at s6
    refine ⟨fun w12 => ?_, fun w12 => ?_⟩
    · have i12 : i = 12 := (nI_eq (a := i) (b := 12) (by omega) (by omega)).mp w12
      rw [if_pos (by omega)] at s6
      rw [e1]
      exact m_fails (c := 4) C1.1.1 (fun h3 f3 e3 => ⟨f3.lay C1.1.1, bad 4 h3 (by omega) s6 f3 e3⟩)
    · have i12 : i < 12 := by
        have : ¬ i = 12 := fun z => w12 (by rw [z]; rfl)
        omega
      rw [if_neg (by omega)] at s6
      rw [C1.2.1, n12, nI_clamp (n := 12 * r + i) (by omega), e1, show nI P + 3 = nI (P + 3) from nI_add P 3, D1.2.2.2.1]
      refine ⟨vn (by omega) (by omega), ?_⟩
      have f2 : FrC (fun x k => (x = 252 ∧ k = 25) ∨ (x = 280 ∧ k = 12 * r + i)) h1 (setI (setI h1 252 25 (nI (P + 3))) 280 (12 * r + i) (nI (se σ1))) := (FrC.stI (by omega)).tr (FrC.stI (by omega))
      have e25 : hI (setI (setI h1 252 25 (nI (P + 3))) 280 (12 * r + i) (nI (se σ1))) 252 25 = nI (P + 3) := by rw [rdn (by omega), rdI]
      have e280 : hI (setI (setI h1 252 25 (nI (P + 3))) 280 (12 * r + i) (nI (se σ1))) 280 (12 * r + i) = nI (se σ1) := rdI
      generalize setI (setI h1 252 25 (nI (P + 3))) 280 (12 * r + i) (nI (se σ1)) = h2 at f2 e25 e280 ⊢
      have F2 := F1.tr (f2.wd (fun x k w => by unfold MZr MY MX; omega))
      have C2 := C.fz F2
      have D2 : MDs r h2 (pu σ1 (P + 3)) := ⟨e25, (f2.I (by omega)).trans D1.2.1, (f2.I (by omega)).trans D1.2.2.1, (f2.I (by omega)).trans D1.2.2.2.1, fun j hj => by rw [f2.I (by omega), f2.I (by omega)]; exact D1.2.2.2.2 j hj⟩
      have sAq : sA σ1 i = se σ1 := by rw [← hq]; exact I1.2.2.2.2.2
      have A2 : ∀ j, j ≤ i → hI h2 280 (12 * r + j) = nI (sA σ1 j) := fun j hj => by
        by_cases c : j = i
        · subst c; rw [e280, sAq]
        · rw [f2.I (by omega)]; exact (K1 j (by omega)).1
      have T2 : ∀ j, j < i → hI h2 281 (12 * r + j) = nI (sT σ1 j) ∧ hI h2 282 (12 * r + j) = nI (sA σ1 (j + 1)) := fun j hj => by
        rw [f2.I (by omega), f2.I (by omega)]; exact (K1 j (by omega)).2
      have I2 : Inv n (3, [], pu σ1 (P + 3)) := iv_lie I1 (by omega) (by omega) hle
      have e302 : hI h2 252 30 = 0 := by rw [f2.I (by omega), f1.I (by unfold A25; omega)]; exact e30
      refine m_sum (d := d + 3) (x := .inr (3, [], pu σ1 (P + 3))) (S := []) (by show ¬ (2 ≤ 0 ∧ 0 ≤ 6); omega) C2 D2 ⟨rfl, rfl, I2⟩ (fun h4 y4 f4 D4 A4' G4 => ⟨f4.lay C2.1.1, ?_⟩)
      have F4 := F2.tr (myz (mxy f4))
      have C4 := C.fz F4
      have G4' : ∀ z, EnX T n y4 z → EnX T n (.inr (6, [], σ)) z := fun z hz => Gb z (GoY.st s6 z (G4.1 z hz))
      rcases A4'.ms with ⟨fl, rfl⟩ | ⟨σ4, rfl, I4⟩
      · have D4 : MDf n h4 fl := D4
        refine ⟨fun w => absurd w D4.nz, fun _ => ?_⟩
        have f5 : FrC (fun x k => (x = 281 ∨ x = 282) ∧ k = 12 * r + i) h4 (setI (setI h4 281 (12 * r + i) (hI h4 252 29)) 282 (12 * r + i) (hI h4 252 29)) := (FrC.stI (by omega)).tr (FrC.stI (by omega))
        obtain ⟨q, hq5, eq5⟩ := D4.1
        exact hF _ fl (F4.tr (f5.wd (fun x k w => by unfold MZr; omega))) ⟨⟨q, hq5, (f5.I (by omega)).trans eq5⟩, (f5.I (by omega)).trans D4.2.1, D4.2.2⟩ G4'
      · have D4 : MDs r h4 σ4 := D4
        have κ4 : σ4.2.2 = σ1.2.2 := G4.2.2
        have q4 : sq σ4 = i := by show σ4.2.2.1 = i; rw [κ4]; exact hq
        refine ⟨fun _ => ?_, fun w => absurd D4.2.1 w⟩
        rw [D4.2.2.2.1]
        have f5 : FrC (fun x k => x = 281 ∧ k = 12 * r + i) h4 (setI h4 281 (12 * r + i) (nI (se σ4))) := FrC.stI ⟨rfl, rfl⟩
        have e281 : hI (setI h4 281 (12 * r + i) (nI (se σ4))) 281 (12 * r + i) = nI (se σ4) := rdI
        generalize setI h4 281 (12 * r + i) (nI (se σ4)) = h5 at f5 e281 ⊢
        have F5 := F4.tr (f5.wd (fun x k w => by unfold MZr; omega))
        have C5 := C.fz F5
        have D5 : MDs r h5 (σ8 σ4) := D4.fo (σ := σ4) f5 (fun k w => by omega) (fun k => by omega) (fun k => by omega)
        have I5 : Inv n (8, [], σ8 σ4) := iv_sumE I4
        have G5 : ∀ z, EnX T n (.inr (8, [], σ8 σ4)) z → EnX T n (.inr (6, [], σ)) z := fun z hz => G4' z (GoY.st (c := (5, [], σ4)) rfl z hz)
        have K5 : ∀ j, j ≤ i → hI h5 280 (12 * r + j) = nI (sA (σ8 σ4) j) ∧ hI h5 281 (12 * r + j) = nI (sT (σ8 σ4) j) := fun j hj => by
          have a1 : sA (σ8 σ4) j = sA σ1 j := by show σ4.2.2.2.1 j = σ1.2.2.2.1 j; rw [κ4]
          refine ⟨?_, ?_⟩
          · rw [f5.I (by omega), f4.I (by unfold MX; omega), a1]; exact A2 j hj
          · by_cases c : j = i
            · subst c
              rw [e281]; exact congrArg nI (if_pos q4.symm).symm
            · rw [f5.I (by omega), f4.I (by unfold MX; omega), (T2 j (by omega)).1]
              have : sT (σ8 σ4) j = σ4.2.2.2.2 j := if_neg (by omega)
              rw [this, κ4]
        have E5 : ∀ j, j < i → hI h5 282 (12 * r + j) = nI (sA (σ8 σ4) (j + 1)) := fun j hj => by
          have a1 : sA (σ8 σ4) (j + 1) = sA σ1 (j + 1) := by show σ4.2.2.2.1 _ = σ1.2.2.2.1 _; rw [κ4]
          rw [f5.I (by omega), f4.I (by unfold MX; omega), a1]; exact (T2 j hj).2
        have e305 : hI h5 252 30 = 0 := by rw [f5.I (by omega), f4.I (by unfold MX; omega)]; exact e302
        have q5 : sq (σ8 σ4) = i := q4
        generalize σ8 σ4 = σ5 at *
        have hp5 : sp σ5 ≤ n := I5.1.1
        obtain ⟨c1', c2, c3⟩ := bl_rg (T := T) hp5
        -- the end of the CLAUSE
        have endS : ∀ h' σ', FrC (MZr r) h h' → MDs r h' σ' → Inv n (7, [], σ') → σ'.2.2 = σ5.2.2 → hI h' 252 30 = 0 → (∀ x k, (x = 280 ∨ x = 281 ∨ x = 282) → hI h' x k = hI h5 x k) → (∀ z, EnX T n (.inr (7, [], σ')) z → EnX T n (.inr (6, [], σ)) z) → Q (setI h' 282 (12 * r + i) (hI h' 252 29)) := by
          intro h' σ' F' D' I' κ' e30' fr' G'
          have q' : sq σ' = i := by show σ'.2.2.1 = i; rw [κ']; exact q5
          have f7 : FrC (fun x k => x = 282 ∧ k = 12 * r + i) h' (setI h' 282 (12 * r + i) (hI h' 252 29)) := FrC.stI ⟨rfl, rfl⟩
          refine hY i12 _ σ' (F'.tr (f7.wd (fun x k w => by unfold MZr; omega))) (D'.fo f7 (fun k w => by omega) (fun k => by omega) (fun k => by omega)) I' q' (by rw [f7.I (by omega)]; exact e30') (fun j hj => ?_) (fun j hj => ?_) (by rw [rdI]; exact D'.2.2.2.1) G'
          · rw [f7.I (by omega), f7.I (by omega), fr' 280 _ (by omega), fr' 281 _ (by omega)]
            have := K5 j hj
            exact ⟨this.1.trans (by show nI (σ5.2.2.2.1 j) = nI (σ'.2.2.2.1 j); rw [κ']), this.2.trans (by show nI (σ5.2.2.2.2 j) = nI (σ'.2.2.2.2 j); rw [κ'])⟩
          · rw [f7.I (by omega), fr' 282 _ (by omega)]
            exact (E5 j hj).trans (by show nI (σ5.2.2.2.1 _) = nI (σ'.2.2.2.1 _); rw [κ'])
        refine wX10_takes_0 _ C5.1.1 (m_blanks C5.1 D5.1 (by omega) (fun h6 f6 e6 => ⟨f6.lay C5.1.1, ?_⟩))
        have Gb6 := (GoX.bk (T := T) (n := n) (m := 8) (S := []) (fun σ h => by rw [st_8, if_pos h]) σ5).1
        have G6 : ∀ z, EnX T n (.inr (8, [], pu σ5 (bl T n (sp σ5)))) z → EnX T n (.inr (6, [], σ)) z := fun z hz => G5 z (Gb6 z hz)
        clear Gb6
        have D6 := D5.mv f6 e6
        have I6 := iv_pu I5 c1' c2
        have F6 := F5.tr (myz (mxy (m5x f6)))
        have C6 := C.fz F6
        have n326 : ¬ at_ T n (bl T n (sp σ5)) = 32 := fun w => c3 (at_32.mp w)
        have e306 : hI h6 252 30 = 0 := by rw [f6.I (by unfold A25; omega)]; exact e305
        have κ6 : (pu σ5 (bl T n (sp σ5))).2.2 = σ5.2.2 := rfl
        generalize hP6 : bl T n (sp σ5) = P6 at *
        generalize hσ6 : pu σ5 P6 = σ6 at *
        have pP6 : sp σ6 = P6 := by rw [← hσ6]
        have s8 := st_8 T n σ6
        rw [pP6, if_neg n326] at s8
        refine m_stood (d := d + 5) (t := 23) C6.1 (by decide) e6 (by omega) ⟨C6.1.1, fun w => ⟨?_, ?_⟩, fun w => ⟨by decide, c_len (by decide) ⟨C6.1.1, ?_, ?_⟩⟩⟩
        · split <;> rfl
        · have nif : ¬ mW T n (wS 23) P6 = true := fun c => by
            rw [if_pos (show mW T n (wS (23 : UInt32).toNat) P6 = true from c)] at w; exact absurd w (by decide)
          rw [if_neg nif] at s8
          rw [e6, Int32.add_zero]
          have f7 : FrC A25 h6 (setI h6 252 25 (nI P6)) := FrC.stI ⟨rfl, rfl⟩
          have D7 : MDs r (setI h6 252 25 (nI P6)) σ6 := by
            have := D6.mv f7 (p := P6) rdI
            rw [show pu σ6 P6 = σ6 by rw [← hσ6]] at this
            exact this
          refine ⟨f7.lay C6.1.1, fun _ => ?_, fun z => absurd w z⟩
          refine endS _ σ6 (F6.tr (myz (mxy (m5x f7)))) D7 (iv_noif I6) κ6 (by rw [f7.I (by unfold A25; omega)]; exact e306) (fun x k hx => ?_) (fun z hz => G6 z (GoY.st s8 z hz))
          rw [f7.I (by unfold A25; omega), f6.I (by unfold A25; omega)]
        · split <;> rfl
        · have yif : mW T n (wS 23) P6 = true := Decidable.byContradiction (fun c => w (by rw [if_neg (show ¬ mW T n (wS (23 : UInt32).toNat) P6 = true from c)]))
          rw [if_pos yif] at s8
          have hle6 : P6 + 2 ≤ n := by have := mW_le yif (by decide) (by decide); have := l19.2.2.2.2; omega
          rw [e6, show strn 23 = 2 from by decide, nI_add]
          have f7 : FrC A25 h6 (setI h6 252 25 (nI (P6 + 2))) := FrC.stI ⟨rfl, rfl⟩
          have F7 := F6.tr (myz (mxy (m5x f7)))
          have C7 := C.fz F7
          refine ⟨C7.1.1, fun z => absurd z w, fun _ => ?_⟩
          refine m_test (d := d) C7 (D6.mv f7 rdI) (iv_if I6 (by omega) hle6) (by rw [f7.I (by unfold A25; omega)]; exact e306) (fun h8 f F8 D8 G8 => ⟨F8.lay C7.1.1, ?_⟩) (fun h8 σ7 F8 D8 I8 e308 G8 => ⟨F8.lay C7.1.1, ?_⟩)
          · have f9 : FrC (fun x k => x = 282 ∧ k = 12 * r + i) h8 (setI h8 282 (12 * r + i) (hI h8 252 29)) := FrC.stI ⟨rfl, rfl⟩
            obtain ⟨q, hq8, eq8⟩ := D8.1
            exact hF _ f ((F7.tr (myz F8)).tr (f9.wd (fun x k w => by unfold MZr; omega))) ⟨⟨q, hq8, (f9.I (by omega)).trans eq8⟩, (f9.I (by omega)).trans D8.2.1, D8.2.2⟩ (fun z hz => G6 z (GoY.st s8 z (G8.1 z hz)))
          · refine endS h8 σ7 (F7.tr (myz F8)) D8 (iv_tz I8) ?_ e308 (fun x k hx => ?_) (fun z hz => G6 z (GoY.st s8 z (G8.1 z (GoY.st (c := (2, [17], σ7)) rfl z hz))))
            · have : σ7.2.2 = σ6.2.2 := G8.2.2
              rw [this]; exact κ6
            · rw [F8.I (by unfold MY MX; omega), f7.I (by unfold A25; omega), f6.I (by unfold A25; omega)]
end MR
