/-! the class reads a RULE: its CLAUSES one by one -/
section CR2
variable {g : GT} {d n r : Nat} {T : Nat → Nat} {h0 : HP}
/-- what ends it -/
def RuF (T : Nat → Nat) (n r : Nat) (h0 : HP) (Q : Int32 → HP → Prop) : Prop := ∀ h' f, FrC (AR r) h0 h' → EnX T n (.inr (6, [], σ00)) (.inl f) → (1 ≤ f ∧ f < 10000) → Q (nI f) h'
def RuY (T : Nat → Nat) (n r : Nat) (h0 : HP) (Q : Int32 → HP → Prop) : Prop := ∀ h' σ, FrC (AR r) h0 h' → EnX T n (.inr (6, [], σ00)) (.inr σ) → Inv n (9, [], σ) → CRule h' (126 + 5 * r) (pgS σ) → Q 0 h'
def RuS9 (T : Nat → Nat) (n r : Nat) (h0 : HP) (i : Nat) (h' : HP) (σ : PS) : Prop := sq σ = i ∧ FrC (AR r) h0 h' ∧ CDs r h' σ ∧ KQ r h' σ ∧ hI h' (126 + 5 * r) 5 = nI i ∧ ∀ r, EnX T n (.inr (6, [], σ)) r → EnX T n (.inr (6, [], σ00)) r
theorem c_ruleStep {Q : Int32 → HP → Prop} (C0 : CT T n r h0) (hF : RuF T n r h0 Q) (hY : RuY T n r h0 Q) {i : Nat} (hi : i ≤ 12) {h : HP} {σ : PS} (I : Inv n (6, [], σ)) (H : RuS9 T n r h0 i h σ) (IH : i < 12 → ∀ h' σ', Inv n (6, [], σ') → RuS9 T n r h0 (i + 1) h' σ' → Sat g mX6_readRule (d + 31) (0, 0) (qI Q) 21 [.ref 29, .double 0, .double 0, .double 0, .int (nI (i + 1)), .double 0] [] h') : Sat g mX6_readRule (d + 31) (0, 0) (qI Q) 21 [.ref 29, .double 0, .double 0, .double 0, .int (nI i), .double 0] [] h := by
  obtain ⟨hq, f0, D, K, e5, G⟩ := H
  have n4 := C0.1.2.2.1
  have hT := C0.1.2.2.2.2.2
  have cr : ∀ h', FrC (AR r) h0 h' → CT T n r h' := fun h' f => ⟨C0.1.fr f (fun k w => by unfold AR at w; omega) (fun w => by unfold AR at w; omega), by rw [f.2.1]; exact C0.2.1, C0.2.2⟩
  have C := cr h f0
  have hp : sp σ ≤ n := I.1.1
  obtain ⟨b1, b2, b3⟩ := bl_rg (T := T) hp
  refine wX6_readRule_21 _ C.1.1 ⟨fun w => absurd w (nI_nlt (a := 12) (b := i) hi (by omega)), fun _ => ⟨fun _ => c_next C.1 D.1 hp (fun h1 f1 e1 => ⟨f1.lay C.1.1, ?_⟩), fun w => absurd D.2.1 w⟩⟩
  have Gb := (GoX.bk (T := T) (n := n) (m := 6) (S := []) (fun σ h => by rw [st_6, if_pos h]) σ)
  have G1 : ∀ r, EnX T n (.inr (6, [], pu σ (bl T n (sp σ)))) r → EnX T n (.inr (6, [], σ00)) r := fun r hr => G r (Gb.1 r hr)
  clear Gb
  have D1 := D.mv f1 e1
  have I1 := iv_pu I b1 b2
  have F1 := f0.tr (fxr (f3x f1))
  have C1 := cr h1 F1
  have n32 : ¬ at_ T n (bl T n (sp σ)) = 32 := fun w => b3 (at_32.mp w)
  have K1 : KQ r h1 σ := fun j hj => by rw [f1.I (by unfold A3; omega), f1.I (by unfold A3; omega), f1.I (by unfold A3; omega)]; exact K j hj
  have e51 : hI h1 (126 + 5 * r) 5 = nI i := (f1.I (by unfold A3; omega)).trans e5
  rw [e1]
  generalize hP : bl T n (sp σ) = P at *
  have K1 : KQ r h1 (pu σ P) := K1
  have hq : sq (pu σ P) = i := hq
  generalize hσ : pu σ P = σ1 at *
  have pP : sp σ1 = P := by rw [← hσ]
  have e53 : se σ1 ≤ 253 := iv_e n4 I1
  have s6 := st_6 T n σ1
  rw [pP, if_neg n32, hq] at s6
  -- a FAULT at the word
  have bad : ∀ c h2 h3 (v : Int32), c ≤ 4 → stp T n (6, [], σ1) = .inl (.inl (1 + 8 * P + c)) → FrC A3 h1 h2 → (∃ p, p ≤ n ∧ hI h2 29 3 = nI p) → FrC A4 h2 h3 → hI h3 29 4 = (if hI h2 29 4 = 0 then nI (1 + 8 * P + c) else hI h2 29 4) → ∃ y7_, (hR h3 29 6) = (some y7_) ∧ (hK h3 y7_) = 8 ∧ CallV g mX7_openClause (d + 30) (0, 0) [Value.ref y7_] h3 (fun h28 => Lay h28 ∧ CallV g mX6_readSum (d + 30) (0, 0) [Value.ref 29] h28 (fun h29 => Lay h29 ∧ ∃ y27_, (hR h29 29 6) = (some y27_) ∧ (hK h29 y27_) = 8 ∧ CallV g mX7_openTest (d + 30) (0, 0) [Value.ref y27_] h29 (fun h31 => Lay h31 ∧ CallI g mX6_next (d + 30) [Value.ref 29] h31 (fun i33 h32 => Lay h32 ∧ ((hI h32 29 4) = 0 → CallI g mX6_takeWord (d + 30) [Value.ref 29, .float 2] h32 (fun i35 h34 => Lay h34 ∧ (i35 = (-1) → Sat g mX6_readRule (d + 31) (0, 0) (qI Q) 125 [Value.ref 29, .double 0, .double 0, .double 0, .int v, .double 0] [] h34) ∧ (¬ (i35 = (-1)) → CallV g mX6_readTest (d + 30) (0, 0) [Value.ref 29, .int 0] h34 (fun h36 => Lay h36 ∧ Sat g mX6_readRule (d + 31) (0, 0) (qI Q) 125 [Value.ref 29, .double 0, .double 0, .double 0, .int v, .double 0] [] h36)))) ∧ (¬ ((hI h32 29 4) = 0) → Sat g mX6_readRule (d + 31) (0, 0) (qI Q) 125 [Value.ref 29, .double 0, .double 0, .double 0, .int v, .double 0] [] h32))))) := by
    intro c h2 h3 v hc hs f2 hp2 f3 e4
    obtain ⟨p2, hp2, ep2⟩ := hp2
    have D2 := D1.mv f2 ep2
    rw [D2.2.1, if_pos rfl] at e4
    have D3 : CDf n r h3 (1 + 8 * P + c) := D2.ft n4 (by show se σ1 ≤ 400; omega) (by omega) (f3.wd (fun x k w => by unfold A4 at w; unfold A34; omega)) hp2 ((f3.I (by unfold A4; omega)).trans ep2) e4
    have F3 : FrC (AR r) h0 h3 := (F1.tr (fxr (f3x f2))).tr (fxr (f4x f3))
    refine c_begF (d := d + 23) (cr h3 F3) D3 (cl := i) ?_ hi (fun h' f' hf => hF h' _ (F3.tr f') (G1 _ ((GoX.ft hs).1 _ rfl)) hf)
    rw [f3.I (by unfold A4; omega), f2.I (by unfold A3; omega)]; exact e51
  refine c_takeWord (d := d + 25) (t := 1) C1.1 (by decide) (D1.1.trans (by rw [pP])) b2 (fun no => ⟨C1.1.1, fun _ => c_fail (c := 0) C1.1.1 (fun h2 f2 e2 => ⟨f2.lay C1.1.1, ?_⟩), fun z => absurd rfl z⟩) (fun kk p' yes => ?_)
  · have no : fW T n P [22] 0 = none := no
    rw [fW] at no
    by_cases c1 : mW T n (wS 22) P = true
    · rw [if_pos c1] at no; exact absurd no (by simp)
    rw [if_neg c1] at s6
    exact bad 0 h1 h2 _ (by omega) s6 (FrC.rf h1) ⟨P, b2, D1.1.trans (by rw [pP])⟩ f2 e2
  · have yes : fW T n P [22] 0 = some (kk, p') := yes
    rw [fW] at yes
    have c1 : mW T n (wS 22) P = true := Decidable.byContradiction (fun c1 => by rw [if_neg c1] at yes; exact absurd yes (by simp [fW]))
    rw [if_pos c1] at yes s6
    obtain ⟨rfl, rfl⟩ := Prod.mk.inj (Option.some.inj yes)
    rw [l19.2.2.2.1]
    have hle : P + 3 ≤ n := by have := mW_le c1 (by decide) (by decide); have := l19.2.2.2.1; omega
    have f2 : FrC A3 h1 (setI h1 29 3 (nI (P + 3))) := FrC.stI ⟨rfl, rfl⟩
    have p2 : hI (setI h1 29 3 (nI (P + 3))) 29 3 = nI (P + 3) := rdI
    generalize setI h1 29 3 (nI (P + 3)) = h2 at f2 p2 ⊢
    have F2 := F1.tr (fxr (f3x f2))
    have C2 := cr h2 F2
    refine ⟨C2.1.1, fun z => absurd z (nI_m1 (by omega)), fun _ => ⟨fun w12 => c_fail (c := 4) C2.1.1 (fun h3 f3 e3 => ⟨f3.lay C2.1.1, ?_⟩), fun w12 => ?_⟩⟩
    · have i12 : i = 12 := (nI_eq (a := i) (b := 12) (by omega) (by omega)).mp w12
      rw [if_pos (by omega)] at s6
      exact bad 4 h2 h3 _ (by omega) s6 f2 ⟨P + 3, hle, p2⟩ f3 e3
    · have i12 : i < 12 := by
        have : ¬ i = 12 := fun z => w12 (by rw [z]; rfl)
        omega
      rw [if_neg (by omega)] at s6
      have D2 := D1.mv f2 p2
      have I2 : Inv n (3, [], pu σ1 (P + 3)) := iv_lie I1 (by omega) (by omega) hle
      have e52 : hI h2 (126 + 5 * r) 5 = nI i := (f2.I (by unfold A3; omega)).trans e51
      have sAq : sA σ1 i = se σ1 := by rw [← hq]; exact I1.2.2.2.2.2
      refine ⟨_, C2.2.1, (Lru C2.1.1 C2.2.2).1, c_openClause C2 e52 (by omega) D2.2.2.2.1 (fun h3 cl3 hc3 hc30 f3 e53' X3 => ⟨f3.lay C2.1.1, ?_⟩)⟩
      obtain ⟨ecl, es3, ej3⟩ := X3 i12
      subst ecl
      have F3 := F2.tr (f3.wd (fun x k w => by unfold AR; omega))
      have C3 := cr h3 F3
      have D3 : CDs r h3 (pu σ1 (P + 3)) := D2.fr f3 (by omega) (by omega) (by omega) (by omega) (fun k => by omega) (fun k => by omega)
      have G3 : ∀ r, EnX T n (.inr (3, [], pu σ1 (P + 3))) r → EnX T n (.inr (6, [], σ00)) r := fun r hr => G1 r (GoY.st s6 r hr)
      have A3s : ∀ j, j ≤ i → hI h3 (129 + 5 * r) j = nI (sA σ1 j) := fun j hj => by
        by_cases c : j = i
        · subst c; rw [es3, sAq]
        · rw [ej3 j c, f2.I (by unfold A3; omega)]; exact (K1 j (by omega)).1
      have T3s : ∀ j, j < i → hI h3 (130 + 5 * r) j = nI (sT σ1 j) := fun j hj => by
        rw [f3.I (by omega), f2.I (by unfold A3; omega)]; exact (K1 j (by omega)).2.1
      refine c_readSum (d := d + 23) (x := .inr (3, [], pu σ1 (P + 3))) (S := []) (by show ¬ (2 ≤ 0 ∧ 0 ≤ 6); omega) C3 D3 ⟨rfl, rfl, I2⟩ (fun h4 y4 f4 D4 A4' G4 N4 => ⟨f4.lay C3.1.1, ?_⟩)
      have F4 := F3.tr (fxr f4)
      have C4 := cr h4 F4
      have e54 : hI h4 (126 + 5 * r) 5 = nI (i + 1) := (f4.I (by unfold AX; omega)).trans e53'
      -- 125, in a FAULT
      have endF : ∀ f h', FrC (AR r) h0 h' → CDf n r h' f → hI h' (126 + 5 * r) 5 = nI (i + 1) → EnX T n (.inr (6, [], σ00)) (.inl f) → Sat g mX6_readRule (d + 31) (0, 0) (qI Q) 125 [.ref 29, .double 0, .double 0, .double 0, .int (nI i), .double 0] [] h' := fun f h' F' D' e' E' => c_endF (d := d + 30) (cr h' F') D' e' (by omega) (fun h2 f2 hf => hF h2 f (F'.tr f2) E' hf)
      -- 125, well
      have endS : ∀ h' σ', FrC (AR r) h0 h' → CDs r h' σ' → Inv n (7, [], σ') → sq σ' = i → hI h' (126 + 5 * r) 5 = nI (i + 1) → (∀ j, j ≤ i → hI h' (129 + 5 * r) j = nI (sA σ' j) ∧ hI h' (130 + 5 * r) j = nI (sT σ' j)) → (∀ r, EnX T n (.inr (7, [], σ')) r → EnX T n (.inr (6, [], σ00)) r) → Sat g mX6_readRule (d + 31) (0, 0) (qI Q) 125 [.ref 29, .double 0, .double 0, .double 0, .int (nI i), .double 0] [] h' := by
        intro h' σ' F' D' I' q' e5' K' G'
        have C' := cr h' F'
        refine wX6_readRule_125 _ C'.1.1 ⟨_, C'.2.1, (Lru C'.1.1 C'.2.2).1, c_closeClause C' e5' (by omega) D'.2.2.2.1 (fun h5 f5 es5 ej5 => ⟨f5.lay C'.1.1, ?_⟩)⟩
        have F5 := F'.tr (f5.wd (fun x k w => by unfold AR; omega))
        have C5 := cr h5 F5
        have D5 : CDs r h5 (σ9 σ') := D'.fr (σ := σ') f5 (by omega) (by omega) (by omega) (by omega) (fun k => by omega) (fun k => by omega)
        have I5 : Inv n (9, [], σ9 σ') := iv_end I'
        have G5 : ∀ r, EnX T n (.inr (9, [], σ9 σ')) r → EnX T n (.inr (6, [], σ00)) r := fun r hr => G' r (GoY.st (c := (7, [], σ')) rfl r hr)
        have K5 : KQ r h5 (σ9 σ') := fun j hj => by
          have hj : j < sq σ' + 1 := hj
          have a1 : sA (σ9 σ') j = sA σ' j := if_neg (by omega)
          refine ⟨?_, ?_, ?_⟩
          · rw [ej5 j (by omega), a1]; exact (K' j (by omega)).1
          · rw [f5.I (by omega)]; exact (K' j (by omega)).2
          · by_cases c : j = i
            · subst c
              rw [es5]; exact congrArg nI (if_pos (by omega)).symm
            · rw [ej5 (j + 1) (by omega), show sA (σ9 σ') (j + 1) = sA σ' (j + 1) from if_neg (by omega)]
              exact (K' (j + 1) (by omega)).1
        have q5 : sq (σ9 σ') = i + 1 := by show sq σ' + 1 = i + 1; omega
        have e55 : hI h5 (126 + 5 * r) 5 = nI (i + 1) := (f5.I (by omega)).trans e5'
        generalize σ9 σ' = σ5 at *
        have hp5 : sp σ5 ≤ n := I5.1.1
        obtain ⟨c1, c2, c3⟩ := bl_rg (T := T) hp5
        refine ⟨fun _ => wX6_clauseListEnds_0 C5.1.1 (c_next C5.1 D5.1 hp5 (fun h6 f6 e6 => ⟨f6.lay C5.1.1, ?_⟩)), fun w => absurd D5.2.1 w⟩
        have Gb := GoX.bk (T := T) (n := n) (m := 9) (S := []) (fun σ h => by rw [st_9, if_pos h]) σ5
        have G6 : ∀ r, EnX T n (.inr (9, [], pu σ5 (bl T n (sp σ5)))) r → EnX T n (.inr (6, [], σ00)) r := fun r hr => G5 r (Gb.1 r hr)
        clear Gb
        have D6 := D5.mv f6 e6
        have I6 := iv_pu I5 c1 c2
        have F6 := F5.tr (fxr (f3x f6))
        have C6 := cr h6 F6
        have n326 : ¬ at_ T n (bl T n (sp σ5)) = 32 := fun w => c3 (at_32.mp w)
        have K6 : KQ r h6 (pu σ5 (bl T n (sp σ5))) := fun j hj => by rw [f6.I (by unfold A3; omega), f6.I (by unfold A3; omega), f6.I (by unfold A3; omega)]; exact K5 j hj
        have e56 : hI h6 (126 + 5 * r) 5 = nI (i + 1) := (f6.I (by unfold A3; omega)).trans e55
        have q6 : sq (pu σ5 (bl T n (sp σ5))) = i + 1 := q5
        rw [e6]
        generalize hP6 : bl T n (sp σ5) = P6 at *
        generalize hσ6 : pu σ5 P6 = σ6 at *
        have pP6 : sp σ6 = P6 := by rw [← hσ6]
        have e536 : se σ6 ≤ 253 := iv_e n4 I6
        have s9 := st_9 T n σ6
        rw [pP6, if_neg n326] at s9
        refine ⟨fun w => ⟨C6.1.1.to rfl rfl rfl, fun _ => ?_, fun z => absurd rfl z⟩, fun w => ⟨fun w2 => ⟨C6.1.1, fun z => absurd z (by decide), fun _ => ?_⟩, fun w2 => c_fail (c := 0) C6.1.1 (fun h7 f7 e7 => ⟨f7.lay C6.1.1, ⟨f7.lay C6.1.1, fun z => absurd z (by decide), fun _ => ?_⟩⟩)⟩⟩
        · have a59 : at_ T n P6 = 59 := (sg_eq (c := 59) hT (by omega)).mp w
          have hl : P6 < n := at_lt (T := T) (by omega)
          rw [if_neg (by omega), if_pos a59] at s9
          rw [nI_1, nI_1]
          have f7 : FrC A3 h6 (setI h6 29 3 (nI (P6 + 1))) := FrC.stI ⟨rfl, rfl⟩
          refine IH i12 _ (pu σ6 (P6 + 1)) (by have := iv_next I6 (by rw [pP6]; exact hl); rw [pP6] at this; exact this) ⟨q6, F6.tr (fxr (f3x f7)), D6.mv f7 rdI, fun j hj => ?_, ?_, fun r hr => G6 r (GoY.st s9 r hr)⟩
          · rw [f7.I (by unfold A3; omega), f7.I (by unfold A3; omega), f7.I (by unfold A3; omega)]; exact K6 j hj
          · rw [f7.I (by unfold A3; omega)]; exact e56
        · have a1000 : at_ T n P6 = 1000 := (sg_m1 hT).mp w2
          rw [if_pos a1000] at s9
          rw [D6.2.1]
          refine hY h6 σ6 F6 (G6 _ (EnX.fin s9)) I6 ⟨pg_ok n4 I6, ?_, fun c hc => ?_, fun j hj => ?_⟩
          · rw [e56]; exact congrArg nI q6.symm
          · rw [show 126 + 5 * r + 3 = 129 + 5 * r by omega, show 126 + 5 * r + 4 = 130 + 5 * r by omega]; exact K6 c hc
          · have eA : sA σ6 (sq σ6) = se σ6 := I6.2.2.2.2.2
            have hj : j < sA σ6 (sq σ6) := hj
            rw [show 126 + 5 * r + 1 = 127 + 5 * r by omega, show 126 + 5 * r + 2 = 128 + 5 * r by omega]
            exact D6.2.2.2.2 j (by omega)
        · have a59 : ¬ at_ T n P6 = 59 := fun z => w ((sg_eq (c := 59) hT (by omega)).mpr z)
          have a1000 : ¬ at_ T n P6 = 1000 := fun z => w2 ((sg_m1 hT).mpr z)
          rw [if_neg a1000, if_neg a59] at s9
          rw [D6.2.1, if_pos rfl] at e7
          rw [e7]
          exact hF h7 _ (F6.tr (fxr (f4x f7))) (G6 _ ((GoX.ft s9).1 _ rfl)) (by omega)
      rcases A4'.ms with ⟨fl, rfl⟩ | ⟨σ4, rfl, I4⟩
      · have D4 : CDf n r h4 fl := D4
        obtain ⟨s4, hs4, d24⟩ := D4.2.2.2
        refine ⟨_, C4.2.1, (Lru C4.1.1 C4.2.2).1, c_openTest C4 e54 i12 d24 (fun h5 f5 _ _ => ⟨f5.lay C4.1.1, ?_⟩)⟩
        have F5 := F4.tr (f5.wd (fun x k w => by unfold AR; omega))
        have D5 : CDf n r h5 fl := D4.fr f5 (by omega) (by omega) (by omega)
        obtain ⟨p, hp, d3⟩ := D5.1
        refine c_next (cr h5 F5).1 d3 hp (fun h6 f6 e6 => ⟨f6.lay (cr h5 F5).1.1, ?_⟩)
        have D6 := D5.mv f6 (bl_rg (T := T) hp).2.1 e6
        refine ⟨fun w => absurd w D6.nz, fun _ => endF fl h6 (F5.tr (fxr (f3x f6))) D6 ?_ (G3 _ (G4.1 _ rfl))⟩
        rw [f6.I (by unfold A3; omega), f5.I (by omega)]; exact e54
      · have D4 : CDs r h4 σ4 := D4
        have κ4 : σ4.2.2 = σ1.2.2 := G4.2.2
        have q4 : sq σ4 = i := by show σ4.2.2.1 = i; rw [κ4]; exact hq
        refine ⟨_, C4.2.1, (Lru C4.1.1 C4.2.2).1, c_openTest C4 e54 i12 D4.2.2.2.1 (fun h5 f5 es5 ej5 => ⟨f5.lay C4.1.1, ?_⟩)⟩
        have F5 := F4.tr (f5.wd (fun x k w => by unfold AR; omega))
        have C5 := cr h5 F5
        have D5 : CDs r h5 (σ8 σ4) := D4.fr (σ := σ4) f5 (by omega) (by omega) (by omega) (by omega) (fun k => by omega) (fun k => by omega)
        have I5 : Inv n (8, [], σ8 σ4) := iv_sumE I4
        have G5 : ∀ r, EnX T n (.inr (8, [], σ8 σ4)) r → EnX T n (.inr (6, [], σ00)) r := fun r hr => G3 r (G4.1 r (GoY.st (c := (5, [], σ4)) rfl r hr))
        have K5 : ∀ j, j ≤ i → hI h5 (129 + 5 * r) j = nI (sA (σ8 σ4) j) ∧ hI h5 (130 + 5 * r) j = nI (sT (σ8 σ4) j) := fun j hj => by
          have a1 : sA (σ8 σ4) j = sA σ1 j := by show σ4.2.2.2.1 j = σ1.2.2.2.1 j; rw [κ4]
          refine ⟨?_, ?_⟩
          · rw [f5.I (by omega), f4.I (by unfold AX; omega), a1]; exact A3s j hj
          · by_cases c : j = i
            · subst c
              rw [es5]; exact congrArg nI (if_pos q4.symm).symm
            · rw [ej5 j c, f4.I (by unfold AX; omega), T3s j (by omega)]
              have : sT (σ8 σ4) j = σ4.2.2.2.2 j := if_neg (by omega)
              rw [this, κ4]
        have q5 : sq (σ8 σ4) = i := q4
        have e55 : hI h5 (126 + 5 * r) 5 = nI (i + 1) := (f5.I (by omega)).trans e54
        generalize σ8 σ4 = σ5 at *
        have hp5 : sp σ5 ≤ n := I5.1.1
        obtain ⟨c1', c2, c3⟩ := bl_rg (T := T) hp5
        refine c_next C5.1 D5.1 hp5 (fun h6 f6 e6 => ⟨f6.lay C5.1.1, ?_⟩)
        have Gb := GoX.bk (T := T) (n := n) (m := 8) (S := []) (fun σ h => by rw [st_8, if_pos h]) σ5
        have G6 : ∀ r, EnX T n (.inr (8, [], pu σ5 (bl T n (sp σ5)))) r → EnX T n (.inr (6, [], σ00)) r := fun r hr => G5 r (Gb.1 r hr)
        clear Gb
        have D6 := D5.mv f6 e6
        have I6 := iv_pu I5 c1' c2
        have F6 := F5.tr (fxr (f3x f6))
        have C6 := cr h6 F6
        have n326 : ¬ at_ T n (bl T n (sp σ5)) = 32 := fun w => c3 (at_32.mp w)
        have K6 : ∀ j, j ≤ i → hI h6 (129 + 5 * r) j = nI (sA (pu σ5 (bl T n (sp σ5))) j) ∧ hI h6 (130 + 5 * r) j = nI (sT (pu σ5 (bl T n (sp σ5))) j) := fun j hj => by rw [f6.I (by unfold A3; omega), f6.I (by unfold A3; omega)]; exact K5 j hj
        have e56 : hI h6 (126 + 5 * r) 5 = nI (i + 1) := (f6.I (by unfold A3; omega)).trans e55
        have q6 : sq (pu σ5 (bl T n (sp σ5))) = i := q5
        generalize hP6 : bl T n (sp σ5) = P6 at *
        generalize hσ6 : pu σ5 P6 = σ6 at *
        have pP6 : sp σ6 = P6 := by rw [← hσ6]
        have s8 := st_8 T n σ6
        rw [pP6, if_neg n326] at s8
        refine ⟨fun _ => c_takeWord (d := d + 25) (t := 2) C6.1 (by decide) (D6.1.trans (by rw [pP6])) c2 (fun no => ⟨C6.1.1, fun _ => ?_, fun z => absurd rfl z⟩) (fun kk p' yes => ?_), fun w => absurd D6.2.1 w⟩
        · have no : fW T n P6 [23] 0 = none := no
          rw [fW] at no
          have nif : ¬ mW T n (wS 23) P6 = true := fun c => by rw [if_pos c] at no; exact absurd no (by simp)
          rw [if_neg nif] at s8
          exact endS h6 σ6 F6 D6 (iv_noif I6) q6 e56 K6 (fun r hr => G6 r (GoY.st s8 r hr))
        · have yes : fW T n P6 [23] 0 = some (kk, p') := yes
          rw [fW] at yes
          have yif : mW T n (wS 23) P6 = true := Decidable.byContradiction (fun c => by rw [if_neg c] at yes; exact absurd yes (by simp [fW]))
          rw [if_pos yif] at yes s8
          obtain ⟨rfl, rfl⟩ := Prod.mk.inj (Option.some.inj yes)
          rw [l19.2.2.2.2]
          have hle6 : P6 + 2 ≤ n := by have := mW_le yif (by decide) (by decide); have := l19.2.2.2.2; omega
          have f7 : FrC A3 h6 (setI h6 29 3 (nI (P6 + 2))) := FrC.stI ⟨rfl, rfl⟩
          have F7 := F6.tr (fxr (f3x f7))
          have C7 := cr _ F7
          refine ⟨C7.1.1, fun z => absurd z (nI_m1 (by omega)), fun _ => ?_⟩
          refine (c_facts (g := g) (T := T) (n := n) (r := r) 10 0 (by omega) d).2 _ (.inr (0, [17], pu σ6 (P6 + 2))) [17] _ C7 (D6.mv f7 rdI) ⟨rfl, rfl, iv_if I6 (by omega) hle6⟩ rfl (Or.inr rfl) (fun h8 y8 f8 D8 A8 G8 N8 => ⟨f8.lay C7.1.1, ?_⟩)
          have F8 := F7.tr (fxr f8)
          have e58 : hI h8 (126 + 5 * r) 5 = nI (i + 1) := by rw [f8.I (by unfold AX; omega), f7.I (by unfold A3; omega)]; exact e56
          have G8' : ∀ r, EnX T n y8 r → EnX T n (.inr (6, [], σ00)) r := fun r hr => G6 r (GoY.st s8 r (G8.1 r hr))
          rcases A8.ms with ⟨fl, rfl⟩ | ⟨σ7, rfl, I7⟩
          · exact endF fl h8 F8 D8 e58 (G8' _ rfl)
          · have κ7 : σ7.2.2 = σ6.2.2 := G8.2.2
            refine endS h8 σ7 F8 D8 (iv_tz I7) (by show σ7.2.2.1 = i; rw [κ7]; exact q6) e58 (fun j hj => ?_) (fun r hr => G8' r (GoY.st (c := (2, [17], σ7)) rfl r hr))
            rw [f8.I (by unfold AX; omega), f8.I (by unfold AX; omega), f7.I (by unfold A3; omega), f7.I (by unfold A3; omega)]
            have := K6 j hj
            refine ⟨this.1.trans ?_, this.2.trans ?_⟩
            · show nI (σ6.2.2.2.1 j) = nI (σ7.2.2.2.1 j); rw [κ7]
            · show nI (σ6.2.2.2.2 j) = nI (σ7.2.2.2.2 j); rw [κ7]
theorem c_ruleLoop {Q : Int32 → HP → Prop} (C0 : CT T n r h0) (hF : RuF T n r h0 Q) (hY : RuY T n r h0 Q) : ∀ k i, i + k = 12 → ∀ h σ, Inv n (6, [], σ) → RuS9 T n r h0 i h σ → Sat g mX6_readRule (d + 31) (0, 0) (qI Q) 21 [.ref 29, .double 0, .double 0, .double 0, .int (nI i), .double 0] [] h
  | 0, i, e, h, σ, I, H => c_ruleStep C0 hF hY (by omega) I H (fun w => by omega)
  | k + 1, i, e, h, σ, I, H => c_ruleStep C0 hF hY (by omega) I H (fun _ h' σ' I' H' => c_ruleLoop C0 hF hY k (i + 1) (by omega) h' σ' I' H')
end CR2
