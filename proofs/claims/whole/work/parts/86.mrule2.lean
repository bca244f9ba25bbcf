/-! the reference reads a RULE: its CLAUSES one by one; the class's and the reference's rule() -/
def AMr (r x k : Nat) : Prop := MZr r x k ∨ (x = 252 ∧ (k = 24 ∨ k = 27 ∨ k = 28)) ∨ (x = 279 ∧ k = r)
theorem inv00 (n : Nat) : Inv n (6, [], σ00) := ⟨⟨Nat.zero_le _, Nat.zero_le _, Nat.zero_le _⟩, Nat.zero_le _, ⟨Nat.zero_le _, Nat.zero_le _, trivial⟩, fun c hc => absurd hc (Nat.not_lt_zero _), rfl, rfl⟩
section MR2
variable {g : GT} {d n r : Nat} {T : Nat → Nat} {h0 : HP}
theorem m_ruleLoop {Q : Int32 → HP → Prop} (C0 : MT T n r h0) (e28 : hI h0 252 28 = nI r) (hF : ∀ h' f, FrC (AMr r) h0 h' → hI h' 252 24 = 0 → hI h' 252 28 = nI r → EnX T n (.inr (6, [], σ00)) (.inl f) → (1 ≤ f ∧ f < 10000) → Q (-2 - nI f) h') (hY : ∀ h' σ, FrC (AMr r) h0 h' → hI h' 252 24 = 0 → hI h' 252 28 = nI (r + 1) → EnX T n (.inr (6, [], σ00)) (.inr σ) → Inv n (9, [], σ) → MRule h' r (pgS σ) → Q (nI r) h') : ∀ k i, i + k = 12 → ∀ h σ, Inv n (6, [], σ) → sq σ = i → FrC (MZr r) h0 h → MDs r h σ → KM r h σ → hI h 252 30 = 0 → (∀ z, EnX T n (.inr (6, [], σ)) z → EnX T n (.inr (6, [], σ00)) z) → Sat g mX10_rule (d + 13) (0, 0) (qI Q) 27 [.ref 252, .int (nI i), .int 1] [] h := by
  have n4 := C0.1.2.1
  have r6 := C0.2.2.1
  have amr : ∀ h, FrC (MZr r) h0 h → FrC (AMr r) h0 h := fun h f => f.wd (fun x k w => Or.inl w)
  have finF : ∀ (v : Int32) f h, FrC (MZr r) h0 h → hI h 252 26 = nI f → (1 ≤ f ∧ f < 10000) → EnX T n (.inr (6, [], σ00)) (.inl f) → Sat g mX10_rule (d + 13) (0, 0) (qI Q) 27 [.ref 252, .int v, .int 0] [] h := by
    intro v f h F D26 hf E
    have C := C0.fz F
    refine wX10_rule_27 _ _ C.1.1 ⟨fun _ => ?_, fun z => absurd rfl z⟩
    rw [C.2.1, nI_clamp (n := r) (by omega), D26]
    refine ⟨vn (by omega) (by omega), fun z => absurd z (nI_ne0 (by omega) (by omega)), fun _ => ⟨fun z => absurd z (nI_nle (by omega) (by omega)), fun _ => ?_⟩⟩
    have e28' : hI h 252 28 = nI r := (F.I (by unfold MZr MY MX; omega)).trans e28
    refine hF _ f ((amr h F).tr (((FrC.stI (by unfold AMr; omega)).tr (FrC.stI (by unfold AMr; omega))).tr (FrC.stI (by unfold AMr; omega)))) ?_ ?_ E hf
    · rw [rdn (by omega), rdn (by omega), rdI]
    · rw [rdI, e28', Int32.add_zero]
  have step : ∀ i, i ≤ 12 → (i < 12 → ∀ h σ, Inv n (6, [], σ) → sq σ = i + 1 → FrC (MZr r) h0 h → MDs r h σ → KM r h σ → hI h 252 30 = 0 → (∀ z, EnX T n (.inr (6, [], σ)) z → EnX T n (.inr (6, [], σ00)) z) → Sat g mX10_rule (d + 13) (0, 0) (qI Q) 27 [.ref 252, .int (nI (i + 1)), .int 1] [] h) → ∀ h σ, Inv n (6, [], σ) → sq σ = i → FrC (MZr r) h0 h → MDs r h σ → KM r h σ → hI h 252 30 = 0 → (∀ z, EnX T n (.inr (6, [], σ)) z → EnX T n (.inr (6, [], σ00)) z) → Sat g mX10_rule (d + 13) (0, 0) (qI Q) 27 [.ref 252, .int (nI i), .int 1] [] h := by
    intro i hi IH h σ I hq F D K e30 G
    have C := C0.fz F
    refine wX10_rule_27 _ _ C.1.1 ⟨fun z => absurd z (by decide), fun _ => m_ruleClause (d := d) C D I hq K e30 (fun h1 f f1 D1 G1 => ⟨f1.lay C.1.1, ?_⟩) (fun i12 h1 σ1 f1 D1 I1 q1 e301 K1 E1 e1 G1 => ⟨f1.lay C.1.1, ?_⟩)⟩
    · have F1 := F.tr f1
      have C1 := C0.fz F1
      obtain ⟨p, hp, ep⟩ := D1.1
      refine m_goesOn (d := d + 10) C1.1 ep (by omega) (fun _ h2 f2 => ⟨f2.lay C1.1.1, ?_⟩) (fun z => absurd z D1.nz) (fun z => absurd z D1.nz) (fun z => absurd z D1.nz)
      exact finF _ f h2 (F1.tr (myz (mxy (m5x f2)))) ((f2.I (by unfold A25; omega)).trans D1.2.1) D1.2.2 (G _ (G1 _ rfl))
    · have F1 := F.tr f1
      have C1 := C0.fz F1
      have D5 : MDs r h1 (σ9 σ1) := D1
      have I5 : Inv n (9, [], σ9 σ1) := iv_end I1
      have G5 : ∀ z, EnX T n (.inr (9, [], σ9 σ1)) z → EnX T n (.inr (6, [], σ00)) z := fun z hz => G z (G1 z (GoY.st (c := (7, [], σ1)) rfl z hz))
      have K5 : KM r h1 (σ9 σ1) := fun j hj => by
        have hj : j < sq σ1 + 1 := hj
        refine ⟨?_, (K1 j (by omega)).2, ?_⟩
        · rw [show sA (σ9 σ1) j = sA σ1 j from if_neg (by omega)]; exact (K1 j (by omega)).1
        · by_cases c : j = i
          · subst c
            rw [e1]; exact congrArg nI (if_pos (by omega)).symm
          · rw [show sA (σ9 σ1) (j + 1) = sA σ1 (j + 1) from if_neg (by omega)]; exact E1 j (by omega)
      have q5 : sq (σ9 σ1) = i + 1 := by show sq σ1 + 1 = i + 1; omega
      generalize σ9 σ1 = σ5 at *
      have hp5 : sp σ5 ≤ n := I5.1.1
      obtain ⟨c1, c2, c3⟩ := bl_rg (T := T) hp5
      have Gb := (GoX.bk (T := T) (n := n) (m := 9) (S := []) (fun σ h => by rw [st_9, if_pos h]) σ5).1
      have n32 : ¬ at_ T n (bl T n (sp σ5)) = 32 := fun w => c3 (at_32.mp w)
      have I6 := iv_pu I5 c1 c2
      have s9 := st_9 T n (pu σ5 (bl T n (sp σ5)))
      rw [show sp (pu σ5 (bl T n (sp σ5))) = bl T n (sp σ5) from rfl, if_neg n32] at s9
      refine m_goesOn (d := d + 10) C1.1 D5.1 (by omega) (fun z => absurd D5.2.1 z) (fun _ aE h2 f2 => ⟨f2.lay C1.1.1, ?_⟩) (fun _ aS h2 f2 e2 => ⟨f2.lay C1.1.1, ?_⟩) (fun _ aN aS h2 f2 e2 => ⟨f2.lay C1.1.1, ?_⟩)
      · rw [if_pos aE] at s9
        have F2 := F1.tr (myz (mxy (m5x f2)))
        have C2 := C0.fz F2
        have e26 : hI h2 252 26 = 0 := (f2.I (by unfold A25; omega)).trans D5.2.1
        have e28' : hI h2 252 28 = nI r := (F2.I (by unfold MZr MY MX; omega)).trans e28
        refine wX10_rule_27 _ _ C2.1.1 ⟨fun _ => ?_, fun z => absurd rfl z⟩
        rw [C2.2.1, nI_clamp (n := r) (by omega), e26, e28', nI_1, nI_pred, nI_1]
        refine ⟨vn (by omega) (by omega), fun _ => ⟨fun _ => ?_, fun z => absurd (by decide) z⟩, fun z => absurd rfl z⟩
        have f3 : FrC (fun x k => (x = 252 ∧ (k = 24 ∨ k = 28)) ∨ (x = 279 ∧ k = r)) h2 (setI (setI (setI h2 252 24 0) 279 r (nI (i + 1))) 252 28 (nI (r + 1))) := ((FrC.stI (by omega)).tr (FrC.stI (by omega))).tr (FrC.stI (by omega))
        have g24 : hI (setI (setI (setI h2 252 24 0) 279 r (nI (i + 1))) 252 28 (nI (r + 1))) 252 24 = 0 := by rw [rdn (by omega), rdn (by omega), rdI]
        have g28 : hI (setI (setI (setI h2 252 24 0) 279 r (nI (i + 1))) 252 28 (nI (r + 1))) 252 28 = nI (r + 1) := rdI
        have g279 : hI (setI (setI (setI h2 252 24 0) 279 r (nI (i + 1))) 252 28 (nI (r + 1))) 279 r = nI (i + 1) := by rw [rdn (by omega), rdI]
        generalize setI (setI (setI h2 252 24 0) 279 r (nI (i + 1))) 252 28 (nI (r + 1)) = h3 at f3 g24 g28 g279 ⊢
        have eA : sA σ5 (sq σ5) = se σ5 := I6.2.2.2.2.2
        refine hY h3 (pu σ5 (bl T n (sp σ5))) ((amr h2 F2).tr (f3.wd (fun x k w => by unfold AMr; omega))) g24 g28 (G5 _ (Gb _ (EnX.fin s9))) I6 ⟨r6, pg_ok n4 I6, ?_, fun c hc => ?_, fun j hj => ?_⟩
        · rw [g279]; exact congrArg nI q5.symm
        · have hc : c < sq σ5 := hc
          rw [f3.I (by omega), f3.I (by omega), f3.I (by omega), f2.I (by unfold A25; omega), f2.I (by unfold A25; omega), f2.I (by unfold A25; omega)]
          exact K5 c hc
        · have hj : j < sA σ5 (sq σ5) := hj
          rw [f3.I (by omega), f3.I (by omega), f2.I (by unfold A25; omega), f2.I (by unfold A25; omega)]
          exact D5.2.2.2.2 j (by omega)
      · have hl : bl T n (sp σ5) < n := at_lt (T := T) (by omega)
        rw [if_neg (by omega), if_pos aS] at s9
        have i12' : i < 12 := i12
        rw [nI_1]
        refine IH i12' h2 (pu σ5 (bl T n (sp σ5) + 1)) (by have := iv_next I6 hl; exact this) q5 (F1.tr (myz (mxy (m5x f2)))) (D5.mv f2 e2) (fun j hj => ?_) (by rw [f2.I (by unfold A25; omega)]; exact e301) (fun z hz => G5 z (Gb z (GoY.st s9 z hz)))
        rw [f2.I (by unfold A25; omega), f2.I (by unfold A25; omega), f2.I (by unfold A25; omega)]; exact K5 j hj
      · rw [if_neg aN, if_neg aS] at s9
        exact finF _ _ h2 (F1.tr (myz (mxy (m56x f2)))) e2 (by omega) (G5 _ (Gb _ ((GoX.ft s9).1 _ rfl)))
  intro k
  induction k with
  | zero => intro i hi; exact step i (by omega) (fun w => by omega)
  | succ k ih => intro i hi; exact step i (by omega) (fun _ => ih (i + 1) (by omega))
/-- the text on the TAPE, as the reference has it -/
theorem m_rule {cnt : Nat} {Q : Int32 → HP → Prop} (C : MT0 T n h0) (e33 : hI h0 252 33 = 12) (hc : cnt ≤ 6) (e28 : hI h0 252 28 = nI cnt) (h6 : cnt = 6 → Q (-1) h0) (hF : cnt < 6 → ∀ h' f, FrC (AMr cnt) h0 h' → hI h' 252 24 = 0 → hI h' 252 28 = nI cnt → EnX T n (.inr (6, [], σ00)) (.inl f) → (1 ≤ f ∧ f < 10000) → Q (-2 - nI f) h') (hY : cnt < 6 → ∀ h' σ, FrC (AMr cnt) h0 h' → hI h' 252 24 = 0 → hI h' 252 28 = nI (cnt + 1) → EnX T n (.inr (6, [], σ00)) (.inr σ) → Inv n (9, [], σ) → MRule h' cnt (pgS σ) → Q (nI cnt) h') : CallI g mX10_rule (d + 13) [.ref 252] h0 Q := by
  have n4 := C.2.1
  refine wX10_rule_0 C.1 ?_
  rw [e28]
  refine ⟨fun w => h6 ((nI_eq (a := cnt) (b := 6) (by omega) (by omega)).mp w), fun w => ?_⟩
  have c6 : cnt < 6 := by
    have : ¬ cnt = 6 := fun z => w (by rw [z]; rfl)
    omega
  have f1 : FrC (fun x k => x = 252 ∧ (k = 27 ∨ k = 25 ∨ k = 26 ∨ k = 29 ∨ k = 30 ∨ k = 31)) h0 (setI (setI (setI (setI (setI (setI h0 252 27 (nI cnt)) 252 25 0) 252 26 0) 252 29 0) 252 30 0) 252 31 0) := (((((FrC.stI (by omega)).tr (FrC.stI (by omega))).tr (FrC.stI (by omega))).tr (FrC.stI (by omega))).tr (FrC.stI (by omega))).tr (FrC.stI (by omega))
  have L1 : Lay (setI h0 252 27 (nI cnt)) := C.1.to rfl rfl rfl
  refine wX10_starts_0 L1 ⟨f1.lay C.1, ?_⟩
  have g25 : hI (setI (setI (setI (setI (setI (setI h0 252 27 (nI cnt)) 252 25 0) 252 26 0) 252 29 0) 252 30 0) 252 31 0) 252 25 = 0 := rfl
  have g26 : hI (setI (setI (setI (setI (setI (setI h0 252 27 (nI cnt)) 252 25 0) 252 26 0) 252 29 0) 252 30 0) 252 31 0) 252 26 = 0 := rfl
  have g27 : hI (setI (setI (setI (setI (setI (setI h0 252 27 (nI cnt)) 252 25 0) 252 26 0) 252 29 0) 252 30 0) 252 31 0) 252 27 = nI cnt := rfl
  have g29 : hI (setI (setI (setI (setI (setI (setI h0 252 27 (nI cnt)) 252 25 0) 252 26 0) 252 29 0) 252 30 0) 252 31 0) 252 29 = 0 := rfl
  have g30 : hI (setI (setI (setI (setI (setI (setI h0 252 27 (nI cnt)) 252 25 0) 252 26 0) 252 29 0) 252 30 0) 252 31 0) 252 30 = 0 := rfl
  have g31 : hI (setI (setI (setI (setI (setI (setI h0 252 27 (nI cnt)) 252 25 0) 252 26 0) 252 29 0) 252 30 0) 252 31 0) 252 31 = 0 := rfl
  generalize setI (setI (setI (setI (setI (setI h0 252 27 (nI cnt)) 252 25 0) 252 26 0) 252 29 0) 252 30 0) 252 31 0 = h1 at f1 g25 g26 g27 g29 g30 g31 ⊢
  have C1 : MT T n cnt h1 := ⟨C.fr f1 (fun k w => by omega) (fun w => by omega), g27, c6, (f1.I (by omega)).trans e33⟩
  have a1 : FrC (AMr cnt) h0 h1 := f1.wd (fun x k w => by unfold AMr MZr MY MX; omega)
  refine m_ruleLoop (d := d) C1 ((f1.I (by omega)).trans e28) (fun h' f F e24 e28 E hf => hF c6 h' f (a1.tr F) e24 e28 E hf) (fun h' σ F e24 e28 E I M => hY c6 h' σ (a1.tr F) e24 e28 E I M) 12 0 (by omega) h1 σ00 (inv00 n) rfl (FrC.rf h1) ⟨g25, g26, g31, g29, fun i hi => absurd hi (Nat.not_lt_zero _)⟩ (fun i hi => absurd hi (Nat.not_lt_zero _)) g30 (fun z hz => hz)
end MR2
