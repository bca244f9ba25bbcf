/-! the reference reads FACTS and TESTS: the loop -/
section MT2
variable {g : GT} {d n r p : Nat} {T : Nat → Nat} {h : HP} {x : CX} {S : List Nat}
theorem MDs.fo {A : Nat → Nat → Prop} {h' : HP} {σ : PS} (D : MDs r h σ) (f : FrC A h h') (h1 : ∀ k, k = 25 ∨ k = 26 ∨ k = 29 ∨ k = 31 → ¬ A 252 k) (h2 : ∀ k, ¬ A 277 k) (h3 : ∀ k, ¬ A 278 k) : MDs r h' σ :=
  ⟨(f.I (h1 _ (by omega))).trans D.1, (f.I (h1 _ (by omega))).trans D.2.1, (f.I (h1 _ (by omega))).trans D.2.2.1, (f.I (h1 _ (by omega))).trans D.2.2.2.1, fun i hi => by rw [f.I (h2 _), f.I (h3 _)]; exact D.2.2.2.2 i hi⟩
/-- one OR is answered -/
theorem m_answersO {σ : PS} {y : Nat} {Q : HP → Prop} (C : MT T n r h) (D : MDs r h σ) (he : se σ < 300) (H : MOp h (13 :: y :: S)) (hS : Sh (13 :: y :: S)) (hc : cn (13 :: y :: S) ≤ 400) (hy : y = 15 ∨ y = 17) (hQ : ∀ h', FrC (MY r) h h' → MDs r h' (em σ 13 0) → MOp h' (y :: S) → Q h') : CallV g mX10_answers (d + 1) (0, 0) [.ref 252, .int 11] h Q := by
  have c1 : cn (13 :: y :: S) = cn (y :: S) + 1 := by rw [cn, if_pos (by decide)]; omega
  have c2 : dpS (13 :: y :: S) = dpS (y :: S) := by rw [dpS, if_neg (by decide)]; omega
  refine wX10_answers_0 _ C.1.1 (m_top C.1.1 H hS hc (fun t2 => ⟨C.1.1, fun w => ⟨fun _ => ?_, fun z => absurd D.2.1 z⟩, fun w => absurd rfl w⟩) (fun t2 => absurd t2 (by decide)) (Or.inl (by decide)))
  refine m_entryS (k := 13) (v := 0) C D he (fun h3 f3 D3 => ⟨f3.lay C.1.1, fun z => absurd z (by decide), fun _ => ?_⟩)
  have e32 : hI h3 252 32 = nI (cn (y :: S) + 1) := (f3.I (by unfold MX; omega)).trans (H.2.1.trans (by rw [c1]))
  have e30 : hI h3 252 30 = nI (dpS (y :: S)) := (f3.I (by unfold MX; omega)).trans (H.1.trans (by rw [c2]))
  have f4 : FrC (fun x k => x = 252 ∧ (k = 30 ∨ k = 32)) h3 (setI (setI h3 252 32 ((hI h3 252 32) - 1)) 252 30 (hI h3 252 30 - 0)) := (FrC.stI (by omega)).tr (FrC.stI (by omega))
  have e30' : hI (setI (setI h3 252 32 ((hI h3 252 32) - 1)) 252 30 (hI h3 252 30 - 0)) 252 30 = nI (dpS (y :: S)) := by rw [rdI, e30]; exact Int32.sub_zero _
  have e32' : hI (setI (setI h3 252 32 ((hI h3 252 32) - 1)) 252 30 (hI h3 252 30 - 0)) 252 32 = nI (cn (y :: S)) := by rw [rdn (by omega), rdI, e32, nI_pred]
  generalize setI (setI h3 252 32 ((hI h3 252 32) - 1)) 252 30 (hI h3 252 30 - 0) = h4 at f4 e30' e32' ⊢
  have F4 : FrC (MY r) h h4 := (mxy f3).tr (f4.wd (fun x k w => by unfold MY; omega))
  have H4 : MOp h4 (y :: S) := ⟨e30', e32', H.2.2.2.to (fun k _ => by rw [f4.I (by omega), f3.I (by unfold MX; omega)])⟩
  have D4 : MDs r h4 (em σ 13 0) := D3.fo f4 (fun k w => by omega) (fun k => by omega) (fun k => by omega)
  refine m_answersN (y := y) (S := S) (C.fy F4) H4 hS.2 (by omega) (by omega) (fun t => ?_) (by decide) (hQ h4 F4 D4 H4)
  have : y = 15 := by omega
  subst this
  decide
theorem m_fact {σ : PS} {Q : Int32 → HP → Prop} (C : MT T n r h) (D : MDs r h σ) (I : Inv n (0, S, σ)) (H : MOp h S) (hF : ∀ h' f v, FrC (MY r) h h' → MDf n h' f → GoX T n (.inr (0, S, σ)) (.inl f) → Q v h') (h0 : ∀ h' y σ', FrC (MY r) h h' → MDs r h' σ' → Inv n (0, y :: S, σ') → MOp h' (y :: S) → GoX T n (.inr (0, S, σ)) (.inr (0, y :: S, σ')) → sp σ < sp σ' → Q 0 h') (hC : ∀ h' σ', FrC (MY r) h h' → MDs r h' σ' → Inv n (1, S, σ') → MOp h' S → GoX T n (.inr (0, S, σ)) (.inr (1, S, σ')) → Q 1 h') : CallI g mX10_fact (d + 10) [.ref 252] h Q := by
  have n4 := C.1.2.1
  have hT := C.1.2.2.2.2
  have hp : sp σ ≤ n := I.1.1
  obtain ⟨b1, b2, b3⟩ := bl_rg (T := T) hp
  refine wX10_fact_0 C.1.1 (m_blanks C.1 D.1 (by omega) (fun h1 f1 e1 => ⟨f1.lay C.1.1, ?_⟩))
  have G1 := GoX.bk (T := T) (n := n) (m := 0) (S := S) (fun σ h => sk0 S σ h) σ
  have D1 := D.mv f1 e1
  have I1 := iv_pu I b1 b2
  have C1 := C.fr (m5x f1)
  have H1 := H.to (m5x (r := r) f1)
  have n32 : ¬ at_ T n (bl T n (sp σ)) = 32 := fun w => b3 (at_32.mp w)
  generalize hP : bl T n (sp σ) = P at *
  generalize hσ : pu σ P = σ1 at *
  have pP : sp σ1 = P := by rw [← hσ]
  have s0 := st_0 T n S σ1
  rw [pP, if_neg n32] at s0
  have hd : dpS S ≤ 10 := I.2.2.1.2.1
  have hcn : cn S ≤ sp σ := I.2.2.1.1
  have l3 := l19.2.2.1
  refine m_stood (d := d + 4) (t := 18) C1.1 (by decide) e1 (by omega) ⟨C1.1.1, fun w => ?_, fun w => ?_⟩
  · have nw : ¬ mW T n (wS 18) P = true := fun c => by
      rw [if_pos (show mW T n (wS (18 : UInt32).toNat) P = true from c)] at w; exact absurd w (by decide)
    rw [if_neg nw] at s0
    refine m_sign C1.1 e1 (by omega) ⟨C1.1.1, fun w91 => ?_, fun w91 => ?_⟩
    · have a91 : at_ T n P = 91 := (sg_eq (c := 91) hT (by omega)).mp w91
      have hl : P < n := at_lt (T := T) (by omega)
      rw [if_pos a91] at s0
      refine m_opensW (y := 15) (d := d + 8) (Or.inr rfl) C1.1.1 H1 hd (by omega) e1 D1.2.1 (by omega) (fun w10 h2 f2 e26 H2 => ⟨f2.lay C1.1.1, ?_⟩) (fun w10 h2 f2 e26 => ⟨f2.lay C1.1.1, ?_⟩)
      · rw [if_neg (by omega)] at s0
        have e25 : hI h2 252 25 = nI P := (f2.I (by unfold AO; omega)).trans e1
        rw [e25, nI_1]
        have f3 : FrC A25 h2 (setI h2 252 25 (nI (P + 1))) := FrC.stI ⟨rfl, rfl⟩
        have D2 : MDs r h2 σ1 := ⟨e25.trans (by rw [pP]), e26, (f2.I (by unfold AO; omega)).trans D1.2.2.1, (f2.I (by unfold AO; omega)).trans D1.2.2.2.1, fun i hi => by rw [f2.I (by unfold AO; omega), f2.I (by unfold AO; omega)]; exact D1.2.2.2.2 i hi⟩
        exact h0 _ 15 (pu σ1 (P + 1)) (((mxy (m5x f1)).tr (f2.wd (fun x k w => by unfold AO at w; unfold MY MX; omega))).tr (mxy (m5x f3))) (D2.mv f3 rdI) (iv_in I1 (by omega) (Or.inr ⟨rfl, by omega⟩) hl) (H2.to (m5x (r := r) f3)) (G1.tr (GoX.st s0 (by show sp σ1 ≤ P + 1; omega))) (by show sp σ < P + 1; omega)
      · rw [if_pos (by omega)] at s0
        have e25 : hI h2 252 25 = nI P := (f2.I (by unfold AO; omega)).trans e1
        rw [e25, nI_1]
        have f3 : FrC A25 h2 (setI h2 252 25 (nI (P + 1))) := FrC.stI ⟨rfl, rfl⟩
        exact hF _ _ _ (((mxy (m5x f1)).tr (f2.wd (fun x k w => by unfold AO at w; unfold MY MX; omega))).tr (mxy (m5x f3))) ⟨⟨P + 1, by omega, rdI⟩, (f3.I (by unfold A25; omega)).trans e26, by omega, by omega⟩ (G1.tr (GoX.ft s0))
    · have a91 : ¬ at_ T n P = 91 := fun z => w91 ((sg_eq (c := 91) hT (by omega)).mpr z)
      rw [if_neg a91] at s0
      refine m_compared (d := d) (x := .inr (3, 16 :: S, σ1)) (S := S) C1 D1 ⟨rfl, rfl, iv_fact I1⟩ (fun h2 y2 f2 D2 A2 G2 => ⟨f2.lay C1.1.1, ?_⟩)
      have G2' := (G1.tr (GoX.st s0 (Nat.le_refl _))).tr G2
      rcases A2.ms with ⟨f, rfl⟩ | ⟨σ2, rfl, I2⟩
      · exact hF h2 f 1 ((mxy (m5x f1)).tr (mxy f2)) D2 G2'
      · exact hC h2 σ2 ((mxy (m5x f1)).tr (mxy f2)) D2 I2 (H1.to f2) G2'
  · have yw : mW T n (wS 18) P = true := Decidable.byContradiction (fun c => w (by rw [if_neg (show ¬ mW T n (wS (18 : UInt32).toNat) P = true from c)]))
    have hle : P + 3 ≤ n := by have := mW_le yw (by decide) (by decide); omega
    rw [if_pos yw] at s0
    refine m_opensW (y := 14) (d := d + 8) (Or.inl rfl) C1.1.1 H1 hd (by omega) e1 D1.2.1 (by omega) (fun w10 h2 f2 e26 H2 => ⟨f2.lay C1.1.1, ?_⟩) (fun w10 h2 f2 e26 => ⟨f2.lay C1.1.1, ?_⟩)
    · rw [if_neg (by omega)] at s0
      have e25 : hI h2 252 25 = nI P := (f2.I (by unfold AO; omega)).trans e1
      rw [e25, show nI P + 3 = nI (P + 3) from nI_add P 3]
      have f3 : FrC A25 h2 (setI h2 252 25 (nI (P + 3))) := FrC.stI ⟨rfl, rfl⟩
      have D2 : MDs r h2 σ1 := ⟨e25.trans (by rw [pP]), e26, (f2.I (by unfold AO; omega)).trans D1.2.2.1, (f2.I (by unfold AO; omega)).trans D1.2.2.2.1, fun i hi => by rw [f2.I (by unfold AO; omega), f2.I (by unfold AO; omega)]; exact D1.2.2.2.2 i hi⟩
      exact h0 _ 14 (pu σ1 (P + 3)) (((mxy (m5x f1)).tr (f2.wd (fun x k w => by unfold AO at w; unfold MY MX; omega))).tr (mxy (m5x f3))) (D2.mv f3 rdI) (iv_in I1 (by omega) (Or.inl ⟨rfl, by omega⟩) hle) (H2.to (m5x (r := r) f3)) (G1.tr (GoX.st s0 (by show sp σ1 ≤ P + 3; omega))) (by show sp σ < P + 3; omega)
    · rw [if_pos (by omega)] at s0
      have e25 : hI h2 252 25 = nI P := (f2.I (by unfold AO; omega)).trans e1
      rw [e25, show nI P + 3 = nI (P + 3) from nI_add P 3]
      have f3 : FrC A25 h2 (setI h2 252 25 (nI (P + 3))) := FrC.stI ⟨rfl, rfl⟩
      exact hF _ _ _ (((mxy (m5x f1)).tr (f2.wd (fun x k w => by unfold AO at w; unfold MY MX; omega))).tr (mxy (m5x f3))) ⟨⟨P + 3, by omega, rdI⟩, (f3.I (by unfold A25; omega)).trans e26, by omega, by omega⟩ (G1.tr (GoX.ft s0))
/-- a state of the loop -/
def TLs (T : Nat → Nat) (n r : Nat) (h h' : HP) (x : CX) (m : Nat) (S : List Nat) (σ : PS) : Prop := FrC (MY r) h h' ∧ MDs r h' σ ∧ Inv n (m, S, σ) ∧ MOp h' S ∧ GoX T n x (.inr (m, S, σ))
theorem m_test {Q : HP → Prop} {σ0 : PS} (C : MT T n r h) (D : MDs r h σ0) (I : Inv n (0, [17], σ0)) (e30 : hI h 252 30 = 0) (hF : ∀ h' f, FrC (MY r) h h' → MDf n h' f → GoX T n (.inr (0, [17], σ0)) (.inl f) → Q h') (hY : ∀ h' σ', FrC (MY r) h h' → MDs r h' σ' → Inv n (2, [17], σ') → hI h' 252 30 = 0 → GoX T n (.inr (0, [17], σ0)) (.inr (2, [17], σ')) → Q h') : CallV g mX10_test (d + 11) (0, 0) [.ref 252] h Q := by
  have n4 := C.1.2.1
  have hT := C.1.2.2.2.2
  have flt_ : ∀ h' f v w, FrC (MY r) h h' → MDf n h' f → GoX T n (.inr (0, [17], σ0)) (.inl f) → ¬ w = 0 → Sat g mX10_test (d + 11) (0, 0) (qV Q) 9 [.ref 252, .int v, .int w, .double 0, .double 0] [] h' := fun h' f v w F D G hw => wX10_test_9 _ _ (C.fy F).1.1 ⟨fun z => absurd z hw, fun _ => ⟨fun z => absurd z D.nz, fun _ => hF h' f F D G⟩⟩
  have key : ∀ k, (∀ h' S σ, 2 * (n - sp σ) + 1 < k → TLs T n r h h' (.inr (0, [17], σ0)) 0 S σ → Sat g mX10_test (d + 11) (0, 0) (qV Q) 9 [.ref 252, .int 1, .int 1, .double 0, .double 0] [] h') ∧ (∀ h' S σ, 2 * (n - sp σ) < k → TLs T n r h h' (.inr (0, [17], σ0)) 1 S σ → Sat g mX10_test (d + 11) (0, 0) (qV Q) 9 [.ref 252, .int 0, .int 1, .double 0, .double 0] [] h') := by
    intro k
    induction k with
    | zero => exact ⟨fun _ _ _ w => by omega, fun _ _ _ w => by omega⟩
    | succ k ih =>
      refine ⟨fun h' S σ hk H => ?_, fun h' S σ hk H => ?_⟩
      · obtain ⟨F, D', I', O, G⟩ := H
        have C' := C.fy F
        refine wX10_test_9 _ _ C'.1.1 ⟨fun z => absurd z (by decide), fun _ => ⟨fun _ => ⟨fun z => absurd z (by decide), fun _ => m_fact (d := d) C' D' I' O (fun h2 f v F2 D2 G2 => ⟨F2.lay C'.1.1, fun _ => flt_ h2 f _ _ (F.tr F2) D2 (G.tr G2) (by decide), fun _ => flt_ h2 f _ _ (F.tr F2) D2 (G.tr G2) (by decide)⟩) (fun h2 y σ2 F2 D2 I2 O2 G2 hlt => ⟨F2.lay C'.1.1, fun _ => ?_, fun z => absurd rfl z⟩) (fun h2 σ2 F2 D2 I2 O2 G2 => ⟨F2.lay C'.1.1, fun z => absurd z (by decide), fun _ => ?_⟩)⟩, fun z => absurd D'.2.1 z⟩⟩
        · have : sp σ2 ≤ n := I2.1.1
          exact ih.1 h2 (y :: S) σ2 (by omega) ⟨F.tr F2, D2, I2, O2, G.tr G2⟩
        · have : sp σ2 ≤ n := I2.1.1
          have : sp σ ≤ sp σ2 := G2.2.1
          exact ih.2 h2 S σ2 (by omega) ⟨F.tr F2, D2, I2, O2, G.tr G2⟩
      · obtain ⟨F, D', I', O, G⟩ := H
        have C' := C.fy F
        have hp : sp σ ≤ n := I'.1.1
        obtain ⟨b1, b2, b3⟩ := bl_rg (T := T) hp
        refine wX10_test_9 _ _ C'.1.1 ⟨fun z => absurd z (by decide), fun _ => ⟨fun _ => ⟨fun _ => ?_, fun z => absurd rfl z⟩, fun z => absurd D'.2.1 z⟩⟩
        refine m_answers (y := 14) (P := sp σ) (d := d + 9) (Or.inl rfl) S h' σ C' D' I' O (fun h1 S1 σ1 F1 D1 I1 O1 G1 ep1 hn1 _ _ => ⟨F1.lay C'.1.1, ?_⟩)
        have C1 := C'.fy F1
        refine m_blanks C1.1 D1.1 (by show sp σ < 1000; omega) (fun h2 f2 e2 => ⟨f2.lay C1.1.1, ?_⟩)
        have e2 : hI h2 252 25 = nI (bl T n (sp σ)) := e2
        have C2 := C1.fr (m5x f2)
        have D2 : MDs r h2 (pu σ1 (bl T n (sp σ))) := MDs.mv (σ := pu σ1 (sp σ)) D1 f2 e2
        have O2 := O1.to (m5x (r := r) f2)
        have F2 := (F.tr F1).tr (mxy (m5x f2))
        have n32 : ¬ at_ T n (bl T n (sp σ)) = 32 := fun w => b3 (at_32.mp w)
        have hPb : bl T n (sp σ1) = bl T n (sp σ) := by rw [ep1]
        generalize hP : bl T n (sp σ) = P at *
        have G1 := G.tr G1
        refine m_stood (d := d + 5) (t := 19) C2.1 (by decide) e2 (by omega) ⟨C2.1.1, m_stood (d := d + 5) (t := 20) C2.1 (by decide) e2 (by omega) ⟨C2.1.1, ?_⟩⟩
        refine m_answers (y := 12) (P := P) (d := d + 9) (Or.inr rfl) S1 h2 σ1 C2 D2 I1 O2 (fun h3 S3 σ3 F3 D3 I3 O3 G3 ep3 hn3 _ hz3 => ⟨F3.lay C2.1.1, ?_⟩)
        have C3 := C2.fy F3
        have G3 := G1.tr G3
        have F3' := F2.tr F3
        -- the stack is now OR, a bracket, or empty
        have t3 : (12 ≤ S3.headD 0 ∧ S3.headD 0 ≤ 15) ∨ S3.headD 0 = 17 := I3.2.2.2.2.2.1
        have hy3 : S3.headD 0 = 13 ∨ S3.headD 0 = 15 ∨ S3.headD 0 = 17 := by
          have h14 : ¬ S3.headD 0 = 14 := by
            rcases hz3 rfl with ⟨z1, z2⟩ | z
            · obtain ⟨S1', rfl⟩ := hd_c z1 (by decide)
              have o : stkT 12 (S1'.headD 0) := I1.2.2.1.2.2.1
              have z2 : S3 = S1' := z2
              rw [z2]
              unfold stkT at o
              omega
            · rw [z]; exact hn1
          have h12 : ¬ S3.headD 0 = 12 := hn3
          omega
        obtain ⟨y3, eh3⟩ : ∃ y3, S3.headD 0 = y3 := ⟨_, rfl⟩
        rw [eh3] at hy3
        obtain ⟨S4, rfl⟩ := hd_c eh3 (by omega)
        have G3b : GoX T n (.inr (0, [17], σ0)) (.inr (1, y3 :: S4, pu σ3 P)) := by
          have := G3.tr (GoX.bk (T := T) (n := n) (m := 1) (fun σ h => sk1 hy3 S4 σ h) σ3)
          rw [ep3, hPb] at this
          exact this
        have I3b : Inv n (1, y3 :: S4, pu σ3 P) := iv_pu I3 (by omega) b2
        generalize hσ4 : pu σ3 P = σ4 at *
        have p4 : sp σ4 = P := by rw [← hσ4]
        have e53 : se σ4 ≤ 253 := iv_e n4 I3b
        have s1 := st_1 hy3 T n S4 σ4
        rw [p4, if_neg n32] at s1
        have hsh : Sh (y3 :: S4) := I3b.2.2.1.2.2
        have hcn : cn (y3 :: S4) ≤ sp σ4 := I3b.2.2.1.1
        have ej : ∀ t : UInt32, 6 ≤ t.toNat → (((if mW T n (wS t.toNat) P = true then (1 : Int32) else 0) = 0) ↔ ¬ mW T n (wS t.toNat) P = true) := fun t _ => by
          by_cases c : mW T n (wS t.toNat) P = true
          · rw [if_pos c]; exact ⟨fun z => absurd z (by decide), fun z => absurd c z⟩
          · rw [if_neg c]; exact ⟨fun _ => c, fun _ => rfl⟩
        have j19 : ((if mW T n (wS (19 : UInt32).toNat) P = true then (1 : Int32) else 0) = 0) ↔ ¬ mW T n (wS 19) P = true := ej 19 (by decide)
        have j20 : ((if mW T n (wS (20 : UInt32).toNat) P = true then (1 : Int32) else 0) = 0) ↔ ¬ mW T n (wS 20) P = true := ej 20 (by decide)
        -- behind opens: the word is passed over
        have onw : ∀ (y len : Nat) (S5 : List Nat) (σ5 : PS) (h5 : HP), (y = 12 ∨ y = 13) → FrC (MY r) h h5 → MDs r h5 σ5 → MOp h5 S5 → cn S5 ≤ 400 → sp σ5 = P → P + len ≤ n → 1 ≤ len → Inv n (0, y :: S5, pu σ5 (P + len)) → GoX T n (.inr (0, [17], σ0)) (.inr (0, y :: S5, pu σ5 (P + len))) → CallV g mX10_opens (d + 10) (0, 0) [Value.ref 252, .int (nI (rc y))] h5 (fun h8 => Lay h8 ∧ Sat g mX10_test (d + 11) (0, 0) (qV Q) 122 [Value.ref 252, .double 0, .int 1, .double 0, .double 0] [Value.int (nI len), .int (hI h8 252 25), .ref 252] h8) := by
          intro y len S5 σ5 h5 hy F5 D5 O5 hc5 p5 hl5 h1l I5 G5
          have C5 := C.fy F5
          refine m_opensJ (d := d + 9) hy C5.1.1 O5 hc5 (fun h6 f6 e26 O6 => ⟨f6.lay C5.1.1, ?_⟩)
          have C6 := C5.fy (f6.wd (fun x k w => by unfold AO at w; unfold MY MX; omega))
          refine wX10_test_122 _ _ _ _ C6.1.1 ⟨Lk C6.1.1 K_252, ?_⟩
          have e25 : hI h6 252 25 = nI P := (f6.I (by unfold AO; omega)).trans (D5.1.trans (by rw [p5]))
          rw [e25, nI_add]
          have f7 : FrC A25 h6 (setI h6 252 25 (nI (P + len))) := FrC.stI ⟨rfl, rfl⟩
          have D6 : MDs r h6 σ5 := ⟨e25.trans (by rw [p5]), e26.trans D5.2.1, (f6.I (by unfold AO; omega)).trans D5.2.2.1, (f6.I (by unfold AO; omega)).trans D5.2.2.2.1, fun i hi => by rw [f6.I (by unfold AO; omega), f6.I (by unfold AO; omega)]; exact D5.2.2.2.2 i hi⟩
          refine ih.1 _ (y :: S5) (pu σ5 (P + len)) (by show 2 * (n - (P + len)) + 1 < k; omega) ⟨(F5.tr (f6.wd (fun x k w => by unfold AO at w; unfold MY MX; omega))).tr (mxy (m5x f7)), D6.mv f7 rdI, I5, O6.to (m5x (r := r) f7), G5⟩
        by_cases c19 : mW T n (wS 19) P = true
        · -- and
          have hle : P + 3 ≤ n := by have := mW_le c19 (by decide) (by decide); have := l19.1; omega
          have n20 : ¬ mW T n (wS 20) P = true := fun c => by
            have q1 := (mW_iff (T := T) (n := n) (wS 19) P (by decide)).mp c19
            have q2 := (mW_iff (T := T) (n := n) (wS 20) P (by decide)).mp c
            have := l19.1; have := l19.2.1
            omega
          rw [if_pos c19] at s1
          refine ⟨fun z => absurd c19 (j19.mp z), fun z19 => ⟨fun z20 => ⟨fun z => absurd z z19, fun _ => ?_⟩, fun z => absurd (j20.mpr n20) z⟩⟩
          refine CallV.mono (onw 12 3 (y3 :: S4) σ4 h3 (Or.inl rfl) F3' D3 O3 (by omega) p4 hle (by omega) (iv_join I3b (Or.inl ⟨rfl, by show y3 = 13 ∨ y3 = 15 ∨ y3 = 17; exact hy3⟩) (by omega) hle) (G3b.tr (GoX.st s1 (by show sp σ4 ≤ P + 3; omega)))) (fun h8 q => ⟨q.1, fun z => absurd z z19, fun _ => q.2⟩)
        · rw [if_neg c19] at s1
          by_cases c20 : mW T n (wS 20) P = true
          · -- or
            have hle : P + 2 ≤ n := by have := mW_le c20 (by decide) (by decide); have := l19.2.1; omega
            rw [if_pos c20] at s1
            refine ⟨fun z19 => ⟨fun z => absurd c20 (j20.mp z), fun z20 => ⟨fun z => absurd z z20, fun _ => ?_⟩⟩, fun z => absurd (j19.mpr c19) z⟩
            have fin : ∀ (S5 : List Nat) (σ5 : PS) (h5 : HP), FrC (MY r) h h5 → MDs r h5 σ5 → MOp h5 S5 → cn S5 ≤ 400 → sp σ5 = P → Inv n (0, 13 :: S5, pu σ5 (P + 2)) → GoX T n (.inr (0, [17], σ0)) (.inr (0, 13 :: S5, pu σ5 (P + 2))) → (Lay h5 ∧ ((if mW T n (wS (19 : UInt32).toNat) P = true then (1 : Int32) else 0) = 0 → CallV g mX10_opens (d + 10) (0, 0) [Value.ref 252, .int 11] h5 (fun h24 => Lay h24 ∧ ((if mW T n (wS (19 : UInt32).toNat) P = true then (1 : Int32) else 0) = 0 → Sat g mX10_test (d + 11) (0, 0) (qV Q) 122 [Value.ref 252, .double 0, .int 1, .double 0, .double 0] [Value.int 2, .int (hI h24 252 25), .ref 252] h24) ∧ (¬ ((if mW T n (wS (19 : UInt32).toNat) P = true then (1 : Int32) else 0) = 0) → Sat g mX10_test (d + 11) (0, 0) (qV Q) 122 [Value.ref 252, .double 0, .int 1, .double 0, .double 0] [Value.int 3, .int (hI h24 252 25), .ref 252] h24))) ∧ (¬ ((if mW T n (wS (19 : UInt32).toNat) P = true then (1 : Int32) else 0) = 0) → CallV g mX10_opens (d + 10) (0, 0) [Value.ref 252, .int 10] h5 (fun h25 => Lay h25 ∧ ((if mW T n (wS (19 : UInt32).toNat) P = true then (1 : Int32) else 0) = 0 → Sat g mX10_test (d + 11) (0, 0) (qV Q) 122 [Value.ref 252, .double 0, .int 1, .double 0, .double 0] [Value.int 2, .int (hI h25 252 25), .ref 252] h25) ∧ (¬ ((if mW T n (wS (19 : UInt32).toNat) P = true then (1 : Int32) else 0) = 0) → Sat g mX10_test (d + 11) (0, 0) (qV Q) 122 [Value.ref 252, .double 0, .int 1, .double 0, .double 0] [Value.int 3, .int (hI h25 252 25), .ref 252] h25)))) := by
              intro S5 σ5 h5 F5 D5 O5 hc5 p5 I5 G5
              refine ⟨(C.fy F5).1.1, fun _ => ?_, fun z => absurd z19 z⟩
              refine CallV.mono (onw 13 2 S5 σ5 h5 (Or.inr rfl) F5 D5 O5 hc5 p5 hle (by omega) I5 G5) (fun h8 q => ⟨q.1, fun _ => q.2, fun z => absurd z19 z⟩)
            rcases Nat.decEq y3 13 with c13 | c13
            · rw [if_neg c13] at s1
              refine m_answersN (d := d + 9) (y := y3) (S := S4) C3 O3 hsh (by omega) (by omega) (fun t => ?_) (by decide) (fin (y3 :: S4) σ4 h3 F3' D3 O3 (by omega) p4 (iv_join I3b (Or.inr ⟨rfl, by show y3 = 15 ∨ y3 = 17; omega⟩) (by omega) hle) (G3b.tr (GoX.st s1 (by show sp σ4 ≤ P + 2; omega))))
              have : y3 = 15 := by omega
              subst this; decide
            · subst c13
              rw [if_pos rfl] at s1
              have o := hsh.1
              obtain ⟨y5, e5⟩ : ∃ y5, S4.headD 0 = y5 := ⟨_, rfl⟩
              have hy5 : y5 = 15 ∨ y5 = 17 := by rw [e5] at o; unfold stkT at o; omega
              obtain ⟨S5, rfl⟩ := hd_c e5 (by omega)
              have c1 : cn (13 :: y5 :: S5) = cn (y5 :: S5) + 1 := by rw [cn, if_pos (by decide)]; omega
              refine m_answersO (d := d + 9) C3 D3 (by omega) O3 hsh (by omega) hy5 (fun h5 f5 D5 O5 => fin (y5 :: S5) (em σ4 13 0) h5 (F3'.tr f5) D5 O5 (by omega) p4 ?_ (G3b.tr (GoX.st s1 (by show sp σ4 ≤ P + 2; omega))))
              exact iv_join (iv_ans (Or.inl rfl) I3b (by omega) (fun z => absurd z (by decide))) (Or.inr ⟨rfl, hy5⟩) (by show sp σ4 + 1 ≤ P + 2; omega) hle
          · -- the end of a TEST
            rw [if_neg c20] at s1
            refine ⟨fun z19 => ⟨fun z20 => ?_, fun z => absurd (j20.mpr c20) z⟩, fun z => absurd (j19.mpr c19) z⟩
            have fin : ∀ (y5 : Nat) (S5 : List Nat) (σ5 : PS) (h5 : HP), (y5 = 15 ∨ y5 = 17) → FrC (MY r) h h5 → MDs r h5 σ5 → MOp h5 (y5 :: S5) → sp σ5 = P → Inv n (2, y5 :: S5, σ5) → GoX T n (.inr (0, [17], σ0)) (.inr (2, y5 :: S5, σ5)) → (Lay h5 ∧ CallI g mX10_top (d + 10) [Value.ref 252] h5 (fun i15 h14 => Lay h14 ∧ (i15 = 12 → CallI g mX10_sign (d + 10) [Value.ref 252] h14 (fun i17 h16 => Lay h16 ∧ (i17 = 93 → Sat g mX10_test (d + 11) (0, 0) (qV Q) 9 [Value.ref 252, .int 0, .int 1, .double 0, .double 0] [] (setI (setI (setI h16 252 25 ((hI h16 252 25) + 1)) 252 32 ((hI h16 252 32) - 1)) 252 30 ((hI h16 252 30) - 1))) ∧ (¬ (i17 = 93) → CallV g mX10_fails (d + 10) (0, 0) [Value.ref 252, .int 0, .int (hI h16 252 25)] h16 (fun h19 => Lay h19 ∧ Sat g mX10_test (d + 11) (0, 0) (qV Q) 9 [Value.ref 252, .int 0, .int 1, .double 0, .double 0] [] (setI (setI (setI h19 252 25 ((hI h19 252 25) + 1)) 252 32 ((hI h19 252 32) - 1)) 252 30 ((hI h19 252 30) - 1)))))) ∧ (¬ (i15 = 12) → Sat g mX10_test (d + 11) (0, 0) (qV Q) 9 [Value.ref 252, .int 0, .int 0, .double 0, .double 0] [] h14))) := by
              intro y5 S5 σ5 h5 hy5 F5 D5 O5 p5 I5 G5
              have C5 := C.fy F5
              have hcn5 : cn (y5 :: S5) ≤ sp σ5 := I5.2.2.1.1
              have hsh5 : Sh (y5 :: S5) := I5.2.2.1.2.2
              have e25 : hI h5 252 25 = nI P := D5.1.trans (by rw [p5])
              refine ⟨C5.1.1, m_top C5.1.1 O5 hsh5 (by omega) (fun t => ?_) (fun t => ?_) (by omega)⟩
              · have : y5 = 15 := by omega
                subst this
                have c1 : cn (15 :: S5) = cn S5 + 1 := by rw [cn, if_pos (by decide)]; omega
                have c2 : dpS (15 :: S5) = dpS S5 + 1 := by rw [dpS, if_pos (by decide)]; omega
                have s2 := st_2 T n S5 σ5
                rw [p5] at s2
                have sub : ∀ h6, FrC A26 h5 h6 → FrC (fun x k => x = 252 ∧ (k = 25 ∨ k = 30 ∨ k = 32)) h6 (setI (setI (setI h6 252 25 ((hI h6 252 25) + 1)) 252 32 ((hI h6 252 32) - 1)) 252 30 ((hI h6 252 30) - 1)) ∧ hI (setI (setI (setI h6 252 25 ((hI h6 252 25) + 1)) 252 32 ((hI h6 252 32) - 1)) 252 30 ((hI h6 252 30) - 1)) 252 25 = nI (P + 1) ∧ hI (setI (setI (setI h6 252 25 ((hI h6 252 25) + 1)) 252 32 ((hI h6 252 32) - 1)) 252 30 ((hI h6 252 30) - 1)) 252 32 = nI (cn S5) ∧ hI (setI (setI (setI h6 252 25 ((hI h6 252 25) + 1)) 252 32 ((hI h6 252 32) - 1)) 252 30 ((hI h6 252 30) - 1)) 252 30 = nI (dpS S5) := by
                  intro h6 f6
                  refine ⟨((FrC.stI (by omega)).tr (FrC.stI (by omega))).tr (FrC.stI (by omega)), ?_, ?_, ?_⟩
                  · rw [rdn (by omega), rdn (by omega), rdI, f6.I (by unfold A26; omega), e25, nI_1]
                  · rw [rdn (by omega), rdI, f6.I (by unfold A26; omega), O5.2.1, c1, nI_pred]
                  · rw [rdI, f6.I (by unfold A26; omega), O5.1, c2, nI_pred]
                refine ⟨C5.1.1, fun _ => m_sign C5.1 e25 (by omega) ⟨C5.1.1, fun w => ?_, fun w => ?_⟩, fun z => absurd rfl z⟩
                · have a93 : at_ T n P = 93 := (sg_eq (c := 93) hT (by omega)).mp w
                  have hl : P < n := at_lt (T := T) (by omega)
                  rw [if_pos a93] at s2
                  obtain ⟨f6, e6, e62, e60⟩ := sub h5 (FrC.rf h5)
                  generalize setI (setI (setI h5 252 25 ((hI h5 252 25) + 1)) 252 32 ((hI h5 252 32) - 1)) 252 30 ((hI h5 252 30) - 1) = h6 at f6 e6 e62 e60 ⊢
                  have F6 := F5.tr (f6.wd (fun x k w => by unfold MY MX; omega))
                  have D6 : MDs r h6 (pu σ5 (P + 1)) := ⟨e6, (f6.I (by omega)).trans D5.2.1, (f6.I (by omega)).trans D5.2.2.1, (f6.I (by omega)).trans D5.2.2.2.1, fun i hi => by rw [f6.I (by omega), f6.I (by omega)]; exact D5.2.2.2.2 i hi⟩
                  refine ih.2 h6 S5 (pu σ5 (P + 1)) (by show 2 * (n - (P + 1)) < k; omega) ⟨F6, D6, by have := iv_cl I5 (by rw [p5]; exact hl); rw [p5] at this; exact this, ⟨e60, e62, O5.2.2.2.to (fun k _ => f6.I (by omega))⟩, G5.tr (GoX.st s2 (by show sp σ5 ≤ P + 1; omega))⟩
                · have a93 : ¬ at_ T n P = 93 := fun z => w ((sg_eq (c := 93) hT (by omega)).mpr z)
                  rw [if_neg a93] at s2
                  rw [e25]
                  refine m_fails (c := 0) C5.1.1 (fun h6 f6 e6 => ⟨f6.lay C5.1.1, ?_⟩)
                  rw [D5.2.1, if_pos rfl] at e6
                  obtain ⟨f7, e7, -, -⟩ := sub h6 f6
                  have F7 := (F5.tr (mxy (m6x f6))).tr (f7.wd (fun x k w => by unfold MY MX; omega))
                  exact flt_ _ _ _ _ F7 ⟨⟨P + 1, by omega, e7⟩, (f7.I (by omega)).trans e6, by omega, by omega⟩ (G5.tr (GoX.ft s2)) (by decide)
              · subst t
                have hS5 := (cn17 hsh5).1
                subst hS5
                exact ⟨C5.1.1, fun z => absurd z (by decide), fun _ => wX10_test_9 _ _ C5.1.1 ⟨fun _ => hY h5 σ5 F5 D5 I5 O5.1 G5, fun z => absurd rfl z⟩⟩
            rcases Nat.decEq y3 13 with c13 | c13
            · rw [if_neg c13] at s1
              have hy15 : y3 = 15 ∨ y3 = 17 := by omega
              refine m_answersN (d := d + 9) (y := y3) (S := S4) C3 O3 hsh (by omega) (by omega) (fun t => ?_) (by decide) (fin y3 S4 σ4 h3 hy15 F3' D3 O3 p4 (iv_tE I3b hy15) (G3b.tr (GoX.st s1 (Nat.le_refl _))))
              have : y3 = 15 := by omega
              subst this; decide
            · subst c13
              rw [if_pos rfl] at s1
              have o := hsh.1
              obtain ⟨y5, e5⟩ : ∃ y5, S4.headD 0 = y5 := ⟨_, rfl⟩
              have hy5 : y5 = 15 ∨ y5 = 17 := by rw [e5] at o; unfold stkT at o; omega
              obtain ⟨S5, rfl⟩ := hd_c e5 (by omega)
              refine m_answersO (d := d + 9) C3 D3 (by omega) O3 hsh (by omega) hy5 (fun h5 f5 D5 O5 => fin y5 S5 (em σ4 13 0) h5 hy5 (F3'.tr f5) D5 O5 p4 (iv_ans (Or.inr rfl) I3b (by omega) (fun _ => hy5)) (G3b.tr (GoX.st s1 (Nat.le_refl _))))
  refine wX10_test_0 C.1.1 ?_
  have f1 : FrC (fun x k => x = 252 ∧ k = 32) h (setI h 252 32 0) := FrC.stI ⟨rfl, rfl⟩
  refine (key (2 * n + 2)).1 _ [17] σ0 (by omega) ⟨f1.wd (fun x k w => by unfold MY; omega), D.fo f1 (fun k w => by omega) (fun k => by omega) (fun k => by omega), I, ⟨?_, ?_, fun w => absurd w (by decide), trivial⟩, GoX.rf _⟩
  · rw [f1.I (by omega)]; exact e30
  · rw [rdI]; rfl
end MT2
