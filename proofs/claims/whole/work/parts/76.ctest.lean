/-! the class reads SIGNS, FACTS, TESTS -/
theorem st_5m (T : Nat → Nat) (n : Nat) (S : List Nat) (σ : PS) : stp T n (5, 16 :: S, σ) = if at_ T n (sp σ) = 60 ∨ at_ T n (sp σ) = 61 ∨ at_ T n (sp σ) = 62 then (if 60 ≤ sc σ then .inl (.inl (1 + 8 * sp σ + 3)) else .inr (3, cmpK (at_ T n (sp σ)) (at_ T n (sp σ + 1)) :: S, pc1 σ (if ¬ at_ T n (sp σ) = 61 ∧ at_ T n (sp σ + 1) = 61 then sp σ + 2 else sp σ + 1))) else .inl (.inl (1 + 8 * sp σ + 0)) := rfl
theorem st_5c {T : Nat → Nat} {n w : Nat} {S : List Nat} {σ : PS} (hw : 7 ≤ w ∧ w ≤ 11) : stp T n (5, w :: S, σ) = .inr (1, S, em σ w 0) := by
  have : stp T n (5, w :: S, σ) = if w = 0 then .inr (8, [], (σ.1, σ.2.1, (sq σ, sA σ, up1 (sT σ) (sq σ) (se σ)))) else if 7 ≤ w ∧ w ≤ 11 then .inr (1, S, em σ w 0) else
    if at_ T n (sp σ) = 60 ∨ at_ T n (sp σ) = 61 ∨ at_ T n (sp σ) = 62 then (if 60 ≤ sc σ then .inl (.inl (1 + 8 * sp σ + 3)) else .inr (3, cmpK (at_ T n (sp σ)) (at_ T n (sp σ + 1)) :: S, pc1 σ (if ¬ at_ T n (sp σ) = 61 ∧ at_ T n (sp σ + 1) = 61 then sp σ + 2 else sp σ + 1))) else .inl (.inl (1 + 8 * sp σ + 0)) := rfl
  rw [this, if_neg (by omega), if_pos hw]
theorem st_2 (T : Nat → Nat) (n : Nat) (S : List Nat) (σ : PS) : stp T n (2, 15 :: S, σ) = if at_ T n (sp σ) = 93 then .inr (1, S, pu σ (sp σ + 1)) else .inl (.inl (1 + 8 * sp σ + 0)) := rfl
theorem nb_bl {T : Nat → Nat} {n p : Nat} (h : ¬ at_ T n p = 32) : bl T n p = p := bl_n (fun w => h (at_32.mpr w))
theorem l19 : (wS 19).length = 3 ∧ (wS 20).length = 2 ∧ (wS 18).length = 3 ∧ (wS 22).length = 3 ∧ (wS 23).length = 2 := by decide
theorem nt91 {T : Nat → Nat} {n p : Nat} (h : at_ T n p = 91) : ¬ mW T n (wS 18) p = true := by
  have e : wS 18 = [110, 111, 116] := by decide
  rw [e, mW, Bool.and_eq_true, decide_eq_true_iff]
  intro w
  unfold at_ at h
  rw [if_pos w.1.1] at h
  omega
section CF
variable {g : GT} {d n r p : Nat} {T : Nat → Nat} {h : HP} {x : CX} {S : List Nat}
theorem c_sgn {c0 y1 : Nat} {sm : Int32} {Q : Int32 → HP → Prop} (L : Lay h) (hc : c0 = 60 ∨ c0 = 61 ∨ c0 = 62) (hs : sm = if ¬ c0 = 61 ∧ y1 = 61 then 1 else 0) (hQ : Q (nI (cmpK c0 y1)) h) : Sat g mX6_readSign (d + 1) (0, 0) (qI Q) 103 [.double 0, .int (nI c0), .int sm] [] h := by
  refine wX6_readSign_103 _ _ L ?_
  have e : ∀ a, a < 256 → (nI c0 = nI a ↔ c0 = a) := fun a ha => nI_eq (by omega) (by omega)
  unfold cmpK at hQ
  subst hs
  refine ⟨fun w => ?_, fun w => ⟨fun w2 => ⟨fun w3 => ?_, fun w3 => ?_⟩, fun w2 => ⟨fun w3 => ?_, fun w3 => ?_⟩⟩⟩
  · rw [if_pos ((e 61 (by omega)).mp w)] at hQ; exact hQ
  · have n61 : ¬ c0 = 61 := fun z => w ((e 61 (by omega)).mpr z)
    have y61 : ¬ y1 = 61 := fun z => absurd w3 (by rw [if_pos ⟨n61, z⟩]; decide)
    rw [if_neg n61, if_pos ((e 60 (by omega)).mp w2), if_neg y61] at hQ; exact hQ
  · have n61 : ¬ c0 = 61 := fun z => w ((e 61 (by omega)).mpr z)
    have y61 : y1 = 61 := Decidable.byContradiction (fun z => w3 (by rw [if_neg (fun q => z q.2)]))
    rw [if_neg n61, if_pos ((e 60 (by omega)).mp w2), if_pos y61] at hQ; exact hQ
  · have n61 : ¬ c0 = 61 := fun z => w ((e 61 (by omega)).mpr z)
    have n60 : ¬ c0 = 60 := fun z => w2 ((e 60 (by omega)).mpr z)
    have y61 : ¬ y1 = 61 := fun z => absurd w3 (by rw [if_pos ⟨n61, z⟩]; decide)
    rw [if_neg n61, if_neg n60, if_neg y61] at hQ; exact hQ
  · have n61 : ¬ c0 = 61 := fun z => w ((e 61 (by omega)).mpr z)
    have n60 : ¬ c0 = 60 := fun z => w2 ((e 60 (by omega)).mpr z)
    have y61 : y1 = 61 := Decidable.byContradiction (fun z => w3 (by rw [if_neg (fun q => z q.2)]))
    rw [if_neg n61, if_neg n60, if_pos y61] at hQ; exact hQ
theorem c_readSign0 {P : Nat} {Q : Int32 → HP → Prop} (PO : HP → HP → Prop) (C : CT T n r h) (hp : hI h 29 3 = nI p) (hpn : p ≤ n) (eP : bl T n p = P) (K : ∀ h1, FrC A3 h h1 → hI h1 29 3 = nI P → ∀ Q' : HP → Prop, (∀ h3, FrC (AX r) h1 h3 → hI h3 29 3 = nI P → PO h1 h3 → Q' h3) → CallV g mX6_countItem (d + 2) (0, 0) [.ref 29, .int (nI P)] h1 Q') (E : (at_ T n P = 60 ∨ at_ T n P = 61 ∨ at_ T n P = 62) → ∀ h1 h3 h4 p', FrC A3 h h1 → FrC (AX r) h1 h3 → PO h1 h3 → FrC A3 h3 h4 → hI h4 29 3 = nI p' → p' ≤ n → P < p' → p' = (if ¬ at_ T n P = 61 ∧ at_ T n (P + 1) = 61 then P + 2 else P + 1) → Q (nI (cmpK (at_ T n P) (at_ T n (P + 1)))) h4) (F : ¬ (at_ T n P = 60 ∨ at_ T n P = 61 ∨ at_ T n P = 62) → ∀ h1 h9, FrC A3 h h1 → hI h1 29 3 = nI P → FrC A4 h1 h9 → hI h9 29 4 = (if hI h1 29 4 = 0 then nI (1 + 8 * P + 0) else hI h1 29 4) → Q (-1) h9) : CallI g mX6_readSign (d + 3) [.ref 29] h Q := by
  have n4 := C.1.2.2.1
  have hT := C.1.2.2.2.2.2
  refine wX6_readSign_0 C.1.1 (c_next C.1 hp hpn (fun h1 f1 e1 => ⟨f1.lay C.1.1, ?_⟩))
  have C1 := C.fr (f3x f1)
  rw [eP] at e1 ⊢
  rw [e1]
  have aft : ∀ c0 h3, (c0 = 60 ∨ c0 = 61 ∨ c0 = 62) → at_ T n P = c0 → FrC (AX r) h1 h3 → hI h3 29 3 = nI P → PO h1 h3 → (Lay h3 ∧ (nI c0 = 61 → Sat g mX6_readSign (d + 3) (0, 0) (qI Q) 103 [Value.double 0, .int (nI c0), .int 0] [] (setI h3 29 3 ((hI h3 29 3) + 1))) ∧ (¬ (nI c0 = 61) → ((hI h3 29 2) ≤ ((hI h3 29 3) + 1) → Sat g mX6_readSign (d + 3) (0, 0) (qI Q) 103 [Value.double 0, .int (nI c0), .int 0] [] (setI h3 29 3 ((hI h3 29 3) + 1))) ∧ (¬ ((hI h3 29 2) ≤ ((hI h3 29 3) + 1)) → ∃ y6_, (hR (setI h3 29 3 ((hI h3 29 3) + 1)) 29 1) = (some y6_) ∧ (hK (setI h3 29 3 ((hI h3 29 3) + 1)) y6_) = 21 ∧ vp_in ((hI h3 29 3) + 1) (hN h3 y6_) ∧ ((hI (setI h3 29 3 ((hI h3 29 3) + 1)) y6_ ((hI h3 29 3) + 1).toNatClampNeg) = 61 → Sat g mX6_readSign (d + 3) (0, 0) (qI Q) 103 [Value.double 0, .int (nI c0), .int 1] [] (setI (setI h3 29 3 ((hI h3 29 3) + 1)) 29 3 (((hI h3 29 3) + 1) + 1))) ∧ (¬ ((hI (setI h3 29 3 ((hI h3 29 3) + 1)) y6_ ((hI h3 29 3) + 1).toNatClampNeg) = 61) → Sat g mX6_readSign (d + 3) (0, 0) (qI Q) 103 [Value.double 0, .int (nI c0), .int 0] [] (setI h3 29 3 ((hI h3 29 3) + 1)))))) := by
    intro c0 h3 hc ea f3 e3 po
    have C3 := C1.fr f3
    have fin := E (by omega) h1 h3
    rw [ea] at fin
    have hP : P < n := at_lt (T := T) (by omega)
    have e61 : nI c0 = 61 ↔ c0 = 61 := nI_eq (a := c0) (b := 61) (by omega) (by omega)
    rw [e3, nI_1, nI_1, C3.1.2.2.2.1, nI_clamp (n := P + 1) (by omega)]
    have f1' : FrC A3 h3 (setI h3 29 3 (nI (P + 1))) := FrC.stI ⟨rfl, rfl⟩
    have f2' : FrC A3 h3 (setI (setI h3 29 3 (nI (P + 1))) 29 3 (nI (P + 1 + 1))) := f1'.tr (FrC.stI ⟨rfl, rfl⟩)
    have one : ¬ (¬ c0 = 61 ∧ at_ T n (P + 1) = 61) → Sat g mX6_readSign (d + 3) (0, 0) (qI Q) 103 [Value.double 0, .int (nI c0), .int 0] [] (setI h3 29 3 (nI (P + 1))) := fun w => c_sgn (y1 := at_ T n (P + 1)) (f1'.lay C3.1.1) hc (by rw [if_neg w]) (fin _ (P + 1) f1 f3 po f1' rdI (by omega) (by omega) (by rw [if_neg w]))
    refine ⟨C3.1.1, fun w => one (fun z => z.1 (e61.mp w)), fun w => ⟨fun w2 => one (fun z => ?_), fun w2 => ⟨1, C3.1.2.1, Lk C3.1.1 K_1, ?_, ?_⟩⟩⟩
    · have : n ≤ P + 1 := (nI_leI (by omega) (by omega)).mp w2
      have e : at_ T n (P + 1) = 1000 := if_neg (by omega)
      omega
    · have : P + 1 < n := Nat.lt_of_not_le (fun z => w2 (nI_le z (by omega)))
      rw [Ln C3.1.1 N_1]; exact vn (by omega) (by omega)
    · have hl : P + 1 < n := Nat.lt_of_not_le (fun z => w2 (nI_le z (by omega)))
      have ea2 : at_ T n (P + 1) = T (P + 1) := if_pos hl
      rw [rdn (by omega), C3.1.2.2.2.2.1 (P + 1) hl]
      have e61' : nI (T (P + 1)) = 61 ↔ T (P + 1) = 61 := nI_eq (a := T (P + 1)) (b := 61) (by have := hT _ hl; omega) (by omega)
      refine ⟨fun w3 => ?_, fun w3 => one (fun z => w3 (e61'.mpr (ea2 ▸ z.2)))⟩
      have yes : ¬ c0 = 61 ∧ at_ T n (P + 1) = 61 := ⟨fun z => w (e61.mpr z), by rw [ea2]; exact e61'.mp w3⟩
      exact c_sgn (y1 := at_ T n (P + 1)) (f2'.lay C3.1.1) hc (by rw [if_pos yes]) (fin _ (P + 2) f1 f3 po f2' rdI (by omega) (by omega) (by rw [if_pos yes]))
  have e60 : sgI T n P = nI 60 ↔ at_ T n P = 60 := sg_eq hT (by omega)
  have e61 : sgI T n P = nI 61 ↔ at_ T n P = 61 := sg_eq hT (by omega)
  have e62 : sgI T n P = nI 62 ↔ at_ T n P = 62 := sg_eq hT (by omega)
  refine ⟨fun w => ?_, fun w1 => ⟨fun w => ?_, fun w2 => ⟨fun w => ?_, fun w3 => ?_⟩⟩⟩
  · rw [show sgI T n P = nI 60 from w]
    exact K h1 f1 e1 _ (fun h3 f3 e3 po => aft 60 h3 (by omega) (e60.mp w) f3 e3 po)
  · rw [show sgI T n P = nI 61 from w]
    exact K h1 f1 e1 _ (fun h3 f3 e3 po => aft 61 h3 (by omega) (e61.mp w) f3 e3 po)
  · rw [show sgI T n P = nI 62 from w]
    exact K h1 f1 e1 _ (fun h3 f3 e3 po => aft 62 h3 (by omega) (e62.mp w) f3 e3 po)
  · refine c_fail (c := 0) C1.1.1 (fun h9 f9 e9 => ⟨f9.lay C1.1.1, F ?_ h1 h9 f1 e1 f9 e9⟩)
    intro z
    rcases z with z | z | z
    · exact w1 (e60.mpr z)
    · exact w2 (e61.mpr z)
    · exact w3 (e62.mpr z)
theorem c_readSign {Q : Int32 → HP → Prop} (C : CT T n r h) (D : CD n r h x) (A : At n 5 (16 :: S) x) (N : NB T n x) (hQ : ∀ h' y v, FrC (AX r) h h' → CD n r h' y → GoX T n x y → ((∃ f, y = .inl f) ∨ ∃ k σ', 7 ≤ k ∧ k ≤ 11 ∧ v = nI k ∧ y = .inr (3, k :: S, σ') ∧ Inv n (3, k :: S, σ')) → Q v h') : CallI g mX6_readSign (d + 3) [.ref 29] h Q := by
  have n4 := C.1.2.2.1
  have hT := C.1.2.2.2.2.2
  rcases A.ms with ⟨f, rfl⟩ | ⟨σ, rfl, I⟩
  · have D : CDf n r h f := D
    obtain ⟨p, hp, d3⟩ := D.1
    obtain ⟨b1, b2, b3⟩ := bl_rg (T := T) hp
    refine c_readSign0 (fun h1 h3 => CDf n r h3 f) C d3 hp rfl (fun h1 f1 e1 Q' hQ' => ?_) (fun hc h1 h3 h4 p' f1 f3 po f4 e4 hp' hP ep => ?_) (fun nc h1 h9 f1 e1 f9 e9 => ?_)
    · exact c_countF (C.fr (f3x f1)) (D.mv f1 b2 e1) (fun h3 f3 D3 e3 => hQ' h3 f3 (e3.trans e1) D3)
    · exact hQ h4 (.inl f) _ (((f3x f1).tr f3).tr (f3x f4)) (CDf.mv po f4 hp' e4) (GoX.rf _) (Or.inl ⟨f, rfl⟩)
    · have D1 := D.mv f1 b2 e1
      rw [if_neg D1.nz] at e9
      refine hQ h9 (.inl f) _ ((f3x f1).tr (f4x f9)) ⟨⟨_, b2, (f9.I (by unfold A4; omega)).trans e1⟩, e9.trans D1.2.1, D1.2.2.1, ?_⟩ (GoX.rf _) (Or.inl ⟨f, rfl⟩)
      obtain ⟨s, h1, h2⟩ := D1.2.2.2
      exact ⟨s, h1, (f9.I (by unfold A4; omega)).trans h2⟩
  · have D : CDs r h σ := D
    have N : ¬ at_ T n (sp σ) = 32 := N
    have hp : sp σ ≤ n := I.1.1
    have hc6 : sc σ ≤ 60 := I.1.2.1
    have e4 : se σ ≤ 253 := iv_e n4 I
    have s5 := st_5m T n S σ
    refine c_readSign0 (P := sp σ) (fun h1 h3 => (sc σ < 60 ∧ CDs r h3 (pc1 σ (sp σ))) ∨ (60 ≤ sc σ ∧ CDf n r h3 (1 + 8 * sp σ + 3))) C D.1 hp (nb_bl N) (fun h1 f1 e1 Q' hQ' => ?_) (fun hc h1 h3 h4 p' f1 f3 po f4 e4 hp' hP ep => ?_) (fun nc h1 h9 f1 e1 f9 e9 => ?_)
    · exact c_count (σ := σ) (C.fr (f3x f1)) (D.mv f1 e1) hc6 hp hp (by omega) (fun c6 h3 f3 D3 => hQ' h3 f3 D3.1 (Or.inl ⟨c6, D3⟩)) (fun c6 h3 f3 D3 e3 => hQ' h3 f3 (e3.trans e1) (Or.inr ⟨c6, D3⟩))
    · rw [if_pos hc] at s5
      rcases po with ⟨c6, D3⟩ | ⟨c6, D3⟩
      · rw [if_neg (by omega), ← ep] at s5
        have ck := cmpK_c (at_ T n (sp σ)) (at_ T n (sp σ + 1))
        exact hQ h4 (.inr (3, cmpK (at_ T n (sp σ)) (at_ T n (sp σ + 1)) :: S, pc1 σ p')) _ (((f3x f1).tr f3).tr (f3x f4)) (D3.mv f4 e4) (GoX.st s5 (Nat.le_of_lt hP)) (Or.inr ⟨_, _, ck.1, ck.2, rfl, rfl, iv_cmp I c6 hP hp' ck⟩)
      · rw [if_pos c6] at s5
        exact hQ h4 (.inl _) _ (((f3x f1).tr f3).tr (f3x f4)) (CDf.mv D3 f4 hp' e4) (GoX.ft s5) (Or.inl ⟨_, rfl⟩)
    · rw [if_neg nc] at s5
      have D1 := D.mv f1 e1
      rw [D1.2.1, if_pos rfl] at e9
      exact hQ h9 (.inl _) _ ((f3x f1).tr (f4x f9)) (D1.ft n4 (by show se σ ≤ 400; omega) (by omega) (f9.wd (fun x k w => by unfold A4 at w; unfold A34; omega)) hp ((f9.I (by unfold A4; omega)).trans e1) e9) (GoX.ft s5) (Or.inl ⟨_, rfl⟩)
theorem c_expect {Q : HP → Prop} (C : CT T n r h) (D : CD n r h x) (A : At n 2 (15 :: S) x) (N : NB T n x) (hQ : Ct T n r h x 1 S Q) : CallV g mX6_expectClosing (d + 1) (0, 0) [.ref 29] h Q := by
  have n4 := C.1.2.2.1
  have hT := C.1.2.2.2.2.2
  rcases A.ms with ⟨f, rfl⟩ | ⟨σ, rfl, I⟩
  · have D : CDf n r h f := D
    obtain ⟨p, hp, d3⟩ := D.1
    obtain ⟨b1, b2, b3⟩ := bl_rg (T := T) hp
    refine wX6_expectClosing_0 C.1.1 (c_next C.1 d3 hp (fun h1 f1 e1 => ⟨f1.lay C.1.1, fun w => ?_, fun w => ?_⟩))
    · have ea : at_ T n (bl T n p) = 93 := (sg_eq (c := 93) hT (by omega)).mp w
      have hl : bl T n p < n := at_lt (T := T) (by omega)
      rw [e1, nI_1]
      have f2 : FrC A3 h1 (setI h1 29 3 (nI (bl T n p + 1))) := FrC.stI ⟨rfl, rfl⟩
      exact hQ _ (.inl f) ((f3x f1).tr (f3x f2)) ((D.mv f1 b2 e1).mv f2 hl rdI) trivial (GoX.rf _)
    · have C1 := C.fr (f3x f1)
      have D1 := D.mv f1 b2 e1
      rw [e1]
      refine c_fail (c := 0) C1.1.1 (fun h9 f9 e9 => ⟨f9.lay C1.1.1, ?_⟩)
      rw [if_neg D1.nz] at e9
      refine hQ h9 (.inl f) ((f3x f1).tr (f4x f9)) ⟨⟨_, b2, (f9.I (by unfold A4; omega)).trans e1⟩, e9.trans D1.2.1, D1.2.2.1, ?_⟩ trivial (GoX.rf _)
      obtain ⟨s, h1, h2⟩ := D1.2.2.2
      exact ⟨s, h1, (f9.I (by unfold A4; omega)).trans h2⟩
  · have D : CDs r h σ := D
    have N : ¬ at_ T n (sp σ) = 32 := N
    have hp : sp σ ≤ n := I.1.1
    have e4 : se σ ≤ 253 := iv_e n4 I
    have s2 := st_2 T n S σ
    refine wX6_expectClosing_0 C.1.1 (c_next C.1 D.1 hp (fun h1 f1 e1 => ⟨f1.lay C.1.1, fun w => ?_, fun w => ?_⟩))
    · rw [nb_bl N] at e1 w
      have ea : at_ T n (sp σ) = 93 := (sg_eq (c := 93) hT (by omega)).mp w
      have hl : sp σ < n := at_lt (T := T) (by omega)
      rw [e1, nI_1]
      rw [if_pos ea] at s2
      have f2 : FrC A3 h1 (setI h1 29 3 (nI (sp σ + 1))) := FrC.stI ⟨rfl, rfl⟩
      exact hQ _ (.inr (1, S, pu σ (sp σ + 1))) ((f3x f1).tr (f3x f2)) ((D.mv f1 e1).mv f2 rdI) ⟨rfl, rfl, iv_cl I hl⟩ (GoX.st s2 (Nat.le_succ _))
    · rw [nb_bl N] at e1 w
      have ea : ¬ at_ T n (sp σ) = 93 := fun z => w ((sg_eq (c := 93) hT (by omega)).mpr z)
      rw [if_neg ea] at s2
      have C1 := C.fr (f3x f1)
      have D1 := D.mv f1 e1
      rw [e1]
      refine c_fail (c := 0) C1.1.1 (fun h9 f9 e9 => ⟨f9.lay C1.1.1, ?_⟩)
      rw [D1.2.1, if_pos rfl] at e9
      exact hQ h9 (.inl _) ((f3x f1).tr (f4x f9)) (D1.ft n4 (by show se σ ≤ 400; omega) (by omega) (f9.wd (fun x k w => by unfold A4 at w; unfold A34; omega)) hp ((f9.I (by unfold A4; omega)).trans e1) e9) trivial (GoX.ft s2)
end CF
