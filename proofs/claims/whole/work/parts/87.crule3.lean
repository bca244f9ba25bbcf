/-! rule() of the class -/
def FLy (A : Nat → Nat → Prop) (h h' : HP) : Prop := Lay h' ∧ h'.1 = h.1 ∧ hJ h' = hJ h ∧ ∀ x k, ¬ A x k → hI h' x k = hI h x k
theorem FLy.of {A : Nat → Nat → Prop} {h h' : HP} (L : Lay h) (f : FrC A h h') (hj : ∀ x k, A x k → ¬ JC x) : FLy A h h' := ⟨f.lay L, f.1, by funext x k; exact (f.2.2 x k).2 (fun w => hj x k w.1 w.2), fun x k w => f.I w⟩
theorem FLy.tr {A B : Nat → Nat → Prop} {h h1 h2 : HP} (p : FLy A h h1) (q : FLy B h1 h2) : FLy (fun x k => A x k ∨ B x k) h h2 := ⟨q.1, q.2.1.trans p.2.1, q.2.2.1.trans p.2.2.1, fun x k w => (q.2.2.2 x k (fun z => w (Or.inr z))).trans (p.2.2.2 x k (fun z => w (Or.inl z)))⟩
theorem FLy.wd {A B : Nat → Nat → Prop} {h h1 : HP} (p : FLy A h h1) (hw : ∀ x k, A x k → B x k) : FLy B h h1 := ⟨p.1, p.2.1, p.2.2.1, fun x k w => p.2.2.2 x k (fun z => w (hw x k z))⟩
def ARr (cnt x k : Nat) : Prop := x = 29 ∨ (126 + 5 * cnt ≤ x ∧ x ≤ 130 + 5 * cnt) ∨ (x = 0 ∧ (k = 1 ∨ k = 3))
section CR3
variable {g : GT} {d n : Nat} {T : Nat → Nat} {h : HP}
theorem c_open {Q : HP → Prop} (L : Lay h) (hn : n ≤ 400) (hT : (∀ i, i < n → hI h 1 i = nI (T i)) ∧ ∀ i, i < n → T i < 256) (hQ : ∀ h', FLy (fun x _ => x = 29) h h' → CT0 T n h' → hI h' 29 3 = 0 → hI h' 29 4 = 0 → hI h' 29 5 = 0 → Q h') : CallV g mX6_open (d + 1) (0, 0) [.ref 29, .ref 1, .int (nI n)] h Q := by
  have L1 : Lay (setR h 29 1 (some 1)) := L.tr (Or.inl rfl)
  refine wX6_open_0 _ L ?_
  rw [Ln L N_1]
  refine c_min ⟨L1, ?_⟩
  rw [if_neg (show ¬ (Int32.ofNat 400) < nI n from nI_nlt (a := 400) (b := n) hn (by omega))]
  refine c_max ⟨L1, ?_⟩
  have e0 : (if (0 : Int32) < nI n then nI n else 0) = nI n := by
    by_cases c : 0 < n
    · rw [if_pos (show (0 : Int32) < nI n from nI_lt (a := 0) c (by omega))]
    · have : n = 0 := by omega
      subst this; rfl
  rw [e0]
  refine hQ _ ⟨L1.to rfl rfl rfl, rfl, rfl, fun x k w => ?_⟩ ⟨L1.to rfl rfl rfl, ?_, hn, rfl, fun i hi => ?_, hT.2⟩ rfl rfl rfl
  · rw [rdn (by omega), rdn (by omega), rdn (by omega), rdn (by omega)]; rfl
  · show up2 (hR h) 29 1 (some 1) 29 1 = some 1
    exact up2_eq _ _ _ _
  · rw [rdn (by omega), rdn (by omega), rdn (by omega), rdn (by omega)]; exact hT.1 i hi
theorem c_rule {cnt : Nat} {Q : Int32 → HP → Prop} (L : Lay h) (hn : n ≤ 400) (e01 : hI h 0 1 = nI n) (hT : (∀ i, i < n → hI h 1 i = nI (T i)) ∧ ∀ i, i < n → T i < 256) (hc : cnt ≤ 6) (e03 : hI h 0 3 = nI cnt) (h6 : cnt = 6 → Q (-1) h) (hF : cnt < 6 → ∀ h' f, FLy (ARr cnt) h h' → hI h' 0 1 = 0 → hI h' 0 3 = nI cnt → EnX T n (.inr (6, [], σ00)) (.inl f) → (1 ≤ f ∧ f < 10000) → Q (-2 - nI f) h') (hY : cnt < 6 → ∀ h' σ, FLy (ARr cnt) h h' → hI h' 0 1 = 0 → hI h' 0 3 = nI (cnt + 1) → EnX T n (.inr (6, [], σ00)) (.inr σ) → Inv n (9, [], σ) → CRule h' (126 + 5 * cnt) (pgS σ) → Q (nI cnt) h') : CallI g mX9_rule (d + 32) [.ref 0] h Q := by
  refine wX9_rule_0 L ?_
  rw [e03, e01, nI_clamp (n := cnt) (by omega)]
  refine ⟨fun w => ?_, fun w => h6 (by
    have : ¬ cnt < 6 := fun z => w (nI_lt (a := cnt) (b := 6) z (by omega))
    omega)⟩
  have c6 : cnt < 6 := (nI_ltI (a := cnt) (b := 6) (by omega) (by omega)).mp w
  refine ⟨vn (by omega) (by omega), _, Lrl L c6, wX6_readRule_0 _ _ L (c_open L hn hT (fun h1 f1 C1 p1 p2 p3 => ⟨C1.1, ?_⟩))⟩
  have L2 : Lay (setR h1 29 6 (some (126 + 5 * cnt))) := C1.1.tr (Or.inr rfl)
  have K2 := (Lru L2 c6).1
  refine ⟨K2, vX7_clear_0 _ _ ⟨K2, K2, L2.to rfl rfl rfl, ?_⟩⟩
  have R1 : hR (setI (setI (setR h1 29 6 (some (126 + 5 * cnt))) (126 + 5 * cnt) 2 0) (126 + 5 * cnt) 5 0) 29 1 = some 1 := by
    show up2 (hR h1) 29 6 (some (126 + 5 * cnt)) 29 1 = some 1
    rw [up2_ne _ _ (by omega)]; exact C1.2.1
  have R6 : hR (setI (setI (setR h1 29 6 (some (126 + 5 * cnt))) (126 + 5 * cnt) 2 0) (126 + 5 * cnt) 5 0) 29 6 = some (126 + 5 * cnt) := by show up2 (hR h1) 29 6 (some (126 + 5 * cnt)) 29 6 = _; exact up2_eq _ _ _ _
  have I2 : ∀ x k, ¬ (x = 126 + 5 * cnt ∧ (k = 2 ∨ k = 5)) → hI (setI (setI (setR h1 29 6 (some (126 + 5 * cnt))) (126 + 5 * cnt) 2 0) (126 + 5 * cnt) 5 0) x k = hI h1 x k := fun x k w => by rw [rdn (by omega), rdn (by omega)]; rfl
  have g2 : hI (setI (setI (setR h1 29 6 (some (126 + 5 * cnt))) (126 + 5 * cnt) 2 0) (126 + 5 * cnt) 5 0) (126 + 5 * cnt) 2 = 0 := by rw [rdn (by omega), rdI]
  have g5 : hI (setI (setI (setR h1 29 6 (some (126 + 5 * cnt))) (126 + 5 * cnt) 2 0) (126 + 5 * cnt) 5 0) (126 + 5 * cnt) 5 = 0 := rdI
  have f2 : FLy (fun x k => x = 126 + 5 * cnt ∧ (k = 2 ∨ k = 5)) h1 (setI (setI (setR h1 29 6 (some (126 + 5 * cnt))) (126 + 5 * cnt) 2 0) (126 + 5 * cnt) 5 0) := ⟨L2.to rfl rfl rfl, rfl, rfl, fun x k w => I2 x k w⟩
  generalize setI (setI (setR h1 29 6 (some (126 + 5 * cnt))) (126 + 5 * cnt) 2 0) (126 + 5 * cnt) 5 0 = h2 at R1 R6 I2 g2 g5 f2 ⊢
  have C2 : CT T n cnt h2 := ⟨⟨f2.1, R1, hn, (I2 _ _ (by omega)).trans C1.2.2.2.1, fun i hi => (I2 _ _ (by omega)).trans (C1.2.2.2.2.1 i hi), hT.2⟩, R6, c6⟩
  have F2 : FLy (ARr cnt) h h2 := (f1.tr f2).wd (fun x k w => by unfold ARr; omega)
  have fl : ∀ h3, FrC (AR cnt) h2 h3 → FLy (ARr cnt) h h3 := fun h3 f3 => (F2.tr (FLy.of f2.1 f3 (fun x k w => by unfold AR at w; unfold JC; omega))).wd (fun x k w => w.elim id (fun z => by unfold AR at z; unfold ARr; omega))
  have done : ∀ h3 v, FLy (ARr cnt) h h3 → FLy (ARr cnt) h (setI h3 0 1 v) := fun h3 v f3 => (f3.tr (FLy.of (A := fun x k => x = 0 ∧ k = 1) f3.1 (FrC.stI ⟨rfl, rfl⟩) (fun x k w => by unfold JC; omega))).wd (fun x k w => w.elim id (fun z => by unfold ARr; omega))
  refine c_ruleLoop (d := d) C2 (fun h3 f F3 E3 hf => ⟨F3.lay f2.1, fun z => absurd z (nI_ne0 (by omega) (by omega)), fun _ => ?_⟩) (fun h3 σ F3 E3 I3 R3 => ⟨F3.lay f2.1, fun _ => ?_, fun z => absurd rfl z⟩) 12 0 (by omega) h2 σ00 (inv00 n) ⟨rfl, FrC.rf h2, ⟨(I2 _ _ (by omega)).trans p1, (I2 _ _ (by omega)).trans p2, (I2 _ _ (by omega)).trans p3, g2, fun i hi => absurd hi (Nat.not_lt_zero _)⟩, fun i hi => absurd hi (Nat.not_lt_zero _), g5, fun z hz => hz⟩
  · have F3' := fl h3 F3
    refine hF c6 _ f (done h3 0 F3') rdI ?_ E3 hf
    rw [rdn (by omega), F3.I (by unfold AR; omega), I2 _ _ (by omega), f1.2.2.2 _ _ (by omega)]; exact e03
  · have F3' := fl h3 F3
    have e3 : hI h3 0 3 = nI cnt := by rw [F3.I (by unfold AR; omega), I2 _ _ (by omega), f1.2.2.2 _ _ (by omega)]; exact e03
    rw [e3, nI_1, nI_pred]
    refine hY c6 _ σ (((done h3 0 F3').tr (FLy.of (A := fun x k => x = 0 ∧ k = 3) (done h3 0 F3').1 (FrC.stI ⟨rfl, rfl⟩) (fun x k w => by unfold JC; omega))).wd (fun x k w => w.elim id (fun z => by unfold ARr; omega))) (by rw [rdn (by omega), rdI]) rdI E3 I3 (R3.to (fun x k hx => by rw [rdn (by omega), rdn (by omega)]))
end CR3
