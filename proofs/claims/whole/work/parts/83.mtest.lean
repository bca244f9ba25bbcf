/-! the reference reads FACTS and TESTS -/
def rc (x : Nat) : Nat := if x = 15 then 12 else sg x
def OpIs (h : HP) : List Nat → Prop
  | [] => True
  | x :: S => (12 ≤ x ∧ x ≤ 15 → hI h 283 (cn S) = nI (rc x)) ∧ OpIs h S
def MOp (h : HP) (S : List Nat) : Prop := hI h 252 30 = nI (dpS S) ∧ hI h 252 32 = nI (cn S) ∧ OpIs h S
def MY (r x k : Nat) : Prop := MX r x k ∨ (x = 252 ∧ (k = 30 ∨ k = 32)) ∨ x = 283
theorem mxy {r : Nat} {h h' : HP} (f : FrC (MX r) h h') : FrC (MY r) h h' := f.wd (fun x k w => Or.inl w)
theorem MT.fy {T : Nat → Nat} {n r : Nat} {h h' : HP} (C : MT T n r h) (f : FrC (MY r) h h') : MT T n r h' := ⟨C.1.fr f (fun k w => by unfold MY MX at w; omega) (fun w => by unfold MY MX at w; omega), (f.I (by unfold MY MX; omega)).trans C.2.1, C.2.2.1, (f.I (by unfold MY MX; omega)).trans C.2.2.2⟩
theorem OpIs.to {h h' : HP} : ∀ {S : List Nat}, OpIs h S → (∀ k, k < cn S → hI h' 283 k = hI h 283 k) → OpIs h' S
  | [], _, _ => trivial
  | x :: S, H, e => by
    refine ⟨fun hx => ?_, OpIs.to H.2 (fun k hk => e k (by rw [cn]; omega))⟩
    rw [e (cn S) (by rw [cn, if_pos hx]; omega)]
    exact H.1 hx
theorem MOp.to {r : Nat} {h h' : HP} {S : List Nat} (H : MOp h S) (f : FrC (MX r) h h') : MOp h' S := ⟨(f.I (by unfold MX; omega)).trans H.1, (f.I (by unfold MX; omega)).trans H.2.1, H.2.2.to (fun k _ => f.I (by unfold MX; omega))⟩
theorem cn17 {S : List Nat} (h : Sh (17 :: S)) : S = [] ∧ cn (17 :: S) = 0 := by
  have hS : S = [] := by
    cases S with
    | nil => rfl
    | cons x S2 =>
      have o := h.1
      have o2 := h.2.1
      unfold stkT at o o2
      simp only [List.headD_cons] at o
      omega
  subst hS
  exact ⟨rfl, rfl⟩
def AO (x k : Nat) : Prop := (x = 252 ∧ (k = 26 ∨ k = 30 ∨ k = 32)) ∨ x = 283
section MTT
variable {g : GT} {d n r p : Nat} {T : Nat → Nat} {h : HP} {x : CX} {S : List Nat}
theorem m_top {y : Nat} {Q : Int32 → HP → Prop} (L : Lay h) (H : MOp h (y :: S)) (hS : Sh (y :: S)) (hc : cn (y :: S) ≤ 400) (h1 : 12 ≤ y ∧ y ≤ 15 → Q (nI (rc y)) h) (h2 : y = 17 → Q (-1) h) (hy : (12 ≤ y ∧ y ≤ 15) ∨ y = 17) : CallI g mX10_top d [.ref 252] h Q := by
  refine wX10_top_0 L ?_
  rw [H.2.1]
  rcases hy with hy | hy
  · have e : cn (y :: S) = cn S + 1 := by rw [cn, if_pos hy]; omega
    rw [e, nI_pred, nI_clamp (n := cn S) (by omega), H.2.2.1 hy]
    exact ⟨fun w => absurd w (nI_ne0 (by omega) (by omega)), fun _ => ⟨vn (by omega) (by omega), h1 hy⟩⟩
  · subst hy
    rw [(cn17 hS).2]
    exact ⟨fun _ => h2 rfl, fun w => absurd rfl w⟩
/-- what is opened: within, or AND and OR -/
theorem m_opensW {y P : Nat} {Q : HP → Prop} (hy : y = 14 ∨ y = 15) (L : Lay h) (H : MOp h S) (hd : dpS S ≤ 10) (hc : cn S ≤ 400) (e5 : hI h 252 25 = nI P) (e6 : hI h 252 26 = 0) (hP : P ≤ 400) (yes : dpS S < 10 → ∀ h', FrC AO h h' → hI h' 252 26 = 0 → MOp h' (y :: S) → Q h') (no : 10 ≤ dpS S → ∀ h', FrC AO h h' → hI h' 252 26 = nI (1 + 8 * P + 2) → Q h') : CallV g mX10_opens (d + 1) (0, 0) [.ref 252, .int (nI (rc y))] h Q := by
  have c1 : cn (y :: S) = cn S + 1 := by rw [cn, if_pos (by omega)]; omega
  have c2 : dpS (y :: S) = dpS S + 1 := by rw [dpS, if_pos (by omega)]; omega
  have e30 : nI (dpS S) = 10 ↔ dpS S = 10 := nI_eq (a := dpS S) (b := 10) (by omega) (by omega)
  have both : (hI h 252 30 = 10 → CallV g mX10_fails d (0, 0) [Value.ref 252, .int 2, .int (hI h 252 25)] h (fun h3 => Lay h3 ∧ vp_in (hI h3 252 32) 402 ∧ qV Q none (setI (setI (setI h3 252 30 ((hI h3 252 30) + 1)) 283 (hI h3 252 32).toNatClampNeg (nI (rc y))) 252 32 ((hI h3 252 32) + 1)))) ∧ (¬ (hI h 252 30 = 10) → vp_in (hI h 252 32) 402 ∧ qV Q none (setI (setI (setI h 252 30 ((hI h 252 30) + 1)) 283 (hI h 252 32).toNatClampNeg (nI (rc y))) 252 32 ((hI h 252 32) + 1))) := by
    refine ⟨fun w => ?_, fun w => ?_⟩
    · rw [e5]
      refine m_fails (c := 2) L (fun h3 f3 e3 => ⟨f3.lay L, ?_⟩)
      rw [e6, if_pos rfl] at e3
      have e32 : hI h3 252 32 = nI (cn S) := (f3.I (by unfold A26; omega)).trans H.2.1
      rw [e32, nI_clamp (n := cn S) (by omega)]
      refine ⟨vn (by omega) (by omega), no (by rw [H.1] at w; have := e30.mp w; omega) _ ((((f3.wd (fun x k w => by unfold A26 at w; unfold AO; omega)).tr (FrC.stI (by unfold AO; omega))).tr (FrC.stI (by unfold AO; omega))).tr (FrC.stI (by unfold AO; omega))) ?_⟩
      rw [rdn (by omega), rdn (by omega), rdn (by omega)]; exact e3
    · rw [H.1, H.2.1, nI_clamp (n := cn S) (by omega), nI_1, nI_1]
      have d10 : ¬ dpS S = 10 := fun z => w (by rw [H.1]; exact e30.mpr z)
      refine ⟨vn (by omega) (by omega), yes (by omega) _ (((FrC.stI (by unfold AO; omega)).tr (FrC.stI (by unfold AO; omega))).tr (FrC.stI (by unfold AO; omega))) ?_ ⟨?_, ?_, fun _ => ?_, ?_⟩⟩
      · rw [rdn (by omega), rdn (by omega), rdn (by omega)]; exact e6
      · rw [rdn (by omega), rdn (by omega), rdI, c2]
      · rw [rdI, c1]
      · rw [rdn (by omega), rdI]
      · refine H.2.2.to (fun k hk => ?_)
        rw [rdn (by omega), rdn (by omega), rdn (by omega)]
  refine wX10_opens_0 _ L ⟨fun _ => both, fun w => ⟨fun _ => both, fun w2 => ?_⟩⟩
  rcases hy with rfl | rfl
  · exact absurd rfl w
  · exact absurd rfl w2
theorem m_opensJ {y : Nat} {Q : HP → Prop} (hy : y = 12 ∨ y = 13) (L : Lay h) (H : MOp h S) (hc : cn S ≤ 400) (yes : ∀ h', FrC AO h h' → hI h' 252 26 = hI h 252 26 → MOp h' (y :: S) → Q h') : CallV g mX10_opens (d + 1) (0, 0) [.ref 252, .int (nI (rc y))] h Q := by
  have c1 : cn (y :: S) = cn S + 1 := by rw [cn, if_pos (by omega)]; omega
  have c2 : dpS (y :: S) = dpS S := by rw [dpS, if_neg (by omega)]; omega
  refine wX10_opens_0 _ L ⟨fun w => ?_, fun _ => ⟨fun w => ?_, fun _ => ?_⟩⟩
  · rcases hy with rfl | rfl <;> exact absurd w (by decide)
  · rcases hy with rfl | rfl <;> exact absurd w (by decide)
  · rw [H.2.1, nI_clamp (n := cn S) (by omega), nI_1]
    refine ⟨vn (by omega) (by omega), yes _ ((FrC.stI (by unfold AO; omega)).tr (FrC.stI (by unfold AO; omega))) ?_ ⟨?_, ?_, fun _ => ?_, ?_⟩⟩
    · rw [rdn (by omega), rdn (by omega)]
    · rw [rdn (by omega), rdn (by omega), c2]; exact H.1
    · rw [rdI, c1]
    · rw [rdn (by omega), rdI]
    · refine H.2.2.to (fun k hk => ?_)
      rw [rdn (by omega), rdn (by omega)]
/-- NOT or AND on the top are answered; the place in the heap may be further on -/
theorem m_answers {y P : Nat} (hy : y = 14 ∨ y = 12) {Q : HP → Prop} : ∀ (S : List Nat) (h : HP) (σ : PS), MT T n r h → MDs r h (pu σ P) → Inv n (1, S, σ) → MOp h S → (∀ h' S' σ', FrC (MY r) h h' → MDs r h' (pu σ' P) → Inv n (1, S', σ') → MOp h' S' → GoX T n (.inr (1, S, σ)) (.inr (1, S', σ')) → sp σ' = sp σ → ¬ S'.headD 0 = y → (¬ S.headD 0 = y → S' = S) → (y = 12 → (S.headD 0 = 12 ∧ S' = S.tail) ∨ S' = S) → Q h') → CallV g mX10_answers (d + 1) (0, 0) [.ref 252, .int (nI (rc y))] h Q := by
  intro S
  induction S with
  | nil =>
    intro h σ C D I H hQ
    have t : (12 ≤ 0 ∧ 0 ≤ 15) ∨ 0 = 17 := I.2.2.2.2.2.1
    omega
  | cons y0 S ih =>
    intro h σ C D I H hQ
    have n4 := C.1.2.1
    have t : (12 ≤ y0 ∧ y0 ≤ 15) ∨ y0 = 17 := I.2.2.2.2.2.1
    have hp : sp σ ≤ n := I.1.1
    have hcn : cn (y0 :: S) ≤ sp σ := I.2.2.1.1
    have hsh : Sh (y0 :: S) := I.2.2.1.2.2
    have e53 : se σ ≤ 253 := iv_e n4 I
    have stop : ¬ y0 = y → Q h := fun w => hQ h (y0 :: S) σ (FrC.rf h) D I H (GoX.rf _) rfl w (fun _ => rfl) (fun _ => Or.inr rfl)
    refine wX10_answers_0 _ C.1.1 (m_top C.1.1 H hsh (by omega) (fun t2 => ⟨C.1.1, fun w => ⟨fun _ => ?_, fun z => absurd D.2.1 z⟩, fun w => stop (fun z => w (by rw [z]))⟩) (fun t2 => ⟨C.1.1, fun w => absurd w.symm (nI_m1 (by rcases hy with rfl | rfl <;> decide)), fun _ => stop (by omega)⟩) t)
    have ey : y0 = y := by
      have := (nI_eq (by unfold rc sg; rcases (show y0 = 12 ∨ y0 = 13 ∨ y0 = 14 ∨ y0 = 15 by omega) with rfl | rfl | rfl | rfl <;> decide) (by rcases hy with rfl | rfl <;> decide)).mp w
      rcases hy with rfl | rfl <;> rcases (show y0 = 12 ∨ y0 = 13 ∨ y0 = 14 ∨ y0 = 15 by omega) with rfl | rfl | rfl | rfl <;> first | rfl | exact absurd this (by decide)
    subst ey
    have er : rc y0 = sg y0 := if_neg (by omega)
    rw [er]
    have c1 : cn (y0 :: S) = cn S + 1 := by rw [cn, if_pos t2]; omega
    have s1 : stp T n (1, y0 :: S, σ) = .inr (1, S, em σ y0 0) := by rcases hy with rfl | rfl <;> rfl
    have I2 : Inv n (1, S, em σ y0 0) := iv_ans (Or.inl rfl) I (by omega) (fun z => absurd z (by decide))
    refine m_entryS (k := y0) (v := 0) C D (by show se σ < 300; omega) (fun h3 f3 D3 => ⟨f3.lay C.1.1, ?_⟩)
    have e32 : hI h3 252 32 = nI (cn S + 1) := (f3.I (by unfold MX; omega)).trans (H.2.1.trans (by rw [c1]))
    have e30 : hI h3 252 30 = nI (dpS (y0 :: S)) := (f3.I (by unfold MX; omega)).trans H.1
    have go : ∀ v : Int32, v = nI (dpS S) → Sat g mX10_answers (d + 1) (0, 0) (qV Q) 0 [Value.ref 252, .int (nI (sg y0))] [] (setI (setI h3 252 32 ((hI h3 252 32) - 1)) 252 30 v) := by
      intro v ev
      subst ev
      have f4 : FrC (fun x k => x = 252 ∧ (k = 30 ∨ k = 32)) h3 (setI (setI h3 252 32 ((hI h3 252 32) - 1)) 252 30 (nI (dpS S))) := (FrC.stI (by omega)).tr (FrC.stI (by omega))
      have e30' : hI (setI (setI h3 252 32 ((hI h3 252 32) - 1)) 252 30 (nI (dpS S))) 252 30 = nI (dpS S) := rdI
      have e32' : hI (setI (setI h3 252 32 ((hI h3 252 32) - 1)) 252 30 (nI (dpS S))) 252 32 = nI (cn S) := by rw [rdn (by omega), rdI, e32, nI_pred]
      generalize setI (setI h3 252 32 ((hI h3 252 32) - 1)) 252 30 (nI (dpS S)) = h4 at f4 e30' e32' ⊢
      have F4 : FrC (MY r) h h4 := (mxy f3).tr (f4.wd (fun x k w => by unfold MY; omega))
      have H4 : MOp h4 S := ⟨e30', e32', H.2.2.2.to (fun k _ => by rw [f4.I (by omega), f3.I (by unfold MX; omega)])⟩
      have D4 : MDs r h4 (pu (em σ y0 0) P) := ⟨(f4.I (by omega)).trans D3.1, (f4.I (by omega)).trans D3.2.1, (f4.I (by omega)).trans D3.2.2.1, (f4.I (by omega)).trans D3.2.2.2.1, fun i hi => by rw [f4.I (by omega), f4.I (by omega)]; exact D3.2.2.2.2 i hi⟩
      have q := ih h4 (em σ y0 0) (C.fy F4) D4 I2 H4 (fun h' S' σ' f' D' I' H' G' ep hn hk hz => hQ h' S' σ' (F4.tr f') D' I' H' ((GoX.st s1 (Nat.le_refl _)).tr G') ep hn (fun z => absurd rfl z) (fun z => Or.inl ⟨z, ?_⟩))
      · rw [er] at q; exact q
      · rcases hz z with hz | hz
        · have o := hsh.1
          subst z
          unfold stkT at o
          omega
        · exact hz
    rw [e30]
    rcases hy with rfl | rfl
    · refine ⟨fun _ => go _ ?_, fun z => absurd rfl z⟩
      rw [show dpS (14 :: S) = dpS S + 1 by rw [dpS, if_pos (by decide)]; omega, nI_pred]
    · refine ⟨fun z => absurd z (by decide), fun _ => go _ ?_⟩
      rw [show dpS (12 :: S) = dpS S by rw [dpS, if_neg (by decide)]; omega]
      exact Int32.sub_zero _
theorem m_answersN {y : Nat} {c0 : Int32} {Q : HP → Prop} (C : MT T n r h) (H : MOp h (y :: S)) (hS : Sh (y :: S)) (hc : cn (y :: S) ≤ 400) (hy : (12 ≤ y ∧ y ≤ 15) ∨ y = 17) (hne : 12 ≤ y ∧ y ≤ 15 → ¬ nI (rc y) = c0) (hne2 : ¬ c0 = -1) (hQ : Q h) : CallV g mX10_answers (d + 1) (0, 0) [.ref 252, .int c0] h Q :=
  wX10_answers_0 _ C.1.1 (m_top C.1.1 H hS hc (fun t2 => ⟨C.1.1, fun w => absurd w (hne t2), fun _ => hQ⟩) (fun t2 => ⟨C.1.1, fun w => absurd w.symm hne2, fun _ => hQ⟩) hy)
end MTT
