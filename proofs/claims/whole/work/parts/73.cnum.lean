/-! the class reads numbers; steps of a rule; the machine's steps -/
def A4 (x k : Nat) : Prop := x = 29 ∧ k = 4
def A34 (x k : Nat) : Prop := x = 29 ∧ (k = 3 ∨ k = 4)
theorem CT0.f34 {T : Nat → Nat} {n : Nat} {h h' : HP} (C : CT0 T n h) (f : FrC A34 h h') : CT0 T n h' := C.fr f (fun k w => by unfold A34 at w; omega) (fun w => by unfold A34 at w; omega)
theorem flt (p c : Nat) : (1 + (8 * nI p)) + nI c = nI (1 + 8 * p + c) := by
  rw [show (8 : Int32) = nI 8 from rfl, pk_mul, show (1 : Int32) = nI 1 from rfl, nI_add, nI_add]
section CN
variable {g : GT} {d n p : Nat} {T : Nat → Nat} {h : HP}
theorem c_fail {c p : Nat} {Q : HP → Prop} (L : Lay h) (hQ : ∀ h', FrC A4 h h' → hI h' 29 4 = (if hI h 29 4 = 0 then nI (1 + 8 * p + c) else hI h 29 4) → Q h') : CallV g mX6_fail d (0, 0) [.ref 29, .int (nI c), .int (nI p)] h Q := by
  refine wX6_fail_0 _ _ L ⟨fun w => ?_, fun w => ?_⟩
  · refine hQ _ (FrC.stI ⟨rfl, rfl⟩) ?_
    rw [rdI, if_pos w, flt]
  · exact hQ h (FrC.rf h) (by rw [if_neg w])
theorem c_readNumber {a b : Nat} {Q : Int32 → HP → Prop} (C : CT0 T n h) (hp : hI h 29 3 = nI p) (hpn : p ≤ n) (hb : b ≤ 99999) (hab : a ≤ b) (yes : (48 ≤ at_ T n (bl T n p) ∧ at_ T n (bl T n p) ≤ 57) → (dgN T n (bl T n p)).1 - bl T n p ≤ 5 → a ≤ (dgN T n (bl T n p)).2 → (dgN T n (bl T n p)).2 ≤ b → ∀ h', FrC A3 h h' → hI h' 29 3 = nI (dgN T n (bl T n p)).1 → Q (nI (dgN T n (bl T n p)).2) h') (no : ∀ c h' p' v, ((¬ (48 ≤ at_ T n (bl T n p) ∧ at_ T n (bl T n p) ≤ 57) ∧ c = 0) ∨ ((48 ≤ at_ T n (bl T n p) ∧ at_ T n (bl T n p) ≤ 57) ∧ ¬ ((dgN T n (bl T n p)).1 - bl T n p ≤ 5 ∧ a ≤ (dgN T n (bl T n p)).2 ∧ (dgN T n (bl T n p)).2 ≤ b) ∧ c = 1)) → FrC A34 h h' → p' ≤ n → hI h' 29 3 = nI p' → hI h' 29 4 = (if hI h 29 4 = 0 then nI (1 + 8 * bl T n p + c) else hI h 29 4) → Q v h') : CallI g mX6_readNumber (d + 1) [.ref 29, .int (nI a), .int (nI b)] h Q := by
  have c1 := C.2.2.1
  obtain ⟨r1, r2, r3⟩ := bl_rg (T := T) hpn
  refine wX6_readNumber_0 _ _ C.1 (c_next C hp hpn (fun h1 f1 e1 => ⟨f1.lay C.1, ?_⟩))
  have C1 := C.f3 f1
  rw [e1]
  generalize hP : bl T n p = P at *
  refine c_isDigit C1.1 (sg_c C.2.2.2.2.2) (fun dd => ⟨C1.1, fun z => absurd z (by decide), fun _ => ?_⟩) (fun nd => ⟨C1.1, fun _ => ?_, fun z => absurd rfl z⟩)
  · -- a number
    obtain ⟨g1, g2, g3⟩ := dg_rg (T := T) (n := n) (p := P) (by omega)
    have fin : ∀ h', FrC A3 h h' → hI h' 29 3 = nI (dgN T n P).1 → (5 < (hI h' 29 3 - nI P) → CallV g mX6_fail d (0, 0) [Value.ref 29, .int 1, .int (nI P)] h' (fun h1 => Lay h1 ∧ qI Q (some (.int (nI (dgN T n P).2))) h1)) ∧ (¬ (5 < (hI h' 29 3 - nI P)) → (nI (dgN T n P).2 < nI a → CallV g mX6_fail d (0, 0) [Value.ref 29, .int 1, .int (nI P)] h' (fun h2 => Lay h2 ∧ qI Q (some (.int (nI (dgN T n P).2))) h2)) ∧ (¬ (nI (dgN T n P).2 < nI a) → (nI (dgN T n P).2 ≤ nI b → qI Q (some (.int (nI (dgN T n P).2))) h') ∧ (¬ (nI (dgN T n P).2 ≤ nI b) → CallV g mX6_fail d (0, 0) [Value.ref 29, .int 1, .int (nI P)] h' (fun h3 => Lay h3 ∧ qI Q (some (.int (nI (dgN T n P).2))) h3)))) := by
      intro h' f e
      have C' := C.f3 f
      have bad : ¬ ((dgN T n P).1 - P ≤ 5 ∧ a ≤ (dgN T n P).2 ∧ (dgN T n P).2 ≤ b) → CallV g mX6_fail d (0, 0) [Value.ref 29, .int 1, .int (nI P)] h' (fun h1 => Lay h1 ∧ qI Q (some (.int (nI (dgN T n P).2))) h1) := fun z =>
        c_fail (c := 1) C'.1 (fun h2 f2 e2 => ⟨f2.lay C'.1, no 1 h2 (dgN T n P).1 _ (Or.inr ⟨dd, z, rfl⟩) ((f.wd (fun x k w => by unfold A3 at w; unfold A34; omega)).tr (f2.wd (fun x k w => by unfold A4 at w; unfold A34; omega))) g2 ((f2.I (by unfold A4; omega)).trans e) (by rw [e2, f.I (by unfold A3; omega)])⟩)
      rw [e, pk_sub g1]
      refine ⟨fun z => bad (fun w => ?_), fun z1 => ⟨fun z => bad (fun w => ?_), fun z2 => ⟨fun z3 => yes dd ?_ ?_ ?_ h' f e, fun z => bad (fun w => ?_)⟩⟩⟩
      · have := (nI_ltI (a := 5) (b := (dgN T n P).1 - P) (by omega) (by omega)).mp z; omega
      · have := (nI_ltI (a := (dgN T n P).2) (b := a) (by omega) (by omega)).mp z; omega
      · exact Nat.le_of_not_lt (fun w => z1 (nI_lt (a := 5) w (by omega)))
      · exact Nat.le_of_not_lt (fun w => z2 (nI_lt w (by omega)))
      · exact (nI_leI (by omega) (by omega)).mp z3
      · exact z (nI_le w.2.2 (by omega))
    have key : ∀ k p v h', p + k = n → P ≤ p → FrC A3 h h' → hI h' 29 3 = nI p → dgF T P k p v = dgN T n P → Sat g mX6_readNumber (d + 1) (0, 0) (qI Q) 28 [.ref 29, .int (nI a), .int (nI b), .double 0, .int (nI P), .int (nI v)] [] h' := by
      intro k
      induction k with
      | zero =>
        intro p v h' e hP f ep hd
        have C' := C.f3 f
        have F := fin h' f (by rw [← hd]; exact ep)
        rw [← hd] at F
        refine wX6_readNumber_28 _ _ _ _ C'.1 ⟨fun _ => F, fun w => absurd ?_ w⟩
        rw [ep, C'.2.2.2.1]; exact nI_le (by omega) (by omega)
      | succ k ih =>
        intro p v h' e hP f ep hd
        have C' := C.f3 f
        rw [dgF] at hd
        refine wX6_readNumber_28 _ _ _ _ C'.1 ⟨fun w => absurd ?_ (nI_ge (a := p) (b := n) (by omega) (by omega)), fun w => ⟨1, C'.2.1, Lk C'.1 K_1, ?_, ?_⟩⟩
        · rw [ep, C'.2.2.2.1] at w; exact w
        · rw [ep, Ln C'.1 N_1]; exact vn (by omega) (by omega)
        · rw [ep, nI_clamp (n := p) (by omega), C'.2.2.2.2.1 p (by omega)]
          have t256 := C'.2.2.2.2.2 p (by omega)
          refine c_isDigit C'.1 (Or.inl ⟨rfl, t256⟩) (fun dd2 => ⟨C'.1, fun z => absurd z (by decide), fun _ => ?_⟩) (fun nd => ⟨C'.1, fun _ => ?_, fun z => absurd rfl z⟩)
          · rw [if_pos dd2] at hd
            rw [ep, nI_1, pk_sub hP]
            have nx : ∀ v', v' = (if p - P < 5 then 10 * v + T p - 48 else v) → Sat g mX6_readNumber (d + 1) (0, 0) (qI Q) 28 [.ref 29, .int (nI a), .int (nI b), .double 0, .int (nI P), .int (nI v')] [] (setI h' 29 3 (nI (p + 1))) := fun v' ev => by
              exact ih (p + 1) v' _ (by omega) (by omega) (f.tr (FrC.stI ⟨rfl, rfl⟩)) rdI (by rw [ev]; exact hd)
            refine ⟨fun z => nx v ?_, fun z => ⟨1, C'.2.1, Lk C'.1 K_1, ?_, ?_⟩⟩
            · rw [if_neg (by have := (nI_leI (a := 5) (b := p - P) (by omega) (by omega)).mp z; omega)]
            · rw [Ln C'.1 N_1]; exact vn (by omega) (by omega)
            · have z : p - P < 5 := Nat.lt_of_not_le (fun w => z (nI_le (a := 5) w (by omega)))
              rw [nI_clamp (n := p) (by omega), C'.2.2.2.2.1 p (by omega)]
              rw [show nI v * 10 = nI (v * 10) from pk_mul v 10, nI_add, show (48 : Int32) = nI 48 from rfl, pk_sub (by omega), Nat.mul_comm v 10]
              exact nx _ (by rw [if_pos z])
          · rw [if_neg nd] at hd
            have F := fin h' f (by rw [← hd]; exact ep)
            rw [← hd] at F
            rw [ep] at F ⊢
            exact F
    exact key (n - P) P 0 h1 (by omega) (Nat.le_refl _) f1 e1 rfl
  · refine c_fail (c := 0) C1.1 (fun h2 f2 e2 => ⟨f2.lay C1.1, ?_⟩)
    have C2 : CT0 T n h2 := C1.fr f2 (fun k w => by unfold A4 at w; omega) (fun w => by unfold A4 at w; omega)
    have p2 : hI h2 29 3 = nI P := (f2.I (by unfold A4; omega)).trans e1
    have e2' : hI h2 29 4 = if hI h 29 4 = 0 then nI (1 + 8 * P + 0) else hI h 29 4 := by rw [e2, f1.I (by unfold A3; omega)]
    have nz : ¬ hI h2 29 4 = 0 := by
      rw [e2']
      by_cases c : hI h 29 4 = 0
      · rw [if_pos c]; exact nI_ne0 (by omega) (by omega)
      · rw [if_neg c]; exact c
    have fr2 : FrC A34 h h2 := (f1.wd (fun x k w => by unfold A3 at w; unfold A34; omega)).tr (f2.wd (fun x k w => by unfold A4 at w; unfold A34; omega))
    have done : ∀ v, Q v h2 := fun v => no 0 h2 P v (Or.inl ⟨nd, rfl⟩) fr2 (by omega) p2 e2'
    have fl : ∀ v, CallV g mX6_fail d (0, 0) [Value.ref 29, .int 1, .int (nI P)] h2 (fun h3 => Lay h3 ∧ qI Q (some (.int v)) h3) := fun v => wX6_fail_0 _ _ C2.1 ⟨fun w => absurd w nz, fun _ => ⟨C2.1, done v⟩⟩
    refine wX6_readNumber_28 _ _ _ _ C2.1 ⟨fun _ => ⟨fun _ => fl _, fun _ => ⟨fun _ => fl _, fun _ => ⟨fun _ => done _, fun _ => fl _⟩⟩⟩, fun w => ⟨1, C2.2.1, Lk C2.1 K_1, ?_, ?_⟩⟩
    · rw [p2, C2.2.2.2.1] at w
      have : P < n := Nat.lt_of_not_le (fun z => w (nI_le z (by omega)))
      rw [p2, Ln C2.1 N_1]; exact vn (by omega) (by omega)
    · rw [p2, C2.2.2.2.1] at w
      have hl : P < n := Nat.lt_of_not_le (fun z => w (nI_le z (by omega)))
      rw [p2, nI_clamp (n := P) (by omega), C2.2.2.2.2.1 P hl]
      have ea : at_ T n P = T P := if_pos hl
      refine c_isDigit C2.1 (Or.inl ⟨rfl, C2.2.2.2.2.2 P hl⟩) (fun z => absurd z (by rw [← ea]; exact nd)) (fun _ => ⟨C2.1, fun _ => ⟨fun _ => fl _, fun _ => ⟨fun _ => fl _, fun _ => ⟨fun _ => done _, fun _ => fl _⟩⟩⟩, fun z => absurd rfl z⟩)
end CN
