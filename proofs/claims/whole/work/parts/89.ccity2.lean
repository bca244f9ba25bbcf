/-! the class reads a CITY -/
def CNs (n : Nat) (h : HP) (x : Nat ⊕ Nat) : Prop := match x with
  | .inl f => hI h 29 4 = nI f ∧ (1 ≤ f ∧ f < 10000) ∧ ∃ p, p ≤ n ∧ hI h 29 3 = nI p
  | .inr p => hI h 29 4 = 0 ∧ hI h 29 3 = nI p ∧ p ≤ n
def numR (T : Nat → Nat) (n a b : Nat) (x y : Nat ⊕ Nat) (v : Int32) : Prop := match x with
  | .inl f => y = .inl f
  | .inr p => match numP T n a b p with
    | .inl f => y = .inl f
    | .inr (e, w) => y = .inr e ∧ v = nI w
theorem numR_y {T : Nat → Nat} {n a b p e w : Nat} (h : numP T n a b p = .inr (e, w)) : numR T n a b (.inr p) (.inr e) (nI w) := by
  have : numR T n a b (.inr p) (.inr e) (nI w) = (match numP T n a b p with
    | .inl f => (Sum.inr e : Nat ⊕ Nat) = .inl f
    | .inr (e', w') => (Sum.inr e : Nat ⊕ Nat) = .inr e' ∧ nI w = nI w') := rfl
  rw [this, h]
  exact ⟨rfl, rfl⟩
theorem numR_n {T : Nat → Nat} {n a b p f : Nat} {v : Int32} (h : numP T n a b p = .inl f) : numR T n a b (.inr p) (.inl f) v := by
  have : numR T n a b (.inr p) (.inl f) v = (match numP T n a b p with
    | .inl f' => (Sum.inl f : Nat ⊕ Nat) = .inl f'
    | .inr (e', w') => (Sum.inl f : Nat ⊕ Nat) = .inr e' ∧ v = nI w') := rfl
  rw [this, h]
theorem numR_c {T : Nat → Nat} {n a b p : Nat} {y : Nat ⊕ Nat} {v : Int32} (h : numR T n a b (.inr p) y v) : (∃ f, numP T n a b p = .inl f ∧ y = .inl f) ∨ ∃ e w, numP T n a b p = .inr (e, w) ∧ y = .inr e ∧ v = nI w := by
  have : numR T n a b (.inr p) y v = (match numP T n a b p with
    | .inl f => y = .inl f
    | .inr (e, w) => y = .inr e ∧ v = nI w) := rfl
  rw [this] at h
  cases e : numP T n a b p with
  | inl f => rw [e] at h; exact Or.inl ⟨f, rfl, h⟩
  | inr q => obtain ⟨e1, w⟩ := q; rw [e] at h; exact Or.inr ⟨e1, w, rfl, h⟩
def ACt (x k : Nat) : Prop := (x = 29 ∧ (k = 3 ∨ k = 4)) ∨ (30 ≤ x ∧ x ≤ 38)
theorem CT0.fc {T : Nat → Nat} {n : Nat} {h h' : HP} (C : CT0 T n h) (f : FrC ACt h h') : CT0 T n h' := C.fr f (fun k w => by unfold ACt at w; omega) (fun w => by unfold ACt at w; omega)
theorem f34c {h h' : HP} (f : FrC A34 h h') : FrC ACt h h' := f.wd (fun x k w => by unfold A34 at w; unfold ACt; omega)
theorem CNs.to {n : Nat} {h h' : HP} {x : Nat ⊕ Nat} (H : CNs n h x) (e3 : hI h' 29 3 = hI h 29 3) (e4 : hI h' 29 4 = hI h 29 4) : CNs n h' x := by
  cases x with
  | inl f => obtain ⟨h1, h2, p, h3, h4⟩ := H; exact ⟨e4.trans h1, h2, p, h3, e3.trans h4⟩
  | inr p => exact ⟨e4.trans H.1, e3.trans H.2.1, H.2.2⟩
section CC
variable {g : GT} {d n : Nat} {T : Nat → Nat} {h : HP} {t : Tw}
theorem c_numX {a b : Nat} {x : Nat ⊕ Nat} {Q : Int32 → HP → Prop} (C : CT0 T n h) (D : CNs n h x) (hb : b ≤ 99999) (hab : a ≤ b) (hQ : ∀ h' v y, FrC A34 h h' → CNs n h' y → numR T n a b x y v → Q v h') : CallI g mX6_readNumber (d + 1) [.ref 29, .int (nI a), .int (nI b)] h Q := by
  have n4 := C.2.2.1
  cases x with
  | inl f =>
    obtain ⟨d4, hf, p, hp, d3⟩ := D
    have nz : ¬ hI h 29 4 = 0 := by rw [d4]; exact nI_ne0 (by omega) (by omega)
    refine c_readNumber C d3 hp hb hab (fun _ _ _ _ h' f' e' => ?_) (fun c h' p' v _ f' hp' e' e4 => ?_)
    · have hg := dg_rg (T := T) (n := n) (p := bl T n p) (bl_rg (T := T) hp).2.1
      exact hQ h' _ (.inl f) (f'.wd (fun x k w => by unfold A3 at w; unfold A34; omega)) ⟨(f'.I (by unfold A3; omega)).trans d4, hf, _, hg.2.1, e'⟩ rfl
    · rw [if_neg nz] at e4
      exact hQ h' _ (.inl f) f' ⟨e4.trans d4, hf, p', hp', e'⟩ rfl
  | inr p =>
    obtain ⟨d4, d3, hp⟩ := D
    have hg := dg_rg (T := T) (n := n) (p := bl T n p) (bl_rg (T := T) hp).2.1
    have hb2 := (bl_rg (T := T) hp).2.1
    refine c_readNumber C d3 hp hb hab (fun y1 y2 y3 y4 h' f' e' => ?_) (fun c h' p' v hc f' hp' e' e4 => ?_)
    · refine hQ h' _ (.inr (dgN T n (bl T n p)).1) (f'.wd (fun x k w => by unfold A3 at w; unfold A34; omega)) ⟨(f'.I (by unfold A3; omega)).trans d4, e', hg.2.1⟩ ?_
      have : numP T n a b p = .inr (dgN T n (bl T n p)) := by unfold numP; rw [if_neg (fun z => z y1), if_pos ⟨y2, y3, y4⟩]
      exact numR_y this
    · rw [d4, if_pos rfl] at e4
      have : numP T n a b p = .inl (1 + 8 * bl T n p + c) := by
        unfold numP
        rcases hc with ⟨z, rfl⟩ | ⟨z, z2, rfl⟩
        · rw [if_pos z]
        · rw [if_neg (fun q => q z), if_neg z2]
      refine hQ h' _ (.inl (1 + 8 * bl T n p + c)) f' ⟨e4, ⟨by omega, ?_⟩, p', hp', e'⟩ ?_
      · rcases hc with ⟨z, rfl⟩ | ⟨z, z2, rfl⟩ <;> omega
      · exact numR_n this
theorem c_addBed {b : Nat} {x1 x2 x3 : Int32} {Q : HP → Prop} (L : Lay h) (eb : hI h 30 2 = nI b) (hb : b < 5) (hQ : Q (setI (setI (setI (setI h 31 b x1) 32 b x2) 33 b x3) 30 2 (nI (b + 1)))) : CallV g mX8_addBed d (0, 0) [.ref 30, .int x1, .int x2, .int x3] h Q := by
  obtain ⟨k0, ⟨r5, r6, r7, r8, r9, r10, r11, r12⟩, ⟨k1, k2, k3, k4, k5, k6, k7, k8⟩, n1, n2, n3, n4, n5, n6, n7, n8⟩ := Ltw_30 L
  refine vX8_addBed_0 30 _ _ _ h ⟨k0, ?_⟩
  rw [eb, nI_clamp (n := b) (by omega)]
  refine ⟨fun w => absurd w (nI_ge (a := b) (b := 5) hb (by omega)), fun _ => ⟨k0, _, r5, k0, k1, by rw [n1]; exact vn (by omega) (by omega), k0, _, r6, k0, k2, ?_⟩⟩
  rw [show hI (setI h (30 + 1) b x1) 30 2 = nI b by rw [rdn (by omega)]; exact eb, nI_clamp (n := b) (by omega)]
  refine ⟨by show vp_in _ (hN h _); rw [n2]; exact vn (by omega) (by omega), ?_⟩
  intro h3 e3
  subst e3
  have eb3 : hI (setI (setI h (30 + 1) b x1) (30 + 2) b x2) 30 2 = nI b := by rw [rdn (by omega), rdn (by omega)]; exact eb
  refine ⟨k0, _, r7, k0, k3, ?_⟩
  rw [eb3, nI_clamp (n := b) (by omega)]
  refine ⟨by show vp_in _ (hN h _); rw [n3]; exact vn (by omega) (by omega), k0, k0, ?_⟩
  intro h5 e5
  subst e5
  rw [show hI (setI (setI (setI h (30 + 1) b x1) (30 + 2) b x2) (30 + 3) b x3) 30 2 = nI b by rw [rdn (by omega)]; exact eb3, nI_1]
  exact hQ
theorem c_addLodger {b : Nat} {x1 x2 x3 : Int32} {Q : HP → Prop} (L : Lay h) (eb : hI h 30 3 = nI b) (hb : b < 6) (hQ : Q (setI (setI (setI (setI (setI (setI h 34 b x1) 35 b x2) 36 b x3) 37 b (-1)) 38 b 0) 30 3 (nI (b + 1)))) : CallV g mX8_addLodger d (0, 0) [.ref 30, .int x1, .int x2, .int x3] h Q := by
  obtain ⟨k0, ⟨r5, r6, r7, r8, r9, r10, r11, r12⟩, ⟨k1, k2, k3, k4, k5, k6, k7, k8⟩, n1, n2, n3, n4, n5, n6, n7, n8⟩ := Ltw_30 L
  refine vX8_addLodger_0 30 _ _ _ h ⟨k0, ?_⟩
  rw [eb, nI_clamp (n := b) (by omega)]
  refine ⟨fun w => absurd w (nI_ge (a := b) (b := 6) hb (by omega)), fun _ => ⟨k0, _, r8, k0, k4, by rw [n4]; exact vn (by omega) (by omega), k0, _, r9, k0, k5, ?_⟩⟩
  rw [show hI (setI h (30 + 4) b x1) 30 3 = nI b by rw [rdn (by omega)]; exact eb, nI_clamp (n := b) (by omega)]
  refine ⟨by show vp_in _ (hN h _); rw [n5]; exact vn (by omega) (by omega), ?_⟩
  intro h3 e3
  have eb3 : hI h3 30 3 = nI b := by rw [e3, rdn (by omega), rdn (by omega)]; exact eb
  have K3 : hK h3 = hK h := by rw [e3]; rfl
  have N3 : hN h3 = hN h := by rw [e3]; rfl
  have R3 : hR h3 = hR h := by rw [e3]; rfl
  refine ⟨by rw [K3]; exact k0, _, by rw [R3]; exact r10, by rw [K3]; exact k0, by rw [K3]; exact k6, ?_⟩
  rw [eb3, nI_clamp (n := b) (by omega)]
  refine ⟨by rw [N3, n6]; exact vn (by omega) (by omega), by show hK h3 30 = 9; rw [K3]; exact k0, _, by show hR h3 30 11 = _; rw [R3]; exact r11, by show hK h3 30 = 9; rw [K3]; exact k0, by show hK h3 _ = 21; rw [K3]; exact k7, ?_⟩
  rw [show hI (setI h3 (30 + 6) b x3) 30 3 = nI b by rw [rdn (by omega)]; exact eb3, nI_clamp (n := b) (by omega)]
  refine ⟨by show vp_in _ (hN h3 _); rw [N3, n7]; exact vn (by omega) (by omega), ?_⟩
  intro h6 e6
  have eb6 : hI h6 30 3 = nI b := by rw [e6, rdn (by omega), rdn (by omega)]; exact eb3
  have K6 : hK h6 = hK h := by rw [e6]; exact K3
  have N6 : hN h6 = hN h := by rw [e6]; exact N3
  have R6 : hR h6 = hR h := by rw [e6]; exact R3
  refine ⟨by rw [K6]; exact k0, _, by rw [R6]; exact r12, by rw [K6]; exact k0, by rw [K6]; exact k8, ?_⟩
  rw [eb6, nI_clamp (n := b) (by omega)]
  refine ⟨by rw [N6, n8]; exact vn (by omega) (by omega), by show hK h6 30 = 9; rw [K6]; exact k0, by show hK h6 30 = 9; rw [K6]; exact k0, ?_⟩
  intro h8 e8
  rw [e8, show hI (setI h6 (30 + 8) b 0) 30 3 = nI b by rw [rdn (by omega)]; exact eb6, nI_1, e6, e3]
  exact hQ
theorem tw_bed {a b c : Nat} (L : Lay h) (hT : TownIs h 30 t) (h5 : t.1 2 < 5) : TownIs (setI (setI (setI (setI h 31 (t.1 2) (nI a)) 32 (t.1 2) (nI b)) 33 (t.1 2) (nI c)) 30 2 (nI (t.1 2 + 1))) 30 (tBed t a b c) := by
  obtain ⟨q1, q2, q3, q4⟩ := hT
  unfold TB at q2
  refine ⟨q1.to rfl rfl rfl, ⟨q2.1, q2.2.1, by show t.1 2 + 1 ≤ 5; omega, q2.2.2.2⟩, fun k hk => ?_, fun r j hr => ?_⟩
  · by_cases c2 : k = 2
    · subst c2; exact rdI
    · rw [rdn (by omega), rdn (by omega), rdn (by omega), rdn (by omega), q3 k hk]
      exact congrArg nI (if_neg c2).symm
  · have hr : (1 ≤ r ∧ r ≤ 3 ∧ j < t.1 2 + 1) ∨ (4 ≤ r ∧ r ≤ 8 ∧ j < t.1 3) := hr
    show hI _ (30 + r) j = up2 (up2 (up2 t.2 1 (t.1 2) (nI a)) 2 (t.1 2) (nI b)) 3 (t.1 2) (nI c) r j
    by_cases e3 : r = 3 ∧ j = t.1 2
    · obtain ⟨rfl, rfl⟩ := e3
      rw [up2_eq, rdn (by omega), rdI]
    · rw [up2_ne _ _ e3, rdn (by omega), rdn (by omega)]
      by_cases e2 : r = 2 ∧ j = t.1 2
      · obtain ⟨rfl, rfl⟩ := e2
        rw [up2_eq, rdI]
      · rw [up2_ne _ _ e2, rdn (by omega)]
        by_cases e1 : r = 1 ∧ j = t.1 2
        · obtain ⟨rfl, rfl⟩ := e1
          rw [up2_eq, rdI]
        · rw [up2_ne _ _ e1, rdn (by omega)]
          exact q4 r j (by unfold rowOK; omega)
theorem tw_lod {a b c : Nat} (L : Lay h) (hT : TownIs h 30 t) (h5 : t.1 3 < 6) : TownIs (setI (setI (setI (setI (setI (setI h 34 (t.1 3) (nI a)) 35 (t.1 3) (nI b)) 36 (t.1 3) (nI c)) 37 (t.1 3) (-1)) 38 (t.1 3) 0) 30 3 (nI (t.1 3 + 1))) 30 (tLod t a b c) := by
  obtain ⟨q1, q2, q3, q4⟩ := hT
  unfold TB at q2
  refine ⟨q1.to rfl rfl rfl, ⟨q2.1, q2.2.1, q2.2.2.1, by show t.1 3 + 1 ≤ 6; omega, q2.2.2.2.2⟩, fun k hk => ?_, fun r j hr => ?_⟩
  · by_cases c2 : k = 3
    · subst c2; exact rdI
    · rw [rdn (by omega), rdn (by omega), rdn (by omega), rdn (by omega), rdn (by omega), rdn (by omega), q3 k hk]
      exact congrArg nI (if_neg c2).symm
  · have hr : (1 ≤ r ∧ r ≤ 3 ∧ j < t.1 2) ∨ (4 ≤ r ∧ r ≤ 8 ∧ j < t.1 3 + 1) := hr
    rw [tLod_2]
    by_cases e5 : r = 8 ∧ j = t.1 3
    · rw [if_pos e5]; obtain ⟨rfl, rfl⟩ := e5; rw [rdn (by omega), rdI]
    rw [if_neg e5, rdn (by omega), rdn (by omega)]
    by_cases e4 : r = 7 ∧ j = t.1 3
    · rw [if_pos e4]; obtain ⟨rfl, rfl⟩ := e4; rw [rdI]
    rw [if_neg e4, rdn (by omega)]
    by_cases e3 : r = 6 ∧ j = t.1 3
    · rw [if_pos e3]; obtain ⟨rfl, rfl⟩ := e3; rw [rdI]
    rw [if_neg e3, rdn (by omega)]
    by_cases e2 : r = 5 ∧ j = t.1 3
    · rw [if_pos e2]; obtain ⟨rfl, rfl⟩ := e2; rw [rdI]
    rw [if_neg e2, rdn (by omega)]
    by_cases e1 : r = 4 ∧ j = t.1 3
    · rw [if_pos e1]; obtain ⟨rfl, rfl⟩ := e1; rw [rdI]
    rw [if_neg e1, rdn (by omega)]
    exact q4 r j (by unfold rowOK; omega)
theorem c_fits {k w : Nat} {Q : Int32 → HP → Prop} (L : Lay h) (hT : TownIs h 30 t) (hk : k ≤ 40) (hw : w < 3) (hQ : Q (if fitC k w t = true then 1 else 0) h) : CallI g mX6_cityClauseFits d [.ref 29, .int (nI w), .int (nI k)] h Q := by
  have hb := hT.2.1
  unfold TB at hb
  have e2 := hT.2.2.1 2 (by omega)
  have e3 := hT.2.2.1 3 (by omega)
  have w0 : nI w = 0 ↔ w = 0 := nI_eq (a := w) (b := 0) (by omega) (by omega)
  have w1 : nI w = 1 ↔ w = 1 := nI_eq (a := w) (b := 1) (by omega) (by omega)
  have k0 : nI k = 0 ↔ k = 0 := nI_eq (a := k) (b := 0) (by omega) (by omega)
  have k40 : 40 ≤ nI k ↔ 40 ≤ k := nI_leI (a := 40) (b := k) (by omega) (by omega)
  have b5 : 5 ≤ nI (t.1 2) ↔ 5 ≤ t.1 2 := nI_leI (a := 5) (by omega) (by omega)
  have l6 : 6 ≤ nI (t.1 3) ↔ 6 ≤ t.1 3 := nI_leI (a := 6) (by omega) (by omega)
  have yes : fitC k w t = true → Q 1 h := fun z => by rw [if_pos z] at hQ; exact hQ
  have no : ¬ fitC k w t = true → Q 0 h := fun z => by rw [if_neg z] at hQ; exact hQ
  have fe : fitC k w t = true ↔ (k < 40 ∧ ((w = 0 ∧ k = 0) ∨ (¬ w = 0 ∧ ¬ k = 0)) ∧ ¬ (w = 1 ∧ 5 ≤ t.1 2) ∧ ¬ (w = 2 ∧ 6 ≤ t.1 3)) := by unfold fitC; exact decide_eq_true_iff
  refine wX6_cityClauseFits_0 _ _ L ?_
  rw [e2, e3, w0, w1, k0, k40, b5, l6]
  refine ⟨fun z => no (by rw [fe]; omega), fun z => ⟨fun z0 => ⟨fun zk => ⟨fun _ => yes (by rw [fe]; omega), fun q => absurd z0 q⟩, fun zk => no (by rw [fe]; omega)⟩, fun z0 => ⟨fun zk => no (by rw [fe]; omega), fun zk => ⟨fun q => absurd q z0, fun _ => ⟨fun z1 => ⟨fun y => no (by rw [fe]; omega), fun y => yes (by rw [fe]; omega)⟩, fun z1 => ⟨fun y => no (by rw [fe]; omega), fun y => yes (by rw [fe]; omega)⟩⟩⟩⟩⟩⟩
end CC
