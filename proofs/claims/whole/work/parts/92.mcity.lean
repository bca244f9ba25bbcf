/-! the reference reads a CITY -/
def MCs (n : Nat) (h : HP) (x : Nat ⊕ Nat) : Prop := match x with
  | .inl f => hI h 252 26 = nI f ∧ (1 ≤ f ∧ f < 10000) ∧ ∃ p, p ≤ n ∧ hI h 252 25 = nI p
  | .inr p => hI h 252 26 = 0 ∧ hI h 252 25 = nI p ∧ p ≤ n
def AMt (x k : Nat) : Prop := (x = 252 ∧ (k = 25 ∨ k = 26)) ∨ (269 ≤ x ∧ x ≤ 275)
theorem MT0.fc {T : Nat → Nat} {n : Nat} {h h' : HP} (C : MT0 T n h) (f : FrC AMt h h') : MT0 T n h' := C.fr f (fun k w => by unfold AMt at w; omega) (fun w => by unfold AMt at w; omega)
theorem m56c {h h' : HP} (f : FrC A256 h h') : FrC AMt h h' := f.wd (fun x k w => by unfold A256 at w; unfold AMt; omega)
theorem m5c {h h' : HP} (f : FrC A25 h h') : FrC A256 h h' := f.wd (fun x k w => by unfold A25 at w; unfold A256; omega)
theorem m6c {h h' : HP} (f : FrC A26 h h') : FrC A256 h h' := f.wd (fun x k w => by unfold A26 at w; unfold A256; omega)
theorem MCs.to {n : Nat} {h h' : HP} {x : Nat ⊕ Nat} (H : MCs n h x) (e3 : hI h' 252 25 = hI h 252 25) (e4 : hI h' 252 26 = hI h 252 26) : MCs n h' x := by
  cases x with
  | inl f => obtain ⟨h1, h2, p, h3, h4⟩ := H; exact ⟨e4.trans h1, h2, p, h3, e3.trans h4⟩
  | inr p => exact ⟨e4.trans H.1, e3.trans H.2.1, H.2.2⟩
/-- the city that is being told, in the reference's rows -/
def MNw (h : HP) (t : Tw) : Prop := (∀ k, k < 4 → hI h 269 k = nI (t.1 k)) ∧ (∀ j, j < t.1 2 → hI h 270 j = t.2 1 j ∧ hI h 271 j = t.2 2 j ∧ hI h 272 j = t.2 3 j) ∧ ∀ i, i < t.1 3 → hI h 273 i = t.2 4 i ∧ hI h 274 i = t.2 5 i ∧ hI h 275 i = t.2 6 i
theorem MNw.to {h h' : HP} {t : Tw} (H : MNw h t) (e : ∀ x k, 269 ≤ x ∧ x ≤ 275 → hI h' x k = hI h x k) : MNw h' t :=
  ⟨fun k hk => by rw [e _ _ (by omega)]; exact H.1 k hk, fun j hj => by rw [e _ _ (by omega), e _ _ (by omega), e _ _ (by omega)]; exact H.2.1 j hj, fun i hi => by rw [e _ _ (by omega), e _ _ (by omega), e _ _ (by omega)]; exact H.2.2 i hi⟩
section MC
variable {g : GT} {d n : Nat} {T : Nat → Nat} {h : HP} {t : Tw}
theorem m_numX {a b : Nat} {x : Nat ⊕ Nat} {Q : Int32 → HP → Prop} (C : MT0 T n h) (D : MCs n h x) (hb : b ≤ 99999) (hab : a ≤ b) (hQ : ∀ h' v y, FrC A256 h h' → MCs n h' y → numR T n a b x y v → Q v h') : CallI g mX10_amount (d + 3) [.ref 252, .int (nI a), .int (nI b)] h Q := by
  have n4 := C.2.1
  cases x with
  | inl f =>
    obtain ⟨d4, hf, p, hp, d3⟩ := D
    have nz : ¬ hI h 252 26 = 0 := by rw [d4]; exact nI_ne0 (by omega) (by omega)
    refine wX10_amount_0 _ _ C.1 (m_blanks C d3 (by omega) (fun h1 f1 e1 => ⟨f1.lay C.1, ?_⟩))
    have nz1 : ¬ hI h1 252 26 = 0 := by rw [f1.I (by unfold A25; omega)]; exact nz
    refine ⟨fun w => absurd w nz1, fun _ => ⟨fun w => absurd w nz1, fun _ => ?_⟩⟩
    exact hQ h1 _ (.inl f) (m5c f1) ⟨(f1.I (by unfold A25; omega)).trans d4, hf, _, (bl_rg (T := T) hp).2.1, e1⟩ rfl
  | inr p =>
    obtain ⟨d4, d3, hp⟩ := D
    have hb2 := (bl_rg (T := T) hp).2.1
    have hg := dg_rg (T := T) (n := n) (p := bl T n p) hb2
    have eN : numP T n a b p = if ¬ (48 ≤ at_ T n (bl T n p) ∧ at_ T n (bl T n p) ≤ 57) then .inl (1 + 8 * bl T n p + 0) else if (dgN T n (bl T n p)).1 - bl T n p ≤ 5 ∧ a ≤ (dgN T n (bl T n p)).2 ∧ (dgN T n (bl T n p)).2 ≤ b then .inr (dgN T n (bl T n p)) else .inl (1 + 8 * bl T n p + 1) := rfl
    refine wX10_amount_0 _ _ C.1 (m_blanks C d3 (by omega) (fun h1 f1 e1 => ⟨f1.lay C.1, ?_⟩))
    have C1 := C.f5 f1
    have e14 : hI h1 252 26 = 0 := (f1.I (by unfold A25; omega)).trans d4
    rw [e1]
    generalize bl T n p = P at *
    refine ⟨fun _ => m_digits (d := d) C1 e1 (by omega) (fun y1 y2 h2 f2 e2 => ⟨f2.lay C1.1, ?_⟩) (fun c h2 p' v hc f2 e2 e4 => ⟨f2.lay C1.1, ?_⟩), fun w => absurd e14 w⟩
    · have C2 := C1.f5 f2
      have e24 : hI h2 252 26 = 0 := (f2.I (by unfold A25; omega)).trans e14
      rw [if_neg (fun z => z y1)] at eN
      refine ⟨fun _ => m_in C2.1 (a := a) (b := b) rfl rfl hab (by omega) (fun j j1 j2 ej => ⟨C2.1, fun z => absurd z (by decide), fun _ => ?_⟩) (fun nin => ⟨C2.1, fun _ => m_fails (c := 1) C2.1 (fun h3 f3 e3 => ⟨f3.lay C2.1, ?_⟩), fun z => absurd rfl z⟩), fun w => absurd e24 w⟩
      · have ej := (nI_eq (by omega) (by omega)).mp ej
        rw [if_pos ⟨y2, by omega, by omega⟩] at eN
        exact hQ h2 _ (.inr (dgN T n P).1) ((m5c f1).tr (m5c f2)) ⟨e24, e2, hg.2.1⟩ (numR_y eN)
      · rw [if_neg (fun z => nin (IN_j z.2.1 z.2.2 (by omega)))] at eN
        rw [e24, if_pos rfl] at e3
        exact hQ h3 _ (.inl _) (((m5c f1).tr (m5c f2)).tr (m6c f3)) ⟨e3, by omega, _, hg.2.1, (f3.I (by unfold A26; omega)).trans e2⟩ (numR_n eN)
    · rw [e14, if_pos rfl] at e4
      have nz : ¬ hI h2 252 26 = 0 := by rw [e4]; exact nI_ne0 (by omega) (by rcases hc with z | z <;> omega)
      refine ⟨fun w => absurd w nz, fun _ => ?_⟩
      rcases hc with ⟨z, rfl, rfl⟩ | ⟨z, z2, rfl, z3⟩
      · rw [if_pos z] at eN
        exact hQ h2 _ (.inl _) ((m5c f1).tr f2) ⟨e4, by omega, _, hb2, e2⟩ (numR_n eN)
      · rw [if_neg (fun q => q z), if_neg (fun q => z2 q.1)] at eN
        exact hQ h2 _ (.inl _) ((m5c f1).tr f2) ⟨e4, by omega, _, z3, e2⟩ (numR_n eN)
theorem m_isFull {k w : Nat} {Q : Int32 → HP → Prop} (L : Lay h) (H : MNw h t) (hB : TB t) (hk : k ≤ 40) (hw : w < 3) (hQ : Q (if fitC k w t = true then 0 else 1) h) : CallI g mX10_isFull d [.ref 252, .int (nI w), .int (nI k)] h Q := by
  unfold TB at hB
  have e2 := H.1 2 (by omega)
  have e3 := H.1 3 (by omega)
  have w0 : nI w = 0 ↔ w = 0 := nI_eq (a := w) (b := 0) (by omega) (by omega)
  have w1 : nI w = 1 ↔ w = 1 := nI_eq (a := w) (b := 1) (by omega) (by omega)
  have w2 : nI w = 2 ↔ w = 2 := nI_eq (a := w) (b := 2) (by omega) (by omega)
  have k0 : nI k = 0 ↔ k = 0 := nI_eq (a := k) (b := 0) (by omega) (by omega)
  have k40 : nI k = 40 ↔ k = 40 := nI_eq (a := k) (b := 40) (by omega) (by omega)
  have b5 : nI (t.1 2) = 5 ↔ t.1 2 = 5 := nI_eq (b := 5) (by omega) (by omega)
  have l6 : nI (t.1 3) = 6 ↔ t.1 3 = 6 := nI_eq (b := 6) (by omega) (by omega)
  have yes : fitC k w t = true → Q 0 h := fun z => by rw [if_pos z] at hQ; exact hQ
  have no : ¬ fitC k w t = true → Q 1 h := fun z => by rw [if_neg z] at hQ; exact hQ
  have fe : fitC k w t = true ↔ (k < 40 ∧ ((w = 0 ∧ k = 0) ∨ (¬ w = 0 ∧ ¬ k = 0)) ∧ ¬ (w = 1 ∧ 5 ≤ t.1 2) ∧ ¬ (w = 2 ∧ 6 ≤ t.1 3)) := by unfold fitC; exact decide_eq_true_iff
  refine wX10_isFull_0 _ _ L ?_
  rw [e2, e3, w0, w1, w2, k0, k40, b5, l6]
  refine ⟨fun z => no (by rw [fe]; omega), fun z => ⟨fun z0 => ⟨fun zk => ⟨fun z1 => absurd z1 (by omega), fun _ => ⟨fun z2 => absurd z2 (by omega), fun _ => yes (by rw [fe]; omega)⟩⟩, fun zk => no (by rw [fe]; omega)⟩, fun z0 => ⟨fun zk => no (by rw [fe]; omega), fun zk => ⟨fun z1 => ⟨fun y => no (by rw [fe]; omega), fun y => ⟨fun z2 => absurd z2 (by omega), fun _ => yes (by rw [fe]; omega)⟩⟩, fun z1 => ⟨fun z2 => ⟨fun y => no (by rw [fe]; omega), fun y => yes (by rw [fe]; omega)⟩, fun z2 => yes (by rw [fe]; omega)⟩⟩⟩⟩⟩
theorem m_cityWord {k : Nat} {Q : UInt32 → HP → Prop} (L : Lay h) (hk : k < 3) (hQ : ∀ u : UInt32, u.toNat = [21, 7, 6].getD k 0 → Q u h) : CallT g mX10_cityWord d [.int (nI k)] h Q := by
  have e : ∀ c, c < 12 → (nI k = nI c ↔ k = c) := fun c hc => nI_eq (by omega) (by omega)
  refine wX10_cityWord_0 _ L ⟨fun w => hQ 21 ?_, fun w0 => ⟨fun w => hQ 7 ?_, fun w1 => hQ 6 ?_⟩⟩
  · have := (e 0 (by omega)).mp w; subst this; rfl
  · have := (e 1 (by omega)).mp w; subst this; rfl
  · have : ¬ k = 0 := fun z => w0 ((e 0 (by omega)).mpr z)
    have : ¬ k = 1 := fun z => w1 ((e 1 (by omega)).mpr z)
    have : k = 2 := by omega
    subst this; rfl
theorem m_cityPart {w p : Nat} {Q : HP → Prop} (C : MT0 T n h) (D : MCs n h (.inr p)) (hw : w < 3) (H : MNw h t) (hB : TB t) (h5 : ¬ (w = 1 ∧ 5 ≤ t.1 2)) (h6 : ¬ (w = 2 ∧ 6 ≤ t.1 3)) (hF : ∀ h' f, FrC AMt h h' → MCs n h' (.inl f) → wrdC T n w p t = .inl f → Q h') (hY : ∀ h' p' t', FrC AMt h h' → MCs n h' (.inr p') → wrdC T n w p t = .inr (p', t') → MNw h' t' → Q h') : CallV g mX10_cityPart (d + 4) (0, 0) [.ref 252, .int (nI w)] h Q := by
  have hp := D.2.2
  unfold TB at hB
  have ec : wrdC T n w p t = wrdC T n w p t := rfl
  conv at ec => rhs; unfold wrdC
  refine wX10_cityPart_0 _ C.1 ⟨fun z0 => ?_, fun z0 => ⟨fun z1 => ?_, fun z1 => ?_⟩⟩
  · have e0 : w = 0 := (nI_eq (a := w) (b := 0) (by omega) (by omega)).mp z0
    rw [if_pos e0] at ec
    refine m_numX (d := d) (a := 1) (b := 60) C D (by omega) (by omega) (fun h3 v3 y3 f3 D3 R3 => ⟨f3.lay C.1, ?_⟩)
    have f4 : FrC AMt h3 (setI h3 269 0 v3) := FrC.stI (by unfold AMt; omega)
    have D4 : MCs n (setI h3 269 0 v3) y3 := D3.to (rdn (by omega)) (rdn (by omega))
    have C4 := (C.fc (m56c f3)).fc f4
    refine m_numX (d := d) (a := 1) (b := 6) C4 D4 (by omega) (by omega) (fun h5 v5 y5 f5 D5 R5 => ⟨f5.lay C4.1, ?_⟩)
    have f6 : FrC AMt h5 (setI h5 269 1 v5) := FrC.stI (by unfold AMt; omega)
    have D6 : MCs n (setI h5 269 1 v5) y5 := D5.to (rdn (by omega)) (rdn (by omega))
    have F6 := (((m56c f3).tr f4).tr (m56c f5)).tr f6
    rcases numR_c R3 with ⟨f, en, rfl⟩ | ⟨e, v, en, rfl, rfl⟩
    · have R5 : y5 = .inl f := R5
      subst R5
      refine hF _ f F6 D6 ?_
      rw [ec]; unfold bd2; rw [en]
    · rcases numR_c R5 with ⟨f, en5, rfl⟩ | ⟨e5, v5', en5, rfl, rfl⟩
      · refine hF _ f F6 D6 ?_
        rw [ec]; unfold bd2; rw [en]; simp only []; rw [en5]
      · refine hY _ e5 (tCity t v v5') F6 D6 ?_ ⟨fun k hk => ?_, fun j hj => ?_, fun i hi => ?_⟩
        · rw [ec]; unfold bd2; rw [en]; simp only []; rw [en5]
        · by_cases c1 : k = 1
          · subst c1; exact rdI
          · rw [rdn (by omega), f5.I (by unfold A256; omega)]
            by_cases c0 : k = 0
            · subst c0; exact rdI
            · rw [rdn (by omega), f3.I (by unfold A256; omega), H.1 k hk]
              show nI (t.1 k) = nI (up1 (up1 t.1 0 v) 1 v5' k)
              unfold up1
              rw [if_neg c1, if_neg c0]
        · have := H.2.1 j hj
          rw [rdn (by omega), rdn (by omega), rdn (by omega), f5.I (by unfold A256; omega), f5.I (by unfold A256; omega), f5.I (by unfold A256; omega), rdn (by omega), rdn (by omega), rdn (by omega), f3.I (by unfold A256; omega), f3.I (by unfold A256; omega), f3.I (by unfold A256; omega)]
          exact this
        · have := H.2.2 i hi
          rw [rdn (by omega), rdn (by omega), rdn (by omega), f5.I (by unfold A256; omega), f5.I (by unfold A256; omega), f5.I (by unfold A256; omega), rdn (by omega), rdn (by omega), rdn (by omega), f3.I (by unfold A256; omega), f3.I (by unfold A256; omega), f3.I (by unfold A256; omega)]
          exact this
  · have e0 : ¬ w = 0 := fun q => z0 (by rw [q]; rfl)
    have e1 : w = 1 := (nI_eq (a := w) (b := 1) (by omega) (by omega)).mp z1
    rw [if_neg e0, if_pos e1] at ec
    have b5 : t.1 2 < 5 := by omega
    rw [H.1 2 (by omega), nI_clamp (n := t.1 2) (by omega)]
    refine m_numX (d := d) (a := 0) (b := 99) C D (by omega) (by omega) (fun h3 v3 y3 f3 D3 R3 => ⟨f3.lay C.1, vn (by omega) (by omega), ?_⟩)
    have f3' : FrC AMt h3 (setI h3 270 (t.1 2) v3) := FrC.stI (by unfold AMt; omega)
    have D3' : MCs n (setI h3 270 (t.1 2) v3) y3 := D3.to (rdn (by omega)) (rdn (by omega))
    have C3 := (C.fc (m56c f3)).fc f3'
    refine m_numX (d := d) (a := 0) (b := 99) C3 D3' (by omega) (by omega) (fun h4 v4 y4 f4 D4 R4 => ⟨f4.lay C3.1, ?_⟩)
    have f4' : FrC AMt h4 (setI h4 271 (t.1 2) v4) := FrC.stI (by unfold AMt; omega)
    have D4' : MCs n (setI h4 271 (t.1 2) v4) y4 := D4.to (rdn (by omega)) (rdn (by omega))
    have C4 := (C3.fc (m56c f4)).fc f4'
    refine m_numX (d := d) (a := 1) (b := 9) C4 D4' (by omega) (by omega) (fun h5 v5 y5 f5 D5 R5 => ⟨f5.lay C4.1, ?_⟩)
    have e92 : hI h5 269 2 = nI (t.1 2) := by
      rw [f5.I (by unfold A256; omega), rdn (by omega), f4.I (by unfold A256; omega), rdn (by omega), f3.I (by unfold A256; omega)]; exact H.1 2 (by omega)
    rw [e92, nI_1]
    have f6 : FrC AMt h5 (setI (setI h5 272 (t.1 2) v5) 269 2 (nI (t.1 2 + 1))) := (FrC.stI (by unfold AMt; omega)).tr (FrC.stI (by unfold AMt; omega))
    have D6 : MCs n (setI (setI h5 272 (t.1 2) v5) 269 2 (nI (t.1 2 + 1))) y5 := D5.to (by rw [rdn (by omega), rdn (by omega)]) (by rw [rdn (by omega), rdn (by omega)])
    have F6 := (((((m56c f3).tr f3').tr (m56c f4)).tr f4').tr (m56c f5)).tr f6
    rcases numR_c R3 with ⟨f, en, rfl⟩ | ⟨e, v, en, rfl, rfl⟩
    · have R4 : y4 = .inl f := R4
      subst R4
      have R5 : y5 = .inl f := R5
      subst R5
      refine hF _ f F6 D6 ?_
      rw [ec]; unfold bd2; rw [en]
    · rcases numR_c R4 with ⟨f, en4, rfl⟩ | ⟨e4, v4', en4, rfl, rfl⟩
      · have R5 : y5 = .inl f := R5
        subst R5
        refine hF _ f F6 D6 ?_
        rw [ec]; unfold bd2; rw [en]; simp only []; rw [en4]
      · rcases numR_c R5 with ⟨f, en5, rfl⟩ | ⟨e5, v5', en5, rfl, rfl⟩
        · refine hF _ f F6 D6 ?_
          rw [ec]; unfold bd2; rw [en]; simp only []; rw [en4]; simp only []; rw [en5]
        · refine hY _ e5 (tBed t v v4' v5') F6 D6 ?_ ⟨fun k hk => ?_, fun j hj => ?_, fun i hi => ?_⟩
          · rw [ec]; unfold bd2; rw [en]; simp only []; rw [en4]; simp only []; rw [en5]
          · by_cases c2 : k = 2
            · subst c2; exact rdI
            · rw [rdn (by omega), rdn (by omega), f5.I (by unfold A256; omega), rdn (by omega), f4.I (by unfold A256; omega), rdn (by omega), f3.I (by unfold A256; omega), H.1 k hk]
              exact congrArg nI (if_neg c2).symm
          · have hj : j < t.1 2 + 1 := hj
            show _ = up2 (up2 (up2 t.2 1 (t.1 2) (nI v)) 2 (t.1 2) (nI v4')) 3 (t.1 2) (nI v5') 1 j ∧ _ = up2 (up2 (up2 t.2 1 (t.1 2) (nI v)) 2 (t.1 2) (nI v4')) 3 (t.1 2) (nI v5') 2 j ∧ _ = up2 (up2 (up2 t.2 1 (t.1 2) (nI v)) 2 (t.1 2) (nI v4')) 3 (t.1 2) (nI v5') 3 j
            rw [up2_ne _ _ (show ¬ (1 = 3 ∧ j = t.1 2) by omega), up2_ne _ _ (show ¬ (1 = 2 ∧ j = t.1 2) by omega), up2_ne _ _ (show ¬ (2 = 3 ∧ j = t.1 2) by omega)]
            by_cases c : j = t.1 2
            · subst c
              refine ⟨?_, ?_, ?_⟩
              · rw [rdn (by omega), rdn (by omega), f5.I (by unfold A256; omega), rdn (by omega), f4.I (by unfold A256; omega), rdI, up2_eq]
              · rw [rdn (by omega), rdn (by omega), f5.I (by unfold A256; omega), rdI, up2_eq]
              · rw [rdn (by omega), rdI, up2_eq]
            · have := H.2.1 j (by omega)
              rw [up2_ne _ _ (by omega), up2_ne _ _ (by omega), up2_ne _ _ (by omega), up2_ne _ _ (by omega), up2_ne _ _ (by omega)]
              refine ⟨?_, ?_, ?_⟩
              · rw [rdn (by omega), rdn (by omega), f5.I (by unfold A256; omega), rdn (by omega), f4.I (by unfold A256; omega), rdn (by omega), f3.I (by unfold A256; omega)]; exact this.1
              · rw [rdn (by omega), rdn (by omega), f5.I (by unfold A256; omega), rdn (by omega), f4.I (by unfold A256; omega), rdn (by omega), f3.I (by unfold A256; omega)]; exact this.2.1
              · rw [rdn (by omega), rdn (by omega), f5.I (by unfold A256; omega), rdn (by omega), f4.I (by unfold A256; omega), rdn (by omega), f3.I (by unfold A256; omega)]; exact this.2.2
          · have this := H.2.2 i hi
            have q : ∀ r, 4 ≤ r → (tBed t v v4' v5').2 r i = t.2 r i := fun r hr => by
              show up2 (up2 (up2 t.2 1 (t.1 2) (nI v)) 2 (t.1 2) (nI v4')) 3 (t.1 2) (nI v5') r i = t.2 r i
              rw [up2_ne _ _ (by omega), up2_ne _ _ (by omega), up2_ne _ _ (by omega)]
            rw [q 4 (by omega), q 5 (by omega), q 6 (by omega)]
            refine ⟨?_, ?_, ?_⟩
            · rw [rdn (by omega), rdn (by omega), f5.I (by unfold A256; omega), rdn (by omega), f4.I (by unfold A256; omega), rdn (by omega), f3.I (by unfold A256; omega)]; exact this.1
            · rw [rdn (by omega), rdn (by omega), f5.I (by unfold A256; omega), rdn (by omega), f4.I (by unfold A256; omega), rdn (by omega), f3.I (by unfold A256; omega)]; exact this.2.1
            · rw [rdn (by omega), rdn (by omega), f5.I (by unfold A256; omega), rdn (by omega), f4.I (by unfold A256; omega), rdn (by omega), f3.I (by unfold A256; omega)]; exact this.2.2
  · have e0 : ¬ w = 0 := fun q => z0 (by rw [q]; rfl)
    have e1 : ¬ w = 1 := fun q => z1 (by rw [q]; rfl)
    rw [if_neg e0, if_neg e1] at ec
    have b6 : t.1 3 < 6 := by omega
    rw [H.1 3 (by omega), nI_clamp (n := t.1 3) (by omega)]
    refine m_numX (d := d) (a := 0) (b := 99) C D (by omega) (by omega) (fun h3 v3 y3 f3 D3 R3 => ⟨f3.lay C.1, vn (by omega) (by omega), ?_⟩)
    have f3' : FrC AMt h3 (setI h3 273 (t.1 3) v3) := FrC.stI (by unfold AMt; omega)
    have D3' : MCs n (setI h3 273 (t.1 3) v3) y3 := D3.to (rdn (by omega)) (rdn (by omega))
    have C3 := (C.fc (m56c f3)).fc f3'
    refine m_numX (d := d) (a := 1) (b := 9) C3 D3' (by omega) (by omega) (fun h4 v4 y4 f4 D4 R4 => ⟨f4.lay C3.1, ?_⟩)
    have f4' : FrC AMt h4 (setI h4 274 (t.1 3) v4) := FrC.stI (by unfold AMt; omega)
    have D4' : MCs n (setI h4 274 (t.1 3) v4) y4 := D4.to (rdn (by omega)) (rdn (by omega))
    have C4 := (C3.fc (m56c f4)).fc f4'
    refine m_numX (d := d) (a := 0) (b := 99) C4 D4' (by omega) (by omega) (fun h5 v5 y5 f5 D5 R5 => ⟨f5.lay C4.1, ?_⟩)
    have e93 : hI h5 269 3 = nI (t.1 3) := by
      rw [f5.I (by unfold A256; omega), rdn (by omega), f4.I (by unfold A256; omega), rdn (by omega), f3.I (by unfold A256; omega)]; exact H.1 3 (by omega)
    rw [e93, nI_1]
    have f6 : FrC AMt h5 (setI (setI h5 275 (t.1 3) v5) 269 3 (nI (t.1 3 + 1))) := (FrC.stI (by unfold AMt; omega)).tr (FrC.stI (by unfold AMt; omega))
    have D6 : MCs n (setI (setI h5 275 (t.1 3) v5) 269 3 (nI (t.1 3 + 1))) y5 := D5.to (by rw [rdn (by omega), rdn (by omega)]) (by rw [rdn (by omega), rdn (by omega)])
    have F6 := (((((m56c f3).tr f3').tr (m56c f4)).tr f4').tr (m56c f5)).tr f6
    rcases numR_c R3 with ⟨f, en, rfl⟩ | ⟨e, v, en, rfl, rfl⟩
    · have R4 : y4 = .inl f := R4
      subst R4
      have R5 : y5 = .inl f := R5
      subst R5
      refine hF _ f F6 D6 ?_
      rw [ec]; unfold bd2; rw [en]
    · rcases numR_c R4 with ⟨f, en4, rfl⟩ | ⟨e4, v4', en4, rfl, rfl⟩
      · have R5 : y5 = .inl f := R5
        subst R5
        refine hF _ f F6 D6 ?_
        rw [ec]; unfold bd2; rw [en]; simp only []; rw [en4]
      · rcases numR_c R5 with ⟨f, en5, rfl⟩ | ⟨e5, v5', en5, rfl, rfl⟩
        · refine hF _ f F6 D6 ?_
          rw [ec]; unfold bd2; rw [en]; simp only []; rw [en4]; simp only []; rw [en5]
        · refine hY _ e5 (tLod t v v4' v5') F6 D6 ?_ ⟨fun k hk => ?_, fun j hj => ?_, fun i hi => ?_⟩
          · rw [ec]; unfold bd2; rw [en]; simp only []; rw [en4]; simp only []; rw [en5]
          · by_cases c2 : k = 3
            · subst c2; exact rdI
            · rw [rdn (by omega), rdn (by omega), f5.I (by unfold A256; omega), rdn (by omega), f4.I (by unfold A256; omega), rdn (by omega), f3.I (by unfold A256; omega), H.1 k hk]
              exact congrArg nI (if_neg c2).symm
          · have this := H.2.1 j hj
            have q : ∀ r, r ≤ 3 → (tLod t v v4' v5').2 r j = t.2 r j := fun r hr => by
              rw [tLod_2, if_neg (by omega), if_neg (by omega), if_neg (by omega), if_neg (by omega), if_neg (by omega)]
            rw [q 1 (by omega), q 2 (by omega), q 3 (by omega)]
            refine ⟨?_, ?_, ?_⟩
            · rw [rdn (by omega), rdn (by omega), f5.I (by unfold A256; omega), rdn (by omega), f4.I (by unfold A256; omega), rdn (by omega), f3.I (by unfold A256; omega)]; exact this.1
            · rw [rdn (by omega), rdn (by omega), f5.I (by unfold A256; omega), rdn (by omega), f4.I (by unfold A256; omega), rdn (by omega), f3.I (by unfold A256; omega)]; exact this.2.1
            · rw [rdn (by omega), rdn (by omega), f5.I (by unfold A256; omega), rdn (by omega), f4.I (by unfold A256; omega), rdn (by omega), f3.I (by unfold A256; omega)]; exact this.2.2
          · have hi : i < t.1 3 + 1 := hi
            rw [tLod_2, tLod_2, tLod_2]
            by_cases c : i = t.1 3
            · subst c
              refine ⟨?_, ?_, ?_⟩
              · rw [if_neg (by omega), if_neg (by omega), if_neg (by omega), if_neg (by omega), if_pos ⟨rfl, rfl⟩, rdn (by omega), rdn (by omega), f5.I (by unfold A256; omega), rdn (by omega), f4.I (by unfold A256; omega), rdI]
              · rw [if_neg (by omega), if_neg (by omega), if_neg (by omega), if_pos ⟨rfl, rfl⟩, rdn (by omega), rdn (by omega), f5.I (by unfold A256; omega), rdI]
              · rw [if_neg (by omega), if_neg (by omega), if_pos ⟨rfl, rfl⟩, rdn (by omega), rdI]
            · have this := H.2.2 i (by omega)
              refine ⟨?_, ?_, ?_⟩
              · rw [if_neg (by omega), if_neg (by omega), if_neg (by omega), if_neg (by omega), if_neg (by omega), rdn (by omega), rdn (by omega), f5.I (by unfold A256; omega), rdn (by omega), f4.I (by unfold A256; omega), rdn (by omega), f3.I (by unfold A256; omega)]; exact this.1
              · rw [if_neg (by omega), if_neg (by omega), if_neg (by omega), if_neg (by omega), if_neg (by omega), rdn (by omega), rdn (by omega), f5.I (by unfold A256; omega), rdn (by omega), f4.I (by unfold A256; omega), rdn (by omega), f3.I (by unfold A256; omega)]; exact this.2.1
              · rw [if_neg (by omega), if_neg (by omega), if_neg (by omega), if_neg (by omega), if_neg (by omega), rdn (by omega), rdn (by omega), f5.I (by unfold A256; omega), rdn (by omega), f4.I (by unfold A256; omega), rdn (by omega), f3.I (by unfold A256; omega)]; exact this.2.2
end MC
