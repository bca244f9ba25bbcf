/-! the reference reads VALUES -/
def MX (r x k : Nat) : Prop := (x = 252 ∧ (k = 25 ∨ k = 26 ∨ k = 29 ∨ k = 31)) ∨ ((x = 277 ∨ x = 278) ∧ 300 * r ≤ k)
def MT (T : Nat → Nat) (n r : Nat) (h : HP) : Prop := MT0 T n h ∧ hI h 252 27 = nI r ∧ r < 6 ∧ hI h 252 33 = 12
theorem MT.fr {T : Nat → Nat} {n r : Nat} {h h' : HP} (C : MT T n r h) (f : FrC (MX r) h h') : MT T n r h' := ⟨C.1.fr f (fun k w => by unfold MX at w; omega) (fun w => by unfold MX at w; omega), (f.I (by unfold MX; omega)).trans C.2.1, C.2.2.1, (f.I (by unfold MX; omega)).trans C.2.2.2⟩
def MDs (r : Nat) (h : HP) (σ : PS) : Prop := hI h 252 25 = nI (sp σ) ∧ hI h 252 26 = 0 ∧ hI h 252 31 = nI (sc σ) ∧ hI h 252 29 = nI (se σ) ∧ ∀ i, i < se σ → hI h 277 (300 * r + i) = nI (sg (skd σ i)) ∧ hI h 278 (300 * r + i) = nI (svl σ i)
def MDf (n : Nat) (h : HP) (f : Nat) : Prop := (∃ p, p ≤ n + 5 ∧ hI h 252 25 = nI p) ∧ hI h 252 26 = nI f ∧ 1 ≤ f ∧ f < 10000
def MDx (n r : Nat) (h : HP) (x : CX) : Prop := match x with
  | .inl f => MDf n h f
  | .inr c => MDs r h c.2.2
def Mt (T : Nat → Nat) (n r : Nat) (h : HP) (x : CX) (m : Nat) (S : List Nat) (Q : HP → Prop) : Prop := ∀ h' y, FrC (MX r) h h' → MDx n r h' y → At n m S y → GoX T n x y → Q h'
theorem MDf.nz {n f : Nat} {h : HP} (D : MDf n h f) : ¬ hI h 252 26 = 0 := by rw [D.2.1]; exact nI_ne0 (by have := D.2.2; omega) (by have := D.2.2; omega)
theorem MDs.mv {r : Nat} {h h' : HP} {σ : PS} {p : Nat} (D : MDs r h σ) (f : FrC A25 h h') (e : hI h' 252 25 = nI p) : MDs r h' (pu σ p) :=
  ⟨e, (f.I (by unfold A25; omega)).trans D.2.1, (f.I (by unfold A25; omega)).trans D.2.2.1, (f.I (by unfold A25; omega)).trans D.2.2.2.1, fun i hi => by rw [f.I (by unfold A25; omega), f.I (by unfold A25; omega)]; exact D.2.2.2.2 i hi⟩
theorem MDf.mv {n f : Nat} {h h' : HP} {p : Nat} (D : MDf n h f) (fr : FrC A25 h h') (hp : p ≤ n + 5) (e : hI h' 252 25 = nI p) : MDf n h' f := ⟨⟨p, hp, e⟩, (fr.I (by unfold A25; omega)).trans D.2.1, D.2.2⟩
theorem m5x {r : Nat} {h h' : HP} (f : FrC A25 h h') : FrC (MX r) h h' := f.wd (fun x k w => by unfold A25 at w; unfold MX; omega)
theorem m6x {r : Nat} {h h' : HP} (f : FrC A26 h h') : FrC (MX r) h h' := f.wd (fun x k w => by unfold A26 at w; unfold MX; omega)
theorem m56x {r : Nat} {h h' : HP} (f : FrC A256 h h') : FrC (MX r) h h' := f.wd (fun x k w => by unfold A256 at w; unfold MX; omega)
theorem bl_5 {T : Nat → Nat} {n p : Nat} (h : p ≤ n + 5) : bl T n p ≤ n + 5 := by
  by_cases c : p ≤ n
  · have := (bl_rg (T := T) c).2.1; omega
  · rw [bl_n (by omega)]; exact h
section MV
variable {g : GT} {d n r p : Nat} {T : Nat → Nat} {h : HP} {x : CX} {S : List Nat}
theorem m_entryS {k v : Nat} {σ : PS} {Q : HP → Prop} (C : MT T n r h) (D : MDs r h σ) (he : se σ < 300) (hQ : ∀ h', FrC (MX r) h h' → MDs r h' (em σ k v) → Q h') : CallV g mX10_entry d (0, 0) [.ref 252, .int (nI (sg k)), .int (nI v)] h Q := by
  obtain ⟨d3, d4, d5, d2, dd⟩ := D
  have r6 := C.2.2.1
  refine wX10_entry_0 _ _ C.1.1 ⟨fun _ => ?_, fun w => absurd d4 w⟩
  rw [d2, C.2.1, show (300 : Int32) * nI r = nI (300 * r) from pk_mul 300 r, nI_add, nI_clamp (n := 300 * r + se σ) (by omega), nI_1]
  refine ⟨vn (by omega) (by omega), hQ _ (((FrC.stI (by unfold MX; omega)).tr (FrC.stI (by unfold MX; omega))).tr (FrC.stI (by unfold MX; omega))) ⟨?_, ?_, ?_, rdI, fun i hi => ?_⟩⟩
  · rw [rdn (by omega), rdn (by omega), rdn (by omega)]; exact d3
  · rw [rdn (by omega), rdn (by omega), rdn (by omega)]; exact d4
  · rw [rdn (by omega), rdn (by omega), rdn (by omega)]; exact d5
  · have hi : i < se σ + 1 := hi
    by_cases c : i = se σ
    · subst c
      refine ⟨?_, ?_⟩
      · rw [rdn (by omega), rdn (by omega), rdI]
        exact congrArg (fun z => nI (sg z)) (if_pos rfl).symm
      · rw [rdn (by omega), rdI]
        exact congrArg nI (if_pos rfl).symm
    · have q := dd i (by omega)
      refine ⟨?_, ?_⟩
      · rw [rdn (by omega), rdn (by omega), rdn (by omega), q.1]
        exact congrArg (fun z => nI (sg z)) (if_neg c).symm
      · rw [rdn (by omega), rdn (by omega), rdn (by omega), q.2]
        exact congrArg nI (if_neg c).symm
theorem m_entryF {k v : Int32} {f : Nat} {Q : HP → Prop} (L : Lay h) (D : MDf n h f) (hQ : Q h) : CallV g mX10_entry d (0, 0) [.ref 252, .int k, .int v] h Q :=
  wX10_entry_0 _ _ L ⟨fun w => absurd w D.nz, fun _ => hQ⟩
theorem m_entryX {k m m2 : Nat} {S2 : List Nat} {y : CX} {Q : HP → Prop} (C : MT T n r h) (D : MDx n r h y) (A : At n m S2 y) (hs : ∀ σ, Inv n (m, S2, σ) → y = .inr (m, S2, σ) → stp T n (m, S2, σ) = .inr (m2, S, em σ k 0) ∧ Inv n (m2, S, em σ k 0)) (hQ : ∀ h' z, FrC (MX r) h h' → MDx n r h' z → At n m2 S z → GoX T n y z → (∀ c c', y = .inr c → z = .inr c' → sp c'.2.2 = sp c.2.2) → Q h') : CallV g mX10_entry d (0, 0) [.ref 252, .int (nI (sg k)), .int 0] h Q := by
  rcases A.ms with ⟨f, rfl⟩ | ⟨σ, rfl, I⟩
  · exact m_entryF C.1.1 D (hQ h (.inl f) (FrC.rf h) D trivial (GoX.rf _) (fun c c' e => absurd e (by simp)))
  · obtain ⟨s, I2⟩ := hs σ I rfl
    have e : se σ ≤ 253 := iv_e C.1.2.1 I
    exact m_entryS (v := 0) (σ := σ) C D (by omega) (fun h' f' D' => hQ h' (.inr (m2, S, em σ k 0)) f' D' ⟨rfl, rfl, I2⟩ (GoX.st s (Nat.le_refl _)) (fun c c' e e' => by
      have e := Sum.inr.inj e
      have e' := Sum.inr.inj e'
      subst e e'
      rfl))
theorem m_count {σ : PS} {P : Nat} {Q : HP → Prop} (C : MT T n r h) (D : MDs r h σ) (hc : sc σ ≤ 60) (hP : P ≤ n) (hpn : sp σ ≤ n) (yes : sc σ < 60 → ∀ h', FrC (MX r) h h' → MDs r h' (pc1 σ (sp σ)) → Q h') (no : 60 ≤ sc σ → ∀ h', FrC (MX r) h h' → MDf n h' (1 + 8 * P + 3) → hI h' 252 25 = hI h 252 25 → Q h') : CallV g mX10_isCounted (d + 1) (0, 0) [.ref 252, .int (nI P)] h Q := by
  have n4 := C.1.2.1
  obtain ⟨d3, d4, d5, d2, dd⟩ := D
  refine wX10_isCounted_0 _ C.1.1 ?_
  rw [d5]
  refine ⟨fun w => m_fails (c := 3) C.1.1 (fun h1 f1 e1 => ⟨f1.lay C.1.1, ?_⟩), fun w => ?_⟩
  · have e60 := (nI_eq (a := sc σ) (b := 60) (by omega) (by omega)).mp w
    rw [d4, if_pos rfl] at e1
    refine no (by omega) _ ((m6x f1).tr (FrC.stI (by unfold MX; omega))) ⟨⟨sp σ, by omega, ?_⟩, ?_, by omega, by omega⟩ ?_
    · rw [rdn (by omega), f1.I (by unfold A26; omega)]; exact d3
    · rw [rdn (by omega)]; exact e1
    · rw [rdn (by omega), f1.I (by unfold A26; omega)]
  · rw [nI_1]
    have e60 : ¬ sc σ = 60 := fun z => w (by rw [z]; rfl)
    refine yes (by omega) _ (FrC.stI (by unfold MX; omega)) ⟨?_, ?_, rdI, ?_, fun i hi => ?_⟩
    · rw [rdn (by omega)]; exact d3
    · rw [rdn (by omega)]; exact d4
    · rw [rdn (by omega)]; exact d2
    · rw [rdn (by omega), rdn (by omega)]; exact dd i hi
theorem m_countF {f : Nat} {P : Nat} {Q : HP → Prop} (L : Lay h) (D : MDf n h f) (hQ : ∀ h', FrC (MX r) h h' → MDf n h' f → hI h' 252 25 = hI h 252 25 → Q h') : CallV g mX10_isCounted (d + 1) (0, 0) [.ref 252, .int (nI P)] h Q := by
  have nz := D.nz
  obtain ⟨⟨p, hp, d3⟩, d4, df⟩ := D
  refine wX10_isCounted_0 _ L ⟨fun w => m_fails (c := 3) L (fun h1 f1 e1 => ⟨f1.lay L, ?_⟩), fun w => ?_⟩
  · rw [if_neg nz] at e1
    refine hQ _ ((m6x f1).tr (FrC.stI (by unfold MX; omega))) ⟨⟨p, hp, ?_⟩, ?_, df⟩ ?_
    · rw [rdn (by omega), f1.I (by unfold A26; omega)]; exact d3
    · rw [rdn (by omega), e1]; exact d4
    · rw [rdn (by omega), f1.I (by unfold A26; omega)]
  · exact hQ _ (FrC.stI (by unfold MX; omega)) ⟨⟨p, hp, by rw [rdn (by omega)]; exact d3⟩, by rw [rdn (by omega)]; exact d4, df⟩ (rdn (by omega))
theorem m_wordOf {k : Nat} {Q : UInt32 → HP → Prop} (L : Lay h) (hk : k < 12) (hQ : ∀ t : UInt32, t.toNat = 6 + k → Q t h) : CallT g mX10_wordOf d [.int (nI k)] h Q := by
  have e : ∀ c, c < 12 → (nI k = nI c ↔ k = c) := fun c hc => nI_eq (by omega) (by omega)
  refine wX10_wordOf_0 _ L ⟨fun w => hQ 6 ?_, fun w0 => ⟨fun w => hQ 7 ?_, fun w1 => ⟨fun w => hQ 8 ?_, fun w2 => ⟨fun w => hQ 9 ?_, fun w3 => ⟨fun w => hQ 10 ?_, fun w4 => ⟨fun w => hQ 11 ?_, fun w5 => ⟨fun w => hQ 12 ?_, fun w6 => ⟨fun w => hQ 13 ?_, fun w7 => ⟨fun w => hQ 14 ?_, fun w8 => ⟨fun w => hQ 15 ?_, fun w9 => ⟨fun w => hQ 16 ?_, fun w10 => hQ 17 ?_⟩⟩⟩⟩⟩⟩⟩⟩⟩⟩⟩
  · have := (e 0 (by omega)).mp w; subst this; rfl
  · have := (e 1 (by omega)).mp w; subst this; rfl
  · have := (e 2 (by omega)).mp w; subst this; rfl
  · have := (e 3 (by omega)).mp w; subst this; rfl
  · have := (e 4 (by omega)).mp w; subst this; rfl
  · have := (e 5 (by omega)).mp w; subst this; rfl
  · have := (e 6 (by omega)).mp w; subst this; rfl
  · have := (e 7 (by omega)).mp w; subst this; rfl
  · have := (e 8 (by omega)).mp w; subst this; rfl
  · have := (e 9 (by omega)).mp w; subst this; rfl
  · have := (e 10 (by omega)).mp w; subst this; rfl
  · have : ¬ k = 0 := fun z => w0 ((e 0 (by omega)).mpr z)
    have : ¬ k = 1 := fun z => w1 ((e 1 (by omega)).mpr z)
    have : ¬ k = 2 := fun z => w2 ((e 2 (by omega)).mpr z)
    have : ¬ k = 3 := fun z => w3 ((e 3 (by omega)).mpr z)
    have : ¬ k = 4 := fun z => w4 ((e 4 (by omega)).mpr z)
    have : ¬ k = 5 := fun z => w5 ((e 5 (by omega)).mpr z)
    have : ¬ k = 6 := fun z => w6 ((e 6 (by omega)).mpr z)
    have : ¬ k = 7 := fun z => w7 ((e 7 (by omega)).mpr z)
    have : ¬ k = 8 := fun z => w8 ((e 8 (by omega)).mpr z)
    have : ¬ k = 9 := fun z => w9 ((e 9 (by omega)).mpr z)
    have : ¬ k = 10 := fun z => w10 ((e 10 (by omega)).mpr z)
    have : k = 11 := by omega
    subst this; rfl
theorem vw_drop : ∀ k : Fin 12, vWs.drop k.val = (6 + k.val) :: vWs.drop (k.val + 1) := by decide
/-- the words one by one -/
theorem m_words {P : Nat} {Q : HP → Prop} (C : MT T n r h) (hp : hI h 252 25 = nI P) (hp2 : P < 1000) (no : fW T n P vWs 0 = none → CallV g mX10_fails (d + 5) (0, 0) [.ref 252, .int 0, .int (nI P)] h (fun h7 => Lay h7 ∧ qV Q none h7)) (yes : ∀ k p' , fW T n P vWs 0 = some (k, p') → k < 12 → CallV g mX10_isCounted (d + 5) (0, 0) [.ref 252, .int (nI P)] h (fun h12 => Lay h12 ∧ (hI h12 252 25 = nI P → CallV g mX10_entry (d + 5) (0, 0) [.ref 252, .int 1, .int (nI k)] (setI h12 252 25 (nI p')) (fun h17 => Lay h17 ∧ qV Q none h17)) ∧ hI h12 252 25 = nI P)) : ∀ j k, k + j = 12 → fW T n P (vWs.drop k) k = fW T n P vWs 0 → Sat g mX10_value (d + 6) (0, 0) (qV Q) 37 [.ref 252, .int (nI P), .int (nI k)] [] h := by
  intro j
  induction j with
  | zero =>
    intro k hk e
    have : k = 12 := by omega
    subst this
    refine wX10_value_37 _ _ C.1.1 ?_
    rw [C.2.2.2]
    exact ⟨fun _ => ⟨fun _ => no e.symm, fun z => absurd rfl z⟩, fun z => absurd (by decide) z⟩
  | succ j ih =>
    intro k hk e
    have hk12 : k < 12 := by omega
    rw [vw_drop ⟨k, hk12⟩] at e
    have e : fW T n P ((6 + k) :: vWs.drop (k + 1)) k = fW T n P vWs 0 := e
    rw [fW] at e
    refine wX10_value_37 _ _ C.1.1 ?_
    rw [C.2.2.2]
    refine ⟨fun z => absurd z (nI_ge (a := k) (b := 12) hk12 (by omega)), fun _ => m_wordOf C.1.1 hk12 (fun t et => ⟨C.1.1, m_stood (d := d) C.1 (by omega) hp hp2 ⟨C.1.1, fun z => ?_, fun z => ?_⟩⟩)⟩
    · have c : ¬ mW T n (wS (6 + k)) P = true := fun c => by rw [et, if_pos c] at z; exact absurd z (by decide)
      rw [if_neg c] at e
      rw [nI_1]
      exact ih (k + 1) (by omega) e
    · have c : mW T n (wS (6 + k)) P = true := Decidable.byContradiction (fun c => z (by rw [et, if_neg c]))
      rw [if_pos c] at e
      refine ⟨fun w => absurd (show nI k = nI 12 by rw [w, C.2.2.2]; rfl) (fun w => by have := (nI_eq (a := k) (b := 12) (by omega) (by omega)).mp w; omega), fun _ => ?_⟩
      have Y := yes k _ e.symm hk12
      refine CallV.mono Y (fun h12 q => ⟨q.1, m_wordOf q.1 hk12 (fun t2 et2 => ⟨q.1, by omega, c_len (by omega) ⟨q.1, ?_⟩⟩)⟩)
      have l : strn t2 = (wS (6 + k)).length := by rw [← et2]; exact (len_ok ⟨t2.toNat, by omega⟩).1.symm
      rw [q.2.2, l, nI_add]
      exact q.2.1 q.2.2
theorem m_value {Q : HP → Prop} (C : MT T n r h) (D : MDx n r h x) (A : At n 3 S x) (hQ : Mt T n r h x 4 S Q) : CallV g mX10_value (d + 6) (0, 0) [.ref 252] h Q := by
  have n4 := C.1.2.1
  have r6 := C.2.2.1
  rcases A.ms with ⟨f, rfl⟩ | ⟨σ, rfl, I⟩
  · have D : MDf n h f := D
    obtain ⟨p, hp, d3⟩ := D.1
    refine wX10_value_0 C.1.1 (m_blanks C.1 d3 (by omega) (fun h1 f1 e1 => ⟨f1.lay C.1.1, ?_⟩))
    have C1 := C.fr (m5x f1)
    have b5 := bl_5 (T := T) hp
    have D1 := D.mv f1 b5 e1
    generalize bl T n p = P at *
    rw [e1]
    have fin : ∀ h2, FrC (MX r) h h2 → MDf n h2 f → Q h2 := fun h2 F2 D2 => hQ h2 (.inl f) F2 D2 trivial (GoX.rf _)
    refine m_isDigit C1.1 e1 (by omega) (fun dd => ⟨C1.1.1, fun z => absurd z (by decide), fun _ => ?_⟩) (fun nd => ⟨C1.1.1, fun _ => ?_, fun z => absurd rfl z⟩)
    · have hP := at_lt (T := T) (n := n) (p := P) (by omega)
      obtain ⟨q1, q2, q3⟩ := dg_rg (T := T) (n := n) (p := P) (by omega)
      have tail : ∀ h2 v, FrC (MX r) h1 h2 → MDf n h2 f → CallV g mX10_isCounted (d + 5) (0, 0) [.ref 252, .int (nI P)] h2 (fun h6 => Lay h6 ∧ CallV g mX10_entry (d + 5) (0, 0) [.ref 252, .int 0, .int v] h6 (fun h7 => Lay h7 ∧ qV Q none h7)) := fun h2 v F2 D2 =>
        m_countF (r := r) (F2.lay C1.1.1) D2 (fun h3 f3 D3 _ => ⟨f3.lay (F2.lay C1.1.1), m_entryF (f3.lay (F2.lay C1.1.1)) D3 ⟨f3.lay (F2.lay C1.1.1), fin h3 (((m5x f1).tr F2).tr f3) D3⟩⟩)
      refine m_digits (d := d + 3) C1.1 e1 (by omega) (fun _ _ h2 f2 e2 => ⟨f2.lay C1.1.1, tail h2 _ (m5x f2) (D1.mv f2 (by omega) e2)⟩) (fun c h2 p' v hc f2 e2 e4 => ⟨f2.lay C1.1.1, tail h2 _ (m56x f2) ⟨⟨p', by omega, e2⟩, ?_, D1.2.2⟩⟩)
      rw [e4, if_neg D1.nz]; exact D1.2.1
    · refine m_words (d := d) C1 e1 (by omega) (fun no => m_fails (c := 0) C1.1.1 (fun h2 f2 e2 => ⟨f2.lay C1.1.1, ?_⟩)) (fun k p' yes hk => ?_) 12 0 (by omega) rfl
      · rw [if_neg D1.nz] at e2
        exact fin h2 ((m5x f1).tr (m6x f2)) ⟨⟨P, b5, (f2.I (by unfold A26; omega)).trans e1⟩, e2.trans D1.2.1, D1.2.2⟩
      · obtain ⟨w1, w2, -⟩ := fW_rg vWs 0 k p' (by decide) yes
        refine m_countF (r := r) C1.1.1 D1 (fun h3 f3 D3 e3 => ⟨f3.lay C1.1.1, fun _ => ?_, e3.trans e1⟩)
        have f4 : FrC A25 h3 (setI h3 252 25 (nI p')) := FrC.stI ⟨rfl, rfl⟩
        have D4 := D3.mv f4 (by omega) rdI
        exact m_entryF (f4.lay (f3.lay C1.1.1)) D4 ⟨f4.lay (f3.lay C1.1.1), fin _ (((m5x f1).tr f3).tr (m5x f4)) D4⟩
  · have D : MDs r h σ := D
    have hp : sp σ ≤ n := I.1.1
    have hc : sc σ ≤ 60 := I.1.2.1
    obtain ⟨b1, b2, b3⟩ := bl_rg (T := T) hp
    refine wX10_value_0 C.1.1 (m_blanks C.1 D.1 (by omega) (fun h1 f1 e1 => ⟨f1.lay C.1.1, ?_⟩))
    have G1 := GoX.bk (T := T) (n := n) (m := 3) (S := S) (fun σ h => sk3 S σ h) σ
    have D1 := D.mv f1 e1
    have I1 := iv_pu I b1 b2
    have C1 := C.fr (m5x f1)
    have n32 : ¬ at_ T n (bl T n (sp σ)) = 32 := fun w => b3 (at_32.mp w)
    rw [e1]
    generalize hP : bl T n (sp σ) = P at *
    generalize hσ : pu σ P = σ1 at *
    have pP : sp σ1 = P := by rw [← hσ]
    have c6 : sc σ1 ≤ 60 := by rw [← hσ]; exact hc
    have e4 := iv_e n4 I1
    have e4 : se σ1 ≤ 253 := e4
    have s3 := st_3 T n S σ1
    rw [pP, if_neg n32] at s3
    refine m_isDigit C1.1 e1 (by omega) (fun dd => ⟨C1.1.1, fun z => absurd z (by decide), fun _ => ?_⟩) (fun nd => ⟨C1.1.1, fun _ => ?_, fun z => absurd rfl z⟩)
    · rw [if_pos dd] at s3
      obtain ⟨q1, q2, q3⟩ := dg_rg (T := T) (n := n) (p := P) b2
      refine m_digits (d := d + 3) C1.1 e1 (by omega) (fun _ y5 h2 f2 e2 => ⟨f2.lay C1.1.1, ?_⟩) (fun c h2 p' v hc f2 e2 e4' => ⟨f2.lay C1.1.1, ?_⟩)
      · have D2 := D1.mv f2 e2
        have C2 := C1.fr (m5x f2)
        rw [if_neg (by omega)] at s3
        refine m_count C2 D2 c6 b2 q2 (fun c60 h3 f3 D3 => ⟨f3.lay C2.1.1, ?_⟩) (fun c60 h3 f3 D3 _ => ⟨f3.lay C2.1.1, ?_⟩)
        · have c60 : sc σ1 < 60 := c60
          rw [if_neg (by omega)] at s3
          have C3 := C2.fr f3
          refine m_entryS (k := 0) C3 D3 (by show se σ1 < 300; omega) (fun h4 f4 D4 => ⟨f4.lay C3.1.1, ?_⟩)
          exact hQ h4 (.inr (4, S, em (pc1 σ1 (dgN T n P).1) 0 (dgN T n P).2)) ((((m5x f1).tr (m5x f2)).tr f3).tr f4) D4 ⟨rfl, rfl, iv_val I1 c60 (by rw [pP]; exact dg_lt dd) q2 (Or.inl ⟨rfl, q3⟩)⟩ (G1.tr (GoX.st s3 (by show sp σ1 ≤ _; rw [pP]; exact q1)))
        · have c60 : 60 ≤ sc σ1 := c60
          rw [if_pos c60] at s3
          exact m_entryF (f3.lay C2.1.1) D3 ⟨f3.lay C2.1.1, hQ h3 (.inl (1 + 8 * P + 3)) (((m5x f1).tr (m5x f2)).tr f3) D3 trivial (G1.tr (GoX.ft s3))⟩
      · have hc : 5 < (dgN T n P).1 - P ∧ c = 1 ∧ p' ≤ n := by
          rcases hc with hc | hc
          · exact absurd dd hc.1
          · exact ⟨Nat.lt_of_not_le hc.2.1, hc.2.2⟩
        rw [D1.2.1, if_pos rfl, hc.2.1] at e4'
        rw [if_pos hc.1] at s3
        have D2 : MDf n h2 (1 + 8 * P + 1) := ⟨⟨p', by omega, e2⟩, e4', by omega, by omega⟩
        have L2 := f2.lay C1.1.1
        refine m_countF (r := r) L2 D2 (fun h3 f3 D3 _ => ⟨f3.lay L2, m_entryF (f3.lay L2) D3 ⟨f3.lay L2, ?_⟩⟩)
        exact hQ h3 (.inl (1 + 8 * P + 1)) (((m5x f1).tr (m56x f2)).tr f3) D3 trivial (G1.tr (GoX.ft s3))
    · rw [if_neg nd] at s3
      refine m_words (d := d) C1 e1 (by omega) (fun no => m_fails (c := 0) C1.1.1 (fun h2 f2 e2 => ⟨f2.lay C1.1.1, ?_⟩)) (fun k p' yes hk => ?_) 12 0 (by omega) rfl
      · rw [no] at s3
        rw [D1.2.1, if_pos rfl] at e2
        exact hQ h2 (.inl (1 + 8 * P + 0)) ((m5x f1).tr (m6x f2)) ⟨⟨P, by omega, (f2.I (by unfold A26; omega)).trans e1⟩, e2, by omega, by omega⟩ trivial (G1.tr (GoX.ft s3))
      · rw [yes] at s3
        obtain ⟨w1, w2, w3, w4, -⟩ := fW_rg vWs 0 k p' (by decide) yes
        refine m_count C1 D1 c6 b2 (by omega) (fun c60 h3 f3 D3 => ⟨f3.lay C1.1.1, fun _ => ?_, D3.1.trans (by rw [show sp (pc1 σ1 (sp σ1)) = P from pP])⟩) (fun c60 h3 f3 D3 e3 => ⟨f3.lay C1.1.1, fun _ => ?_, e3.trans e1⟩)
        · have s3 : stp T n (3, S, σ1) = .inr (4, S, em (pc1 σ1 p') 1 k) := by rw [s3]; exact if_neg (by omega)
          have f4 : FrC A25 h3 (setI h3 252 25 (nI p')) := FrC.stI ⟨rfl, rfl⟩
          have C4 := (C1.fr f3).fr (m5x f4)
          refine m_entryS (k := 1) C4 (D3.mv f4 rdI) (by show se σ1 < 300; omega) (fun h5 f5 D5 => ⟨f5.lay C4.1.1, ?_⟩)
          exact hQ h5 (.inr (4, S, em (pc1 σ1 p') 1 k)) ((((m5x f1).tr f3).tr (m5x f4)).tr f5) D5 ⟨rfl, rfl, iv_val I1 c60 (by rw [pP]; exact w1) w2 (Or.inr ⟨rfl, by omega⟩)⟩ (G1.tr (GoX.st s3 (by show sp σ1 ≤ _; rw [pP]; exact Nat.le_of_lt w1)))
        · have s3 : stp T n (3, S, σ1) = .inl (.inl (1 + 8 * P + 3)) := by rw [s3]; exact if_pos c60
          have f4 : FrC A25 h3 (setI h3 252 25 (nI p')) := FrC.stI ⟨rfl, rfl⟩
          have L4 := f4.lay (f3.lay C1.1.1)
          have D4 := D3.mv f4 (by omega) rdI
          exact m_entryF L4 D4 ⟨L4, hQ _ (.inl (1 + 8 * P + 3)) (((m5x f1).tr f3).tr (m5x f4)) D4 trivial (G1.tr (GoX.ft s3))⟩
end MV
