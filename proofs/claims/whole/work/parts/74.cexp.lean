/-! the class reads SUMS -/
def AX (r x k : Nat) : Prop := (x = 29 ∧ (k = 3 ∨ k = 4 ∨ k = 5)) ∨ (x = 126 + 5 * r ∧ k = 2) ∨ x = 127 + 5 * r ∨ x = 128 + 5 * r
def CT (T : Nat → Nat) (n r : Nat) (h : HP) : Prop := CT0 T n h ∧ hR h 29 6 = some (126 + 5 * r) ∧ r < 6
theorem CT.fr {T : Nat → Nat} {n r : Nat} {h h' : HP} (C : CT T n r h) (f : FrC (AX r) h h') : CT T n r h' := ⟨C.1.fr f (fun k w => by unfold AX at w; omega) (fun w => by unfold AX at w; omega), by rw [f.2.1]; exact C.2.1, C.2.2⟩
def CDs (r : Nat) (h : HP) (σ : PS) : Prop := hI h 29 3 = nI (sp σ) ∧ hI h 29 4 = 0 ∧ hI h 29 5 = nI (sc σ) ∧ hI h (126 + 5 * r) 2 = nI (se σ) ∧ ∀ i, i < se σ → hI h (127 + 5 * r) i = nI (skd σ i) ∧ hI h (128 + 5 * r) i = nI (svl σ i)
def CDf (n r : Nat) (h : HP) (f : Nat) : Prop := (∃ p, p ≤ n ∧ hI h 29 3 = nI p) ∧ hI h 29 4 = nI f ∧ (1 ≤ f ∧ f < 10000) ∧ ∃ s, s ≤ 400 ∧ hI h (126 + 5 * r) 2 = nI s
def CD (n r : Nat) (h : HP) (x : CX) : Prop := match x with
  | .inl f => CDf n r h f
  | .inr c => CDs r h c.2.2
def At (n m : Nat) (S : List Nat) (x : CX) : Prop := match x with
  | .inl _ => True
  | .inr c => c.1 = m ∧ c.2.1 = S ∧ Inv n c
def Ct (T : Nat → Nat) (n r : Nat) (h : HP) (x : CX) (m : Nat) (S : List Nat) (Q : HP → Prop) : Prop := ∀ h' y, FrC (AX r) h h' → CD n r h' y → At n m S y → GoX T n x y → Q h'
theorem CDf.nz {n r f : Nat} {h : HP} (D : CDf n r h f) : ¬ hI h 29 4 = 0 := by rw [D.2.1]; exact nI_ne0 (by have := D.2.2.1; omega) (by have := D.2.2.1; omega)
theorem CDs.mv {r : Nat} {h h' : HP} {σ : PS} {p : Nat} (D : CDs r h σ) (f : FrC A3 h h') (e : hI h' 29 3 = nI p) : CDs r h' (pu σ p) :=
  ⟨e, (f.I (by unfold A3; omega)).trans D.2.1, (f.I (by unfold A3; omega)).trans D.2.2.1, (f.I (by unfold A3; omega)).trans D.2.2.2.1, fun i hi => by rw [f.I (by unfold A3; omega), f.I (by unfold A3; omega)]; exact D.2.2.2.2 i hi⟩
theorem CDf.mv {n r f : Nat} {h h' : HP} {p : Nat} (D : CDf n r h f) (fr : FrC A3 h h') (hp : p ≤ n) (e : hI h' 29 3 = nI p) : CDf n r h' f :=
  ⟨⟨p, hp, e⟩, (fr.I (by unfold A3; omega)).trans D.2.1, D.2.2.1, by obtain ⟨s, h1, h2⟩ := D.2.2.2; exact ⟨s, h1, (fr.I (by unfold A3; omega)).trans h2⟩⟩
theorem f3x {r : Nat} {h h' : HP} (f : FrC A3 h h') : FrC (AX r) h h' := f.wd (fun x k w => by unfold A3 at w; unfold AX; omega)
theorem f4x {r : Nat} {h h' : HP} (f : FrC A4 h h') : FrC (AX r) h h' := f.wd (fun x k w => by unfold A4 at w; unfold AX; omega)
theorem f34x {r : Nat} {h h' : HP} (f : FrC A34 h h') : FrC (AX r) h h' := f.wd (fun x k w => by unfold A34 at w; unfold AX; omega)
theorem CDs.ft {n r f : Nat} {h h' : HP} {σ : PS} (D : CDs r h σ) (hn : n ≤ 400) (he : se σ ≤ 400) (hf : 1 ≤ f ∧ f < 10000) (fr : FrC A34 h h') {p : Nat} (hp : p ≤ n) (e3 : hI h' 29 3 = nI p) (e4 : hI h' 29 4 = nI f) : CDf n r h' f :=
  ⟨⟨p, hp, e3⟩, e4, hf, se σ, he, (fr.I (by unfold A34; omega)).trans D.2.2.2.1⟩
theorem At.ms {n m : Nat} {S : List Nat} {x : CX} (A : At n m S x) : (∃ f, x = .inl f) ∨ ∃ σ, x = .inr (m, S, σ) ∧ Inv n (m, S, σ) := by
  rcases x with f | ⟨m', S', σ⟩
  · exact Or.inl ⟨f, rfl⟩
  · obtain ⟨h1, h2, h3⟩ := A
    have h1 : m' = m := h1
    have h2 : S' = S := h2
    subst h1 h2
    exact Or.inr ⟨σ, rfl, h3⟩
theorem iv_e {n m : Nat} {S : List Nat} {σ : PS} (hn : n ≤ 400) (I : Inv n (m, S, σ)) : se σ ≤ 253 := by
  obtain ⟨⟨a1, a2, a3⟩, b, -⟩ := I
  have a1 : sp σ ≤ n := a1
  have a2 : sc σ ≤ 60 := a2
  have b : 3 * (se σ + pe S) + kM m ≤ 6 * sc σ + sp σ := b
  omega
theorem st_3 (T : Nat → Nat) (n : Nat) (S : List Nat) (σ : PS) : stp T n (3, S, σ) = if at_ T n (sp σ) = 32 then .inr (3, S, pu σ (sp σ + 1)) else
    if 48 ≤ at_ T n (sp σ) ∧ at_ T n (sp σ) ≤ 57 then (if 5 < (dgN T n (sp σ)).1 - sp σ then .inl (.inl (1 + 8 * sp σ + 1)) else if 60 ≤ sc σ then .inl (.inl (1 + 8 * sp σ + 3)) else .inr (4, S, em (pc1 σ (dgN T n (sp σ)).1) 0 (dgN T n (sp σ)).2)) else
    (match fW T n (sp σ) vWs 0 with
      | none => .inl (.inl (1 + 8 * sp σ + 0))
      | some (k, p') => if 60 ≤ sc σ then .inl (.inl (1 + 8 * sp σ + 3)) else .inr (4, S, em (pc1 σ p') 1 k)) := rfl
theorem st_4 (T : Nat → Nat) (n : Nat) (S : List Nat) (σ : PS) : stp T n (4, S, σ) = if 4 ≤ S.headD 0 ∧ S.headD 0 ≤ 6 then .inr (4, S.tail, em σ (S.headD 0) 0) else
    if at_ T n (sp σ) = 32 then .inr (4, S, pu σ (sp σ + 1)) else
    if ¬ mulK (at_ T n (sp σ)) = 0 then .inr (3, mulK (at_ T n (sp σ)) :: S, pu σ (sp σ + 1)) else
    if 2 ≤ S.headD 0 ∧ S.headD 0 ≤ 3 then .inr (4, S.tail, em σ (S.headD 0) 0) else
    if ¬ addK (at_ T n (sp σ)) = 0 then .inr (3, addK (at_ T n (sp σ)) :: S, pu σ (sp σ + 1)) else .inr (5, S, σ) := rfl
theorem st_5 (T : Nat → Nat) (n : Nat) (S : List Nat) (σ : PS) : stp T n (5, S, σ) = if S.headD 0 = 0 then .inr (8, [], (σ.1, σ.2.1, (sq σ, sA σ, up1 (sT σ) (sq σ) (se σ)))) else
    if 7 ≤ S.headD 0 ∧ S.headD 0 ≤ 11 then .inr (1, S.tail, em σ (S.headD 0) 0) else
    if at_ T n (sp σ) = 60 ∨ at_ T n (sp σ) = 61 ∨ at_ T n (sp σ) = 62 then (if 60 ≤ sc σ then .inl (.inl (1 + 8 * sp σ + 3)) else .inr (3, cmpK (at_ T n (sp σ)) (at_ T n (sp σ + 1)) :: S.tail, pc1 σ (if ¬ at_ T n (sp σ) = 61 ∧ at_ T n (sp σ + 1) = 61 then sp σ + 2 else sp σ + 1))) else .inl (.inl (1 + 8 * sp σ + 0)) := rfl
theorem mulK_c (x : Nat) : (mulK x = 0 ∧ ¬ x = 42 ∧ ¬ x = 47 ∧ ¬ x = 37) ∨ (x = 42 ∧ mulK x = 4) ∨ (x = 47 ∧ mulK x = 5) ∨ (x = 37 ∧ mulK x = 6) := by
  unfold mulK
  (repeat' split) <;> omega
theorem addK_c (x : Nat) : (addK x = 0 ∧ ¬ x = 43 ∧ ¬ x = 45) ∨ (x = 43 ∧ addK x = 2) ∨ (x = 45 ∧ addK x = 3) := by
  unfold addK
  (repeat' split) <;> omega
theorem cmpK_c (x y : Nat) : 7 ≤ cmpK x y ∧ cmpK x y ≤ 11 := by
  unfold cmpK
  (repeat' split) <;> omega
section CE
variable {g : GT} {d n r p : Nat} {T : Nat → Nat} {h : HP} {x : CX} {S : List Nat}
theorem c_addS {k v : Nat} {σ : PS} {Q : HP → Prop} (C : CT T n r h) (D : CDs r h σ) (he : se σ < 400) (hQ : ∀ h', FrC (AX r) h h' → CDs r h' (em σ k v) → Q h') : CallV g mX7_add d (0, 0) [.ref (126 + 5 * r), .int (nI k), .int (nI v)] h Q := by
  obtain ⟨k0, ⟨r0, r1, r3, r4⟩, ⟨k1, k2, k3, k4⟩, n1, n2, n3, n4⟩ := Lru C.1.1 C.2.2
  obtain ⟨d3, d4, d5, d2, dd⟩ := D
  refine vX7_add_0 _ _ _ h ⟨k0, ?_⟩
  rw [d2, nI_clamp (n := se σ) (by omega)]
  refine ⟨fun w => absurd w (nI_ge (a := se σ) (b := 400) he (by omega)), fun _ => ?_⟩
  have e2 : hI (setI h (126 + 5 * r + 1) (se σ) (nI k)) (126 + 5 * r) 2 = nI (se σ) := by rw [rdn (by omega)]; exact d2
  refine ⟨k0, 126 + 5 * r + 1, r0, k0, k1, by rw [n1]; exact vn (by omega) (by omega), k0, 126 + 5 * r + 2, r1, k0, k2, ?_⟩
  rw [e2, nI_clamp (n := se σ) (by omega)]
  refine ⟨by show vp_in _ (hN h _); rw [n2]; exact vn (by omega) (by omega), ?_⟩
  intro h3 eh3
  subst eh3
  refine ⟨k0, k0, ?_⟩
  have e3 : hI (setI (setI h (126 + 5 * r + 1) (se σ) (nI k)) (126 + 5 * r + 2) (se σ) (nI v)) (126 + 5 * r) 2 = nI (se σ) := by rw [rdn (by omega)]; exact e2
  rw [e3, nI_1]
  refine hQ _ (((FrC.stI (by unfold AX; omega)).tr (FrC.stI (by unfold AX; omega))).tr (FrC.stI (by unfold AX; omega))) ⟨?_, ?_, ?_, rdI, fun i hi => ?_⟩
  · rw [rdn (by omega), rdn (by omega), rdn (by omega)]; exact d3
  · rw [rdn (by omega), rdn (by omega), rdn (by omega)]; exact d4
  · rw [rdn (by omega), rdn (by omega), rdn (by omega)]; exact d5
  · have hi : i < se σ + 1 := hi
    by_cases c : i = se σ
    · subst c
      refine ⟨?_, ?_⟩
      · rw [rdn (by omega), rdn (by omega), show 127 + 5 * r = 126 + 5 * r + 1 by omega, rdI]
        exact congrArg nI (if_pos rfl).symm
      · rw [rdn (by omega), show 128 + 5 * r = 126 + 5 * r + 2 by omega, rdI]
        exact congrArg nI (if_pos rfl).symm
    · have q := dd i (by omega)
      refine ⟨?_, ?_⟩
      · rw [rdn (by omega), rdn (by omega), rdn (by omega), q.1]
        exact congrArg nI (if_neg c).symm
      · rw [rdn (by omega), rdn (by omega), rdn (by omega), q.2]
        exact congrArg nI (if_neg c).symm
theorem c_addF {k v : Int32} {f : Nat} {Q : HP → Prop} (C : CT T n r h) (D : CDf n r h f) (hQ : ∀ h', FrC (AX r) h h' → CDf n r h' f → Q h') : CallV g mX7_add d (0, 0) [.ref (126 + 5 * r), .int k, .int v] h Q := by
  obtain ⟨k0, ⟨r0, r1, r3, r4⟩, ⟨k1, k2, k3, k4⟩, n1, n2, n3, n4⟩ := Lru C.1.1 C.2.2
  obtain ⟨⟨p, hp, d3⟩, d4, df, s, hs, d2⟩ := D
  refine vX7_add_0 _ _ _ h ⟨k0, ?_⟩
  rw [d2, nI_clamp (n := s) (by omega)]
  refine ⟨fun w => hQ h (FrC.rf h) ⟨⟨p, hp, d3⟩, d4, df, s, hs, d2⟩, fun w => ?_⟩
  have hs : s < 400 := Nat.lt_of_not_le (fun z => w (nI_le (a := 400) z (by omega)))
  have e2 : hI (setI h (126 + 5 * r + 1) s k) (126 + 5 * r) 2 = nI s := by rw [rdn (by omega)]; exact d2
  refine ⟨k0, 126 + 5 * r + 1, r0, k0, k1, by rw [n1]; exact vn (by omega) (by omega), k0, 126 + 5 * r + 2, r1, k0, k2, ?_⟩
  rw [e2, nI_clamp (n := s) (by omega)]
  refine ⟨by show vp_in _ (hN h _); rw [n2]; exact vn (by omega) (by omega), ?_⟩
  intro h3 eh3
  subst eh3
  refine ⟨k0, k0, ?_⟩
  have e3 : hI (setI (setI h (126 + 5 * r + 1) s k) (126 + 5 * r + 2) s v) (126 + 5 * r) 2 = nI s := by rw [rdn (by omega)]; exact e2
  rw [e3, nI_1]
  refine hQ _ (((FrC.stI (by unfold AX; omega)).tr (FrC.stI (by unfold AX; omega))).tr (FrC.stI (by unfold AX; omega))) ⟨⟨p, hp, ?_⟩, ?_, df, s + 1, by omega, rdI⟩
  · rw [rdn (by omega), rdn (by omega), rdn (by omega)]; exact d3
  · rw [rdn (by omega), rdn (by omega), rdn (by omega)]; exact d4
theorem c_count {σ : PS} {P : Nat} {Q : HP → Prop} (C : CT T n r h) (D : CDs r h σ) (hc : sc σ ≤ 60) (hP : P ≤ n) (hpn : sp σ ≤ n) (he : se σ ≤ 400) (yes : sc σ < 60 → ∀ h', FrC (AX r) h h' → CDs r h' (pc1 σ (sp σ)) → Q h') (no : 60 ≤ sc σ → ∀ h', FrC (AX r) h h' → CDf n r h' (1 + 8 * P + 3) → hI h' 29 3 = hI h 29 3 → Q h') : CallV g mX6_countItem (d + 1) (0, 0) [.ref 29, .int (nI P)] h Q := by
  have n4 := C.1.2.2.1
  obtain ⟨d3, d4, d5, d2, dd⟩ := D
  refine wX6_countItem_0 _ C.1.1 ?_
  rw [d5]
  refine ⟨fun w => ?_, fun w => c_fail (c := 3) C.1.1 (fun h1 f1 e1 => ⟨f1.lay C.1.1, ?_⟩)⟩
  · rw [nI_1]
    refine yes ((nI_ltI (a := sc σ) (b := 60) (by omega) (by omega)).mp w) _ (FrC.stI (by unfold AX; omega)) ⟨?_, ?_, rdI, ?_, fun i hi => ?_⟩
    · rw [rdn (by omega)]; exact d3
    · rw [rdn (by omega)]; exact d4
    · rw [rdn (by omega)]; exact d2
    · rw [rdn (by omega), rdn (by omega)]; exact dd i hi
  · rw [d4, if_pos rfl] at e1
    refine no (Nat.le_of_not_lt (fun z => w (nI_lt (b := 60) z (by omega)))) _ ((f4x f1).tr (FrC.stI (by unfold AX; omega))) ⟨⟨sp σ, hpn, ?_⟩, ?_, by omega, se σ, he, ?_⟩ ?_
    · rw [rdn (by omega), f1.I (by unfold A4; omega)]; exact d3
    · rw [rdn (by omega)]; exact e1
    · rw [rdn (by omega), f1.I (by unfold A4; omega)]; exact d2
    · rw [rdn (by omega), f1.I (by unfold A4; omega)]
theorem c_countF {f : Nat} {P : Nat} {Q : HP → Prop} (C : CT T n r h) (D : CDf n r h f) (hQ : ∀ h', FrC (AX r) h h' → CDf n r h' f → hI h' 29 3 = hI h 29 3 → Q h') : CallV g mX6_countItem (d + 1) (0, 0) [.ref 29, .int (nI P)] h Q := by
  have nz := D.nz
  obtain ⟨⟨p, hp, d3⟩, d4, df, s, hs, d2⟩ := D
  have go : ∀ v, Q (setI h 29 5 v) := fun v => hQ _ (FrC.stI (by unfold AX; omega)) ⟨⟨p, hp, by rw [rdn (by omega)]; exact d3⟩, by rw [rdn (by omega)]; exact d4, df, s, hs, by rw [rdn (by omega)]; exact d2⟩ (rdn (by omega))
  refine wX6_countItem_0 _ C.1.1 ⟨fun w => go _, fun w => c_fail (c := 3) C.1.1 (fun h1 f1 e1 => ⟨f1.lay C.1.1, ?_⟩)⟩
  rw [if_neg nz] at e1
  refine hQ _ ((f4x f1).tr (FrC.stI (by unfold AX; omega))) ⟨⟨p, hp, ?_⟩, ?_, df, s, hs, ?_⟩ ?_
  · rw [rdn (by omega), f1.I (by unfold A4; omega)]; exact d3
  · rw [rdn (by omega), e1]; exact d4
  · rw [rdn (by omega), f1.I (by unfold A4; omega)]; exact d2
  · rw [rdn (by omega), f1.I (by unfold A4; omega)]
theorem sk3 (S : List Nat) (σ : PS) (h : at_ T n (sp σ) = 32) : stp T n (3, S, σ) = .inr (3, S, pu σ (sp σ + 1)) := by rw [st_3, if_pos h]
theorem c_readValue {Q : HP → Prop} (C : CT T n r h) (D : CD n r h x) (A : At n 3 S x) (hQ : Ct T n r h x 4 S Q) : CallV g mX6_readValue (d + 6) (0, 0) [.ref 29] h Q := by
  have n4 := C.1.2.2.1
  rcases A.ms with ⟨f, rfl⟩ | ⟨σ, rfl, I⟩
  · have D : CDf n r h f := D
    obtain ⟨p, hp, d3⟩ := D.1
    refine wX6_readValue_0 C.1.1 (c_next C.1 d3 hp (fun h1 f1 e1 => ⟨f1.lay C.1.1, ?_⟩))
    have D1 := D.mv f1 (bl_rg (T := T) hp).2.1 e1
    exact ⟨fun w => absurd w D1.nz, fun _ => hQ h1 (.inl f) (f3x f1) D1 trivial (GoX.rf _)⟩
  · have D : CDs r h σ := D
    have hp : sp σ ≤ n := I.1.1
    have hc : sc σ ≤ 60 := I.1.2.1
    obtain ⟨b1, b2, b3⟩ := bl_rg (T := T) hp
    refine wX6_readValue_0 C.1.1 (c_next C.1 D.1 hp (fun h1 f1 e1 => ⟨f1.lay C.1.1, ?_⟩))
    have G1 := GoX.bk (T := T) (n := n) (m := 3) (S := S) (fun σ h => sk3 S σ h) σ
    have D1 := D.mv f1 e1
    have I1 := iv_pu I b1 b2
    have C1 := C.fr (f3x f1)
    have n32 : ¬ at_ T n (bl T n (sp σ)) = 32 := fun w => b3 (at_32.mp w)
    rw [e1]
    generalize hP : bl T n (sp σ) = P at *
    generalize hσ : pu σ P = σ1 at *
    have pP : sp σ1 = P := by rw [← hσ]
    have c6 : sc σ1 ≤ 60 := by rw [← hσ]; exact hc
    have e4 := iv_e n4 I1
    refine ⟨fun _ => ?_, fun w => absurd D1.2.1 w⟩
    refine c_isDigit C1.1.1 (sg_c C.1.2.2.2.2.2) (fun dd => ⟨C1.1.1, fun z => absurd z (by decide), fun _ => ?_⟩) (fun nd => ⟨C1.1.1, fun _ => ?_, fun z => absurd rfl z⟩)
    · have s3 := st_3 T n S σ1
      rw [pP, if_neg n32, if_pos dd] at s3
      have bP : bl T n P = P := bl_n (fun w => n32 (at_32.mpr w))
      obtain ⟨q1, q2, q3⟩ := dg_rg (T := T) b2
      refine c_readNumber (a := 0) (b := 99999) C1.1 (D1.1.trans (by rw [pP])) b2 (by omega) (by omega) (fun _ y5 _ _ h2 f2 e2 => ?_) (fun c h2 p2 v hc f2 hp2 e3 e4' => ?_)
      · rw [bP] at y5 e2 ⊢
        have D2 := D1.mv f2 e2
        have C2 := C1.fr (f3x f2)
        refine ⟨C2.1.1, _, C2.2.1, (Lru C2.1.1 C2.2.2).1, c_addS (k := 0) C2 D2 (by show se σ1 < 400; omega) (fun h3 f3 D3 => ⟨f3.lay C2.1.1, ?_⟩)⟩
        have C3 := C2.fr f3
        refine c_count C3 D3 c6 b2 q2 (by show se σ1 + 1 ≤ 400; omega) (fun c60 h4 f4 D4 => ⟨f4.lay C3.1.1, ?_⟩) (fun c60 h4 f4 D4 _ => ⟨f4.lay C3.1.1, ?_⟩)
        · have c60 : sc σ1 < 60 := c60
          rw [if_neg (by omega), if_neg (by omega)] at s3
          exact hQ h4 (.inr (4, S, em (pc1 σ1 (dgN T n P).1) 0 (dgN T n P).2)) ((((f3x f1).tr (f3x f2)).tr f3).tr f4) D4 ⟨rfl, rfl, iv_val I1 c60 (by rw [pP]; exact dg_lt dd) q2 (Or.inl ⟨rfl, q3⟩)⟩ (G1.tr (GoX.st s3 (by show sp σ1 ≤ _; rw [pP]; exact q1)))
        · have c60 : 60 ≤ sc σ1 := c60
          rw [if_neg (by omega), if_pos c60] at s3
          exact hQ h4 (.inl (1 + 8 * P + 3)) ((((f3x f1).tr (f3x f2)).tr f3).tr f4) D4 trivial (G1.tr (GoX.ft s3))
      · rw [bP] at hc e4'
        have hc : 5 < (dgN T n P).1 - P ∧ c = 1 := by
          rcases hc with hc | hc
          · exact absurd dd hc.1
          · refine ⟨Nat.lt_of_not_le (fun w => hc.2.1 ⟨w, by omega, q3⟩), hc.2.2⟩
        rw [D1.2.1, if_pos rfl, hc.2] at e4'
        rw [if_pos hc.1] at s3
        have D2 : CDf n r h2 (1 + 8 * P + 1) := D1.ft n4 (by omega) (by omega) f2 hp2 e3 e4'
        have C2 := C1.fr (f34x f2)
        refine ⟨C2.1.1, _, C2.2.1, (Lru C2.1.1 C2.2.2).1, c_addF C2 D2 (fun h3 f3 D3 => ⟨f3.lay C2.1.1, c_countF (C2.fr f3) D3 (fun h4 f4 D4 _ => ⟨f4.lay (C2.fr f3).1.1, ?_⟩)⟩)⟩
        exact hQ h4 (.inl (1 + 8 * P + 1)) ((((f3x f1).tr (f34x f2)).tr f3).tr f4) D4 trivial (G1.tr (GoX.ft s3))
    · have s3 := st_3 T n S σ1
      rw [pP, if_neg n32, if_neg nd] at s3
      refine c_takeWord (t := 5) C1.1 (by decide) (D1.1.trans (by rw [pP])) b2 (fun no => ?_) (fun k p' yes => ?_)
      · have no : fW T n P vWs 0 = none := no
        rw [no] at s3
        refine ⟨C1.1.1, fun _ => c_fail (c := 0) C1.1.1 (fun h2 f2 e2 => ⟨f2.lay C1.1.1, ?_⟩), fun z => absurd rfl z⟩
        rw [D1.2.1, if_pos rfl] at e2
        have D2 : CDf n r h2 (1 + 8 * P + 0) := D1.ft n4 (by omega) (by omega) (f2.wd (fun x k w => by unfold A4 at w; unfold A34; omega)) b2 ((f2.I (by unfold A4; omega)).trans (D1.1.trans (by rw [pP]))) e2
        have C2 := C1.fr (f4x f2)
        refine ⟨_, C2.2.1, (Lru C2.1.1 C2.2.2).1, c_addF C2 D2 (fun h3 f3 D3 => ⟨f3.lay C2.1.1, c_countF (C2.fr f3) D3 (fun h4 f4 D4 _ => ⟨f4.lay (C2.fr f3).1.1, ?_⟩)⟩)⟩
        exact hQ h4 (.inl (1 + 8 * P + 0)) ((((f3x f1).tr (f4x f2)).tr f3).tr f4) D4 trivial (G1.tr (GoX.ft s3))
      · have yes : fW T n P vWs 0 = some (k, p') := yes
        rw [yes] at s3
        obtain ⟨w1, w2, w3, w4, -⟩ := fW_rg vWs 0 k p' (by decide) yes
        have w4 : k < 0 + 12 := w4
        have f2 : FrC A3 h1 (setI h1 29 3 (nI p')) := FrC.stI ⟨rfl, rfl⟩
        have D2 := D1.mv f2 rdI
        have C2 := C1.fr (f3x f2)
        refine ⟨C2.1.1, fun z => absurd z (fun e => ?_), fun _ => ⟨_, C2.2.1, (Lru C2.1.1 C2.2.2).1, c_addS (k := 1) C2 D2 (by show se σ1 < 400; omega) (fun h3 f3 D3 => ⟨f3.lay C2.1.1, ?_⟩)⟩⟩
        · have e2 : (-1 : Int32) < 0 := by decide
          rw [← e] at e2
          exact nI_pos (by omega) e2
        have C3 := C2.fr f3
        refine c_count C3 D3 c6 b2 w2 (by show se σ1 + 1 ≤ 400; omega) (fun c60 h4 f4 D4 => ⟨f4.lay C3.1.1, ?_⟩) (fun c60 h4 f4 D4 _ => ⟨f4.lay C3.1.1, ?_⟩)
        · have c60 : sc σ1 < 60 := c60
          have s3 : stp T n (3, S, σ1) = .inr (4, S, em (pc1 σ1 p') 1 k) := by rw [s3]; exact if_neg (by omega)
          exact hQ h4 (.inr (4, S, em (pc1 σ1 p') 1 k)) ((((f3x f1).tr (f3x f2)).tr f3).tr f4) D4 ⟨rfl, rfl, iv_val I1 c60 (by rw [pP]; exact w1) w2 (Or.inr ⟨rfl, by omega⟩)⟩ (G1.tr (GoX.st s3 (by show sp σ1 ≤ _; rw [pP]; exact Nat.le_of_lt w1)))
        · have c60 : 60 ≤ sc σ1 := c60
          have s3 : stp T n (3, S, σ1) = .inl (.inl (1 + 8 * P + 3)) := by rw [s3]; exact if_pos c60
          exact hQ h4 (.inl (1 + 8 * P + 3)) ((((f3x f1).tr (f3x f2)).tr f3).tr f4) D4 trivial (G1.tr (GoX.ft s3))
end CE
