/-! the class reads SUMS, SIGNS, FACTS, TESTS -/
def NB (T : Nat → Nat) (n : Nat) (x : CX) : Prop := match x with
  | .inl _ => True
  | .inr c => ¬ at_ T n (sp c.2.2) = 32
def wI_ (w : Nat) : Int32 := if w = 0 then -1 else nI w
def wL_ (w : Nat) (S : List Nat) : List Nat := if w = 0 then S else w :: S
theorem nI_m1 {k : Nat} (h : k < 2 ^ 31) : ¬ nI k = -1 := fun e => by
  have e2 : (-1 : Int32) < 0 := by decide
  rw [← e] at e2
  exact nI_pos h e2
theorem sk4 {T : Nat → Nat} {n : Nat} (S : List Nat) (hS : ¬ (4 ≤ S.headD 0 ∧ S.headD 0 ≤ 6)) (σ : PS) (h : at_ T n (sp σ) = 32) : stp T n (4, S, σ) = .inr (4, S, pu σ (sp σ + 1)) := by rw [st_4, if_neg hS, if_pos h]
theorem st_0 (T : Nat → Nat) (n : Nat) (S : List Nat) (σ : PS) : stp T n (0, S, σ) = if at_ T n (sp σ) = 32 then .inr (0, S, pu σ (sp σ + 1)) else
    if mW T n (wS 18) (sp σ) = true then (if 10 ≤ dpS S then .inl (.inl (1 + 8 * sp σ + 2)) else .inr (0, 14 :: S, pu σ (sp σ + 3))) else
    if at_ T n (sp σ) = 91 then (if 10 ≤ dpS S then .inl (.inl (1 + 8 * sp σ + 2)) else .inr (0, 15 :: S, pu σ (sp σ + 1))) else .inr (3, 16 :: S, σ) := rfl
theorem st_1 {y : Nat} (hy : y = 13 ∨ y = 15 ∨ y = 17) (T : Nat → Nat) (n : Nat) (S' : List Nat) (σ : PS) : stp T n (1, y :: S', σ) = if at_ T n (sp σ) = 32 then .inr (1, y :: S', pu σ (sp σ + 1)) else
    if mW T n (wS 19) (sp σ) = true then .inr (0, 12 :: y :: S', pu σ (sp σ + 3)) else
    if mW T n (wS 20) (sp σ) = true then (if y = 13 then .inr (0, 13 :: S', pu (em σ 13 0) (sp σ + 2)) else .inr (0, 13 :: y :: S', pu σ (sp σ + 2))) else
    (if y = 13 then .inr (2, S', em σ 13 0) else .inr (2, y :: S', σ)) := by
  rcases hy with rfl | rfl | rfl <;> rfl
theorem st_4c (T : Nat → Nat) (n w : Nat) (S : List Nat) (σ : PS) : stp T n (4, w :: S, σ) = if 4 ≤ w ∧ w ≤ 6 then .inr (4, S, em σ w 0) else
    if at_ T n (sp σ) = 32 then .inr (4, w :: S, pu σ (sp σ + 1)) else
    if ¬ mulK (at_ T n (sp σ)) = 0 then .inr (3, mulK (at_ T n (sp σ)) :: w :: S, pu σ (sp σ + 1)) else
    if 2 ≤ w ∧ w ≤ 3 then .inr (4, S, em σ w 0) else
    if ¬ addK (at_ T n (sp σ)) = 0 then .inr (3, addK (at_ T n (sp σ)) :: w :: S, pu σ (sp σ + 1)) else .inr (5, w :: S, σ) := rfl
theorem hd_c {S : List Nat} {y : Nat} (h : S.headD 0 = y) (h0 : ¬ y = 0) : ∃ S', S = y :: S' := by
  cases S with
  | nil => exact absurd h.symm h0
  | cons x S' => exact ⟨S', by rw [← h]; rfl⟩
section CS
variable {g : GT} {d n r p : Nat} {T : Nat → Nat} {h : HP} {x : CX} {S : List Nat}
theorem c_stepOf {X : Int32} {y : Nat} {Q : Int32 → HP → Prop} (L : Lay h) (hx : (X = nI y ∧ y < 256) ∨ (X = -1 ∧ y = 1000)) (hm : ¬ mulK y = 0 → Q (nI (mulK y)) h) (ha : mulK y = 0 → ¬ addK y = 0 → Q (nI (addK y)) h) (hn : mulK y = 0 → addK y = 0 → Q (-1) h) : CallI g mX6_stepOf d [.int X] h Q := by
  have ex : ∀ c, c < 256 → (X = nI c ↔ y = c) := fun c hc => by
    rcases hx with ⟨rfl, hy⟩ | ⟨rfl, rfl⟩
    · exact nI_eq (by omega) (by omega)
    · exact ⟨fun e => absurd e.symm (nI_m1 (by omega)), fun e => by omega⟩
  have no : ¬ y = 42 → ¬ y = 47 → ¬ y = 37 → ¬ y = 43 → ¬ y = 45 → Q (-1) h := fun h1 h2 h3 h4 h5 => hn (by have := mulK_c y; omega) (by have := addK_c y; omega)
  refine wX6_stepOf_0 X L ⟨fun w => ?_, fun w1 => ⟨fun w => ?_, fun w2 => ⟨fun w => ?_, fun w3 => ⟨fun w => ?_, fun w4 => ⟨fun w => ?_, fun w5 => ⟨fun w => ?_, fun w6 => ⟨fun w => ?_, fun w7 => ⟨fun w => ?_, fun w8 => ⟨fun w => ?_, fun w9 => ⟨fun w => ?_, fun w10 => ⟨fun w => ?_, fun w11 => ?_⟩⟩⟩⟩⟩⟩⟩⟩⟩⟩⟩
  · have e := (ex 37 (by omega)).mp w; subst e; exact hm (by decide)
  · have e := (ex 38 (by omega)).mp w; subst e; exact hn (by decide) (by decide)
  · have e := (ex 39 (by omega)).mp w; subst e; exact hn (by decide) (by decide)
  · have e := (ex 40 (by omega)).mp w; subst e; exact hn (by decide) (by decide)
  · have e := (ex 41 (by omega)).mp w; subst e; exact hn (by decide) (by decide)
  · have e := (ex 42 (by omega)).mp w; subst e; exact hm (by decide)
  · have e := (ex 43 (by omega)).mp w; subst e; exact ha (by decide) (by decide)
  · have e := (ex 44 (by omega)).mp w; subst e; exact hn (by decide) (by decide)
  · have e := (ex 45 (by omega)).mp w; subst e; exact ha (by decide) (by decide)
  · have e := (ex 46 (by omega)).mp w; subst e; exact hn (by decide) (by decide)
  · have e := (ex 47 (by omega)).mp w; subst e; exact hm (by decide)
  · exact no (fun e => w6 ((ex 42 (by omega)).mpr e)) (fun e => w11 ((ex 47 (by omega)).mpr e)) (fun e => w1 ((ex 37 (by omega)).mpr e)) (fun e => w7 ((ex 43 (by omega)).mpr e)) (fun e => w9 ((ex 45 (by omega)).mpr e))
/-- a step is added in whatever state, and the machine answers what waits -/
theorem c_addX {k m m2 : Nat} {S2 : List Nat} {y : CX} {Q : HP → Prop} (C : CT T n r h) (D : CD n r h y) (A : At n m S2 y) (hs : ∀ σ, Inv n (m, S2, σ) → y = .inr (m, S2, σ) → stp T n (m, S2, σ) = .inr (m2, S, em σ k 0) ∧ Inv n (m2, S, em σ k 0)) (hQ : ∀ h' z, FrC (AX r) h h' → CD n r h' z → At n m2 S z → GoX T n y z → (∀ c c', y = .inr c → z = .inr c' → sp c'.2.2 = sp c.2.2) → Q h') : CallV g mX7_add d (0, 0) [.ref (126 + 5 * r), .int (nI k), .int 0] h Q := by
  rcases A.ms with ⟨f, rfl⟩ | ⟨σ, rfl, I⟩
  · exact c_addF C D (fun h' f' D' => hQ h' (.inl f) f' D' trivial (GoX.rf _) (fun c c' e => absurd e (by simp)))
  · obtain ⟨s, I2⟩ := hs σ I rfl
    have e : se σ ≤ 253 := iv_e C.1.2.2.1 I
    exact c_addS (v := 0) (σ := σ) C D (by omega) (fun h' f' D' => hQ h' (.inr (m2, S, em σ k 0)) f' D' ⟨rfl, rfl, I2⟩ (GoX.st s (Nat.le_refl _)) (fun c c' e e' => by
      have e := Sum.inr.inj e
      have e' := Sum.inr.inj e'
      subst e e'
      rfl))
theorem c_readSum {Q : HP → Prop} (hS : ¬ (2 ≤ S.headD 0 ∧ S.headD 0 ≤ 6)) (C : CT T n r h) (D : CD n r h x) (A : At n 3 S x) (hQ : ∀ h' y, FrC (AX r) h h' → CD n r h' y → At n 5 S y → GoX T n x y → NB T n y → Q h') : CallV g mX6_readSum (d + 7) (0, 0) [.ref 29] h Q := by
  have n4 := C.1.2.2.1
  have hT := C.1.2.2.2.2.2
  have ex : ∀ w h' y, (w = 0 ∨ w = 2 ∨ w = 3) → FrC (AX r) h h' → CD n r h' y → At n 4 (wL_ w S) y → GoX T n x y → (∀ c, y = .inr c → ¬ at_ T n (sp c.2.2) = 32 ∧ mulK (at_ T n (sp c.2.2)) = 0 ∧ addK (at_ T n (sp c.2.2)) = 0) → (wI_ w = -1 → qV Q none h') ∧ (¬ wI_ w = -1 → ∃ y_, hR h' 29 6 = some y_ ∧ hK h' y_ = 8 ∧ CallV g mX7_add (d + 6) (0, 0) [.ref y_, .int (wI_ w), .int 0] h' (fun h2 => Lay h2 ∧ qV Q none h2)) := by
    intro w h' y hw f D' A' G N
    have C' := C.fr f
    have fin : ∀ h2 z, FrC (AX r) h h2 → CD n r h2 z → At n 4 S z → GoX T n x z → (∀ c, z = .inr c → ¬ at_ T n (sp c.2.2) = 32 ∧ mulK (at_ T n (sp c.2.2)) = 0 ∧ addK (at_ T n (sp c.2.2)) = 0) → Q h2 := by
      intro h2 z f2 D2 A2 G2 N2
      rcases A2.ms with ⟨fl, rfl⟩ | ⟨σ, rfl, I⟩
      · exact hQ h2 _ f2 D2 trivial G2 trivial
      · obtain ⟨q1, q2, q3⟩ := N2 _ rfl
        have s := st_4 T n S σ
        rw [if_neg (by omega), if_neg q1, if_neg (fun w => w q2), if_neg (by omega), if_neg (fun w => w q3)] at s
        exact hQ h2 (.inr (5, S, σ)) f2 D2 ⟨rfl, rfl, iv_sum I hS⟩ (G2.tr (GoX.st s (Nat.le_refl _))) q1
    refine ⟨fun e => ?_, fun e => ⟨_, C'.2.1, (Lru C'.1.1 C'.2.2).1, ?_⟩⟩
    · have w0 : w = 0 := by
        rcases hw with rfl | rfl | rfl
        · rfl
        · exact absurd e (nI_m1 (k := 2) (by omega))
        · exact absurd e (nI_m1 (k := 3) (by omega))
      subst w0
      exact fin h' y f D' A' G N
    · have w0 : ¬ w = 0 := fun z => e (by rw [z]; rfl)
      rw [show wI_ w = nI w from if_neg w0]
      rw [show wL_ w S = w :: S from if_neg w0] at A'
      refine c_addX (m2 := 4) (S := S) C' D' A' (fun σ I ey => ?_) (fun h2 z f2 D2 A2 G2 ep => ⟨f2.lay C'.1.1, fin h2 z (f.tr f2) D2 A2 (G.tr G2) (fun c ec => ?_)⟩)
      · have q : ¬ at_ T n (sp σ) = 32 ∧ mulK (at_ T n (sp σ)) = 0 ∧ addK (at_ T n (sp σ)) = 0 := N _ ey
        obtain ⟨q1, q2, q3⟩ := q
        have s := st_4c T n w S σ
        rw [if_neg (by omega), if_neg q1, if_neg (fun w => w q2), if_pos (by omega)] at s
        exact ⟨s, iv_pop I (by omega)⟩
      · rcases A'.ms with ⟨fl, rfl⟩ | ⟨σ, rfl, I⟩
        · have : z = .inl fl := G2.2
          rw [this] at ec
          exact absurd ec (by simp)
        · rw [ep _ _ rfl ec]
          exact N _ rfl
  have key : ∀ k i w h' y, i + k = 400 → (w = 0 ∨ w = 2 ∨ w = 3) → FrC (AX r) h h' → CD n r h' y → At n 4 (wL_ w S) y → GoX T n x y → (∀ c, y = .inr c → i ≤ sp c.2.2) → Sat g mX6_readSum (d + 7) (0, 0) (qV Q) 8 [.ref 29, .int (wI_ w), .int (nI i), .double 0, .double 0] [] h' := by
    intro k
    induction k with
    | zero =>
      intro i w h' y hi hw f D' A' G hp
      have C' := C.fr f
      have E := ex w h' y hw f D' A' G (fun c ec => by
        have q := hp c ec
        rw [ec] at A'
        have q2 : sp c.2.2 ≤ n := A'.2.2.1.1
        have : at_ T n (sp c.2.2) = 1000 := if_neg (by omega)
        rw [this]
        exact ⟨by decide, by decide, by decide⟩)
      refine wX6_readSum_8 _ _ C'.1.1 ⟨fun _ => E, fun z => absurd (nI_le (a := 400) (by omega) (by omega)) z⟩
    | succ k ih =>
      intro i w h' y hi hw f D' A' G hp
      have C' := C.fr f
      refine wX6_readSum_8 _ _ C'.1.1 ⟨fun z => absurd z (nI_ge (a := i) (b := 400) (by omega) (by omega)), fun _ => ?_⟩
      rcases A'.ms with ⟨fl, rfl⟩ | ⟨σ, rfl, I⟩
      · exact ⟨fun z => absurd z (CDf.nz D'), fun _ => ex w h' _ hw f D' A' G (fun c ec => absurd ec (by simp))⟩
      · have D' : CDs r h' σ := D'
        have hpn : sp σ ≤ n := I.1.1
        have hip : i ≤ sp σ := hp _ rfl
        obtain ⟨b1, b2, b3⟩ := bl_rg (T := T) hpn
        have hd4 : ¬ (4 ≤ (wL_ w S).headD 0 ∧ (wL_ w S).headD 0 ≤ 6) := by
          rcases hw with rfl | rfl | rfl
          · show ¬ (4 ≤ S.headD 0 ∧ S.headD 0 ≤ 6); omega
          · show ¬ (4 ≤ 2 ∧ 2 ≤ 6); omega
          · show ¬ (4 ≤ 3 ∧ 3 ≤ 6); omega
        refine ⟨fun _ => c_next C'.1 D'.1 hpn (fun h5 f5 e5 => ⟨f5.lay C'.1.1, ?_⟩), fun z => absurd D'.2.1 z⟩
        have G5 := G.tr (GoX.bk (T := T) (n := n) (m := 4) (fun σ h => sk4 (wL_ w S) hd4 σ h) σ)
        have D5 := D'.mv f5 e5
        have I5 := iv_pu I b1 b2
        have C5 := C'.fr (f3x f5)
        have F5 := f.tr (f3x f5)
        have n32 : ¬ at_ T n (bl T n (sp σ)) = 32 := fun w => b3 (at_32.mp w)
        generalize hP : bl T n (sp σ) = P at *
        generalize hσ : pu σ P = σ1 at *
        have pP : sp σ1 = P := by rw [← hσ]
        have s4 := st_4 T n (wL_ w S) σ1
        rw [pP, if_neg hd4, if_neg n32] at s4
        have hmv : ∀ σ2 : PS, CDs r h5 σ2 → sp σ2 = P → P < n → CDs r (setI h5 29 3 (hI h5 29 3 + 1)) (pu σ2 (P + 1)) ∧ CT T n r (setI h5 29 3 (hI h5 29 3 + 1)) ∧ FrC (AX r) h (setI h5 29 3 (hI h5 29 3 + 1)) := by
          intro σ2 D2 e2 hP2
          have ff : FrC A3 h5 (setI h5 29 3 (hI h5 29 3 + 1)) := FrC.stI ⟨rfl, rfl⟩
          exact ⟨D2.mv ff (by rw [rdI, D2.1, e2, nI_1]), C5.fr (f3x ff), F5.tr (f3x ff)⟩
        refine c_stepOf C5.1.1 (sg_c hT) (fun hm => ⟨C5.1.1, fun z => absurd z (nI_m1 (by have := mulK_c (at_ T n P); omega)), fun _ => ?_⟩) (fun hm ha => ⟨C5.1.1, fun z => absurd z (nI_m1 (by have := addK_c (at_ T n P); omega)), fun _ => ?_⟩) (fun hm ha => ⟨C5.1.1, fun _ => ?_, fun z => absurd rfl z⟩)
        · -- times, parted, rest
          have hmk := mulK_c (at_ T n P)
          have hPn : P < n := at_lt (T := T) (by omega)
          rw [if_pos hm] at s4
          generalize mulK (at_ T n P) = kk at *
          refine ⟨fun z => ?_, fun _ => ⟨fun z => ?_, fun _ => ?_⟩⟩
          · have := (nI_eq (a := kk) (b := 2) (by omega) (by omega)).mp z; omega
          · have := (nI_eq (a := kk) (b := 3) (by omega) (by omega)).mp z; omega
          · obtain ⟨D6, C6, F6⟩ := hmv σ1 D5 pP hPn
            have I6 : Inv n (3, kk :: wL_ w S, pu σ1 (P + 1)) := by
              have := iv_op (y := kk) I5 (by rw [pP]; exact hPn) (by
                have t2 : (wL_ w S).headD 0 = 0 ∨ (2 ≤ (wL_ w S).headD 0 ∧ (wL_ w S).headD 0 ≤ 11) ∨ (wL_ w S).headD 0 = 16 := I5.2.2.2.2.2.1
                unfold stkT; omega) (by omega)
              rw [pP] at this; exact this
            refine c_readValue (x := .inr (3, kk :: wL_ w S, pu σ1 (P + 1))) C6 D6 ⟨rfl, rfl, I6⟩ (fun h7 y7 f7 D7 A7 G7 => ⟨f7.lay C6.1.1, ?_⟩)
            have C7 := C6.fr f7
            have G7' := (G5.tr (GoX.st s4 (by show sp σ1 ≤ P + 1; omega))).tr G7
            refine ⟨_, C7.2.1, (Lru C7.1.1 C7.2.2).1, c_addX (m2 := 4) (S := wL_ w S) C7 D7 A7 (fun σ2 I2 e2 => ?_) (fun h8 z f8 D8 A8 G8 ep => ⟨f8.lay C7.1.1, ?_⟩)⟩
            · have s := st_4c T n kk (wL_ w S) σ2
              rw [if_pos (by omega)] at s
              exact ⟨s, iv_pop I2 (by omega)⟩
            · rw [nI_1]
              refine ih (i + 1) w h8 z (by omega) hw ((F6.tr f7).tr f8) D8 A8 (G7'.tr G8) (fun c ec => ?_)
              have := (G7.tr G8).2
              rw [ec] at this
              have : P + 1 ≤ sp c.2.2 := this.1
              omega
        · -- plus, minus
          have hmk := addK_c (at_ T n P)
          have hPn : P < n := at_lt (T := T) (by omega)
          rw [if_neg (fun z => z hm)] at s4
          have rest : ∀ σ2 h6, CDs r h6 (pu σ2 (P + 1)) → CT T n r h6 → FrC (AX r) h h6 → Inv n (4, S, σ2) → sp σ2 = P → GoX T n x (.inr (4, S, σ2)) → CallV g mX6_readValue (d + 6) (0, 0) [Value.ref 29] h6 (fun h9 => Lay h9 ∧ Sat g mX6_readSum (d + 7) (0, 0) (qV Q) 8 [Value.ref 29, .int (nI (addK (at_ T n P))), .int (nI i + 1), .double 0, .double 0] [] h9) := by
            intro σ2 h6 D6 C6 F6 I2 e2 G2
            have s := st_4 T n S σ2
            rw [e2, if_neg (by omega), if_neg n32, if_neg (fun z => z hm), if_neg (by omega), if_pos ha] at s
            generalize addK (at_ T n P) = kk at *
            have I6 : Inv n (3, kk :: S, pu σ2 (P + 1)) := by
              have := iv_op (y := kk) I2 (by rw [e2]; exact hPn) (by
                have t2 : S.headD 0 = 0 ∨ (2 ≤ S.headD 0 ∧ S.headD 0 ≤ 11) ∨ S.headD 0 = 16 := I2.2.2.2.2.2.1
                unfold stkT; omega) (by omega)
              rw [e2] at this; exact this
            refine c_readValue (x := .inr (3, kk :: S, pu σ2 (P + 1))) C6 D6 ⟨rfl, rfl, I6⟩ (fun h7 y7 f7 D7 A7 G7 => ⟨f7.lay C6.1.1, ?_⟩)
            have k0 : ¬ kk = 0 := by omega
            rw [nI_1, show nI kk = wI_ kk from (if_neg k0).symm]
            refine ih (i + 1) kk h7 y7 (by omega) (by omega) (F6.tr f7) D7 (by rw [show wL_ kk S = kk :: S from if_neg k0]; exact A7) ((G2.tr (GoX.st s (by show sp σ2 ≤ P + 1; omega))).tr G7) (fun c ec => ?_)
            have := G7.2
            rw [ec] at this
            have : P + 1 ≤ sp c.2.2 := this.1
            omega
          obtain ⟨D6, C6, F6⟩ := hmv σ1 D5 pP hPn
          have both : (wI_ w = -1 → CallV g mX6_readValue (d + 6) (0, 0) [Value.ref 29] (setI h5 29 3 (hI h5 29 3 + 1)) (fun h9 => Lay h9 ∧ Sat g mX6_readSum (d + 7) (0, 0) (qV Q) 8 [Value.ref 29, .int (nI (addK (at_ T n P))), .int (nI i + 1), .double 0, .double 0] [] h9)) ∧ (¬ wI_ w = -1 → ∃ y19_, (hR (setI h5 29 3 (hI h5 29 3 + 1)) 29 6) = (some y19_) ∧ (hK (setI h5 29 3 (hI h5 29 3 + 1)) y19_) = 8 ∧ CallV g mX7_add (d + 6) (0, 0) [Value.ref y19_, .int (wI_ w), .int 0] (setI h5 29 3 (hI h5 29 3 + 1)) (fun h11 => Lay h11 ∧ CallV g mX6_readValue (d + 6) (0, 0) [Value.ref 29] h11 (fun h12 => Lay h12 ∧ Sat g mX6_readSum (d + 7) (0, 0) (qV Q) 8 [Value.ref 29, .int (nI (addK (at_ T n P))), .int (nI i + 1), .double 0, .double 0] [] h12))) := by
            refine ⟨fun e => ?_, fun e => ⟨_, C6.2.1, (Lru C6.1.1 C6.2.2).1, ?_⟩⟩
            · have w0 : w = 0 := by
                rcases hw with rfl | rfl | rfl
                · rfl
                · exact absurd e (nI_m1 (k := 2) (by omega))
                · exact absurd e (nI_m1 (k := 3) (by omega))
              subst w0
              exact rest σ1 _ D6 C6 F6 I5 pP G5
            · have w0 : ¬ w = 0 := fun z => e (by rw [z]; rfl)
              rw [show wI_ w = nI w from if_neg w0]
              have ew : wL_ w S = w :: S := if_neg w0
              rw [ew] at I5 G5
              have s4 := st_4c T n w S σ1
              rw [pP, if_neg (by omega), if_neg n32, if_neg (fun z => z hm), if_pos (by omega)] at s4
              have e53 := iv_e n4 I5
              refine c_addS (k := w) (v := 0) C6 D6 (by show se σ1 < 400; omega) (fun h7 f7 D7 => ⟨f7.lay C6.1.1, ?_⟩)
              exact rest (em σ1 w 0) h7 D7 (C6.fr f7) (F6.tr f7) (iv_pop I5 (by omega)) pP (G5.tr (GoX.st s4 (Nat.le_refl _)))
          refine ⟨fun z => both, fun z => ⟨fun _ => both, fun z2 => ?_⟩⟩
          rcases hmk with hk | hk | hk
          · exact absurd hk.1 ha
          · exact absurd (by rw [hk.2]; rfl) z
          · exact absurd (by rw [hk.2]; rfl) z2
        · have A5 : At n 4 (wL_ w S) (.inr (4, wL_ w S, σ1)) := ⟨rfl, rfl, I5⟩
          exact ex w h5 (.inr (4, wL_ w S, σ1)) hw F5 D5 A5 G5 (fun c ec => by
            have ec := Sum.inr.inj ec
            subst ec
            show ¬ at_ T n (sp σ1) = 32 ∧ mulK (at_ T n (sp σ1)) = 0 ∧ addK (at_ T n (sp σ1)) = 0
            rw [pP]
            exact ⟨n32, hm, ha⟩)
  refine wX6_readSum_0 C.1.1 (c_readValue C D A (fun h1 y1 f1 D1 A1 G1 => ⟨f1.lay C.1.1, ?_⟩))
  exact key 400 0 0 h1 y1 (by omega) (Or.inl rfl) f1 D1 A1 G1 (fun c _ => Nat.zero_le _)
end CS
