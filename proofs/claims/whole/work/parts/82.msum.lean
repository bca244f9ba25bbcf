/-! the reference reads TERMS, SUMS, what is compared -/
def TE (T : Nat → Nat) (n : Nat) (x : CX) : Prop := match x with
  | .inl _ => True
  | .inr c => ¬ at_ T n (sp c.2.2) = 32 ∧ mulK (at_ T n (sp c.2.2)) = 0
section MS
variable {g : GT} {d n r p : Nat} {T : Nat → Nat} {h : HP} {x : CX} {S : List Nat}
theorem m_blX {m : Nat} {y : CX} {Q : HP → Prop} (C : MT T n r h) (D : MDx n r h y) (A : At n m S y) (hs : ∀ σ, at_ T n (sp σ) = 32 → stp T n (m, S, σ) = .inr (m, S, pu σ (sp σ + 1))) (hQ : ∀ h' z, FrC (MX r) h h' → MDx n r h' z → At n m S z → GoX T n y z → NB T n z → Q h') : CallV g mX10_blanks (d + 1) (0, 0) [.ref 252] h Q := by
  have n4 := C.1.2.1
  rcases A.ms with ⟨f, rfl⟩ | ⟨σ, rfl, I⟩
  · have D : MDf n h f := D
    obtain ⟨p, hp, d3⟩ := D.1
    exact m_blanks C.1 d3 (by omega) (fun h1 f1 e1 => hQ h1 (.inl f) (m5x f1) (D.mv f1 (bl_5 hp) e1) trivial (GoX.rf _) trivial)
  · have D : MDs r h σ := D
    have hp : sp σ ≤ n := I.1.1
    obtain ⟨b1, b2, b3⟩ := bl_rg (T := T) hp
    exact m_blanks C.1 D.1 (by omega) (fun h1 f1 e1 => hQ h1 (.inr (m, S, pu σ (bl T n (sp σ)))) (m5x f1) (D.mv f1 e1) ⟨rfl, rfl, iv_pu I b1 b2⟩ (GoX.bk hs σ) (fun w => b3 (at_32.mp w)))
theorem m_term {Q : HP → Prop} (hS : ¬ (4 ≤ S.headD 0 ∧ S.headD 0 ≤ 6)) (C : MT T n r h) (D : MDx n r h x) (A : At n 3 S x) (hQ : ∀ h' y, FrC (MX r) h h' → MDx n r h' y → At n 4 S y → GoX T n x y → TE T n y → Q h') : CallV g mX10_term (d + 7) (0, 0) [.ref 252] h Q := by
  have n4 := C.1.2.1
  have hT := C.1.2.2.2.2
  have key : ∀ k h' y, (∀ c, y = .inr c → n - sp c.2.2 < k) → FrC (MX r) h h' → MDx n r h' y → At n 4 S y → GoX T n x y → NB T n y → Sat g mX10_term (d + 7) (0, 0) (qV Q) 8 [.ref 252, .double 0] [] h' := by
    intro k
    induction k with
    | zero =>
      intro h' y hk f D' A' G N
      have C' := C.fr f
      rcases A'.ms with ⟨fl, rfl⟩ | ⟨σ, rfl, I⟩
      · exact wX10_term_8 C'.1.1 ⟨fun w => absurd w (MDf.nz D'), fun _ => hQ h' _ f D' trivial G trivial⟩
      · exact absurd (hk _ rfl) (by omega)
    | succ k ih =>
      intro h' y hk f D' A' G N
      have C' := C.fr f
      rcases A'.ms with ⟨fl, rfl⟩ | ⟨σ, rfl, I⟩
      · exact wX10_term_8 C'.1.1 ⟨fun w => absurd w (MDf.nz D'), fun _ => hQ h' _ f D' trivial G trivial⟩
      · have D' : MDs r h' σ := D'
        have N : ¬ at_ T n (sp σ) = 32 := N
        have hpn : sp σ ≤ n := I.1.1
        have hk : n - sp σ < k + 1 := hk _ rfl
        have s4 := st_4 T n S σ
        rw [if_neg hS, if_neg N] at s4
        have sg_ : ∀ Q' : Int32 → HP → Prop, Q' (sgI T n (sp σ)) h' → CallI g mX10_sign (d + 6) [.ref 252] h' Q' := fun Q' q => m_sign C'.1 D'.1 (by omega) q
        have e42 : sgI T n (sp σ) = 42 ↔ at_ T n (sp σ) = 42 := sg_eq (c := 42) hT (by omega)
        have e47 : sgI T n (sp σ) = 47 ↔ at_ T n (sp σ) = 47 := sg_eq (c := 47) hT (by omega)
        have e37 : sgI T n (sp σ) = 37 ↔ at_ T n (sp σ) = 37 := sg_eq (c := 37) hT (by omega)
        have hmk := mulK_c (at_ T n (sp σ))
        have go : ∀ (kk : Nat) (sI : Int32), mulK (at_ T n (sp σ)) = kk → ¬ kk = 0 → sI = nI (sg kk) → CallV g mX10_value (d + 6) (0, 0) [Value.ref 252] (setI h' 252 25 (hI h' 252 25 + 1)) (fun h13 => Lay h13 ∧ CallV g mX10_entry (d + 6) (0, 0) [Value.ref 252, .int sI, .int 0] h13 (fun h14 => Lay h14 ∧ CallV g mX10_blanks (d + 6) (0, 0) [Value.ref 252] h14 (fun h15 => Lay h15 ∧ Sat g mX10_term (d + 7) (0, 0) (qV Q) 8 [Value.ref 252, .double 0] [] h15))) := by
          intro kk sI ek k0 es
          subst es
          have hl : sp σ < n := at_lt (T := T) (by omega)
          rw [ek, if_pos k0] at s4
          rw [D'.1, nI_1]
          have f2 : FrC A25 h' (setI h' 252 25 (nI (sp σ + 1))) := FrC.stI ⟨rfl, rfl⟩
          have C2 := C'.fr (m5x f2)
          have D2 := D'.mv f2 rdI
          have I2 : Inv n (3, kk :: S, pu σ (sp σ + 1)) := iv_op I hl (by
            have t2 : S.headD 0 = 0 ∨ (2 ≤ S.headD 0 ∧ S.headD 0 ≤ 11) ∨ S.headD 0 = 16 := I.2.2.2.2.2.1
            unfold stkT; omega) (by omega)
          refine m_value (x := .inr (3, kk :: S, pu σ (sp σ + 1))) C2 D2 ⟨rfl, rfl, I2⟩ (fun h3 y3 f3 D3 A3' G3 => ⟨f3.lay C2.1.1, ?_⟩)
          have C3 := C2.fr f3
          refine m_entryX (k := kk) (m2 := 4) (S := S) C3 D3 A3' (fun σ3 I3 e3 => ?_) (fun h4 y4 f4 D4 A4' G4 ep => ⟨f4.lay C3.1.1, ?_⟩)
          · have s := st_4c T n kk S σ3
            rw [if_pos (by omega)] at s
            exact ⟨s, iv_pop I3 (by omega)⟩
          · have C4 := C3.fr f4
            refine m_blX (m := 4) (S := S) C4 D4 A4' (fun σ h => sk4 S hS σ h) (fun h5 y5 f5 D5 A5 G5 N5 => ⟨f5.lay C4.1.1, ?_⟩)
            refine ih h5 y5 (fun c ec => ?_) ((((f.tr (m5x f2)).tr f3).tr f4).tr f5) D5 A5 (((((G.tr (GoX.st s4 (Nat.le_succ _)))).tr G3).tr G4).tr G5) N5
            have := ((G3.tr G4).tr G5).2
            rw [ec] at this
            have : sp σ + 1 ≤ sp c.2.2 := this.1
            omega
        refine wX10_term_8 C'.1.1 ⟨fun _ => sg_ _ ⟨C'.1.1, fun w => sg_ _ ⟨C'.1.1, fun _ => go 4 13 (by have := e42.mp w; omega) (by decide) rfl, fun z => absurd w z⟩, fun w42 => sg_ _ ⟨C'.1.1, fun w => sg_ _ ⟨C'.1.1, fun z => absurd z w42, fun _ => sg_ _ ⟨C'.1.1, fun _ => go 5 14 (by have := e47.mp w; omega) (by decide) rfl, fun z => absurd w z⟩⟩, fun w47 => sg_ _ ⟨C'.1.1, fun w => sg_ _ ⟨C'.1.1, fun z => absurd z w42, fun _ => sg_ _ ⟨C'.1.1, fun z => absurd z w47, fun _ => go 6 15 (by have := e37.mp w; omega) (by decide) rfl⟩⟩, fun w37 => ?_⟩⟩⟩, fun w => absurd D'.2.1 w⟩
        have a42 : ¬ at_ T n (sp σ) = 42 := fun z => w42 (e42.mpr z)
        have a47 : ¬ at_ T n (sp σ) = 47 := fun z => w47 (e47.mpr z)
        have a37 : ¬ at_ T n (sp σ) = 37 := fun z => w37 (e37.mpr z)
        exact hQ h' (.inr (4, S, σ)) f D' A' G ⟨N, by show mulK (at_ T n (sp σ)) = 0; omega⟩
  refine wX10_term_0 C.1.1 (m_value C D A (fun h1 y1 f1 D1 A1 G1 => ⟨f1.lay C.1.1, ?_⟩))
  have C1 := C.fr f1
  refine m_blX (m := 4) (S := S) C1 D1 A1 (fun σ h => sk4 S hS σ h) (fun h2 y2 f2 D2 A2 G2 N2 => ⟨f2.lay C1.1.1, ?_⟩)
  exact key (n + 1) h2 y2 (fun c _ => by omega) (f1.tr f2) D2 A2 (G1.tr G2) N2
theorem m_sum {Q : HP → Prop} (hS : ¬ (2 ≤ S.headD 0 ∧ S.headD 0 ≤ 6)) (C : MT T n r h) (D : MDx n r h x) (A : At n 3 S x) (hQ : Mt T n r h x 5 S Q) : CallV g mX10_sum (d + 8) (0, 0) [.ref 252] h Q := by
  have n4 := C.1.2.1
  have hT := C.1.2.2.2.2
  have key : ∀ k h' y, (∀ c, y = .inr c → n - sp c.2.2 < k) → FrC (MX r) h h' → MDx n r h' y → At n 4 S y → GoX T n x y → TE T n y → Sat g mX10_sum (d + 8) (0, 0) (qV Q) 4 [.ref 252, .double 0] [] h' := by
    intro k
    induction k with
    | zero =>
      intro h' y hk f D' A' G N
      have C' := C.fr f
      rcases A'.ms with ⟨fl, rfl⟩ | ⟨σ, rfl, I⟩
      · exact wX10_sum_4 C'.1.1 ⟨fun w => absurd w (MDf.nz D'), fun _ => hQ h' _ f D' trivial G⟩
      · exact absurd (hk _ rfl) (by omega)
    | succ k ih =>
      intro h' y hk f D' A' G N
      have C' := C.fr f
      rcases A'.ms with ⟨fl, rfl⟩ | ⟨σ, rfl, I⟩
      · exact wX10_sum_4 C'.1.1 ⟨fun w => absurd w (MDf.nz D'), fun _ => hQ h' _ f D' trivial G⟩
      · have D' : MDs r h' σ := D'
        have N : ¬ at_ T n (sp σ) = 32 ∧ mulK (at_ T n (sp σ)) = 0 := N
        have hpn : sp σ ≤ n := I.1.1
        have hk : n - sp σ < k + 1 := hk _ rfl
        have s4 := st_4 T n S σ
        rw [if_neg (by omega), if_neg N.1, if_neg (fun z => z N.2), if_neg (by omega)] at s4
        have sg_ : ∀ Q' : Int32 → HP → Prop, Q' (sgI T n (sp σ)) h' → CallI g mX10_sign (d + 7) [.ref 252] h' Q' := fun Q' q => m_sign C'.1 D'.1 (by omega) q
        have e43 : sgI T n (sp σ) = 43 ↔ at_ T n (sp σ) = 43 := sg_eq (c := 43) hT (by omega)
        have e45 : sgI T n (sp σ) = 45 ↔ at_ T n (sp σ) = 45 := sg_eq (c := 45) hT (by omega)
        have hmk := addK_c (at_ T n (sp σ))
        have go : ∀ (kk : Nat) (sI : Int32), addK (at_ T n (sp σ)) = kk → (kk = 2 ∨ kk = 3) → sI = nI (sg kk) → CallV g mX10_term (d + 7) (0, 0) [Value.ref 252] (setI h' 252 25 (hI h' 252 25 + 1)) (fun h13 => Lay h13 ∧ CallV g mX10_entry (d + 7) (0, 0) [Value.ref 252, .int sI, .int 0] h13 (fun h15 => Lay h15 ∧ Sat g mX10_sum (d + 8) (0, 0) (qV Q) 4 [Value.ref 252, .double 0] [] h15)) := by
          intro kk sI ek k0 es
          subst es
          have hl : sp σ < n := at_lt (T := T) (by omega)
          rw [ek, if_pos (by omega)] at s4
          rw [D'.1, nI_1]
          have f2 : FrC A25 h' (setI h' 252 25 (nI (sp σ + 1))) := FrC.stI ⟨rfl, rfl⟩
          have C2 := C'.fr (m5x f2)
          have D2 := D'.mv f2 rdI
          have I2 : Inv n (3, kk :: S, pu σ (sp σ + 1)) := iv_op I hl (by
            have t2 : S.headD 0 = 0 ∨ (2 ≤ S.headD 0 ∧ S.headD 0 ≤ 11) ∨ S.headD 0 = 16 := I.2.2.2.2.2.1
            unfold stkT; omega) (by omega)
          refine m_term (x := .inr (3, kk :: S, pu σ (sp σ + 1))) (S := kk :: S) (by show ¬ (4 ≤ kk ∧ kk ≤ 6); omega) C2 D2 ⟨rfl, rfl, I2⟩ (fun h3 y3 f3 D3 A3' G3 N3 => ⟨f3.lay C2.1.1, ?_⟩)
          have C3 := C2.fr f3
          refine m_entryX (k := kk) (m2 := 4) (S := S) C3 D3 A3' (fun σ3 I3 e3 => ?_) (fun h4 y4 f4 D4 A4' G4 ep => ⟨f4.lay C3.1.1, ?_⟩)
          · subst e3
            have N3 : ¬ at_ T n (sp σ3) = 32 ∧ mulK (at_ T n (sp σ3)) = 0 := N3
            have s := st_4c T n kk S σ3
            rw [if_neg (by omega), if_neg N3.1, if_neg (fun z => z N3.2), if_pos (by omega)] at s
            exact ⟨s, iv_pop I3 (by omega)⟩
          · refine ih h4 y4 (fun c ec => ?_) (((f.tr (m5x f2)).tr f3).tr f4) D4 A4' ((((G.tr (GoX.st s4 (Nat.le_succ _)))).tr G3).tr G4) ?_
            · have := (G3.tr G4).2
              rw [ec] at this
              have : sp σ + 1 ≤ sp c.2.2 := this.1
              omega
            · rcases A3'.ms with ⟨fl, rfl⟩ | ⟨σ3, rfl, I3⟩
              · have : y4 = .inl fl := G4.2
                rw [this]; exact trivial
              · cases y4 with
                | inl f => exact trivial
                | inr c =>
                  show ¬ at_ T n (sp c.2.2) = 32 ∧ mulK (at_ T n (sp c.2.2)) = 0
                  rw [ep _ _ rfl rfl]
                  exact N3
        refine wX10_sum_4 C'.1.1 ⟨fun _ => sg_ _ ⟨C'.1.1, fun w => sg_ _ ⟨C'.1.1, fun _ => go 2 2 (by have := e43.mp w; omega) (by omega) rfl, fun z => absurd w z⟩, fun w43 => sg_ _ ⟨C'.1.1, fun w => sg_ _ ⟨C'.1.1, fun z => absurd z w43, fun _ => go 3 3 (by have := e45.mp w; omega) (by omega) rfl⟩, fun w45 => ?_⟩⟩, fun w => absurd D'.2.1 w⟩
        have a43 : ¬ at_ T n (sp σ) = 43 := fun z => w43 (e43.mpr z)
        have a45 : ¬ at_ T n (sp σ) = 45 := fun z => w45 (e45.mpr z)
        rw [if_neg (by omega)] at s4
        exact hQ h' (.inr (5, S, σ)) f D' ⟨rfl, rfl, iv_sum I hS⟩ (G.tr (GoX.st s4 (Nat.le_refl _)))
  refine wX10_sum_0 C.1.1 (m_term (by omega) C D A (fun h1 y1 f1 D1 A1 G1 N1 => ⟨f1.lay C.1.1, ?_⟩))
  exact key (n + 1) h1 y1 (fun c _ => by omega) f1 D1 A1 G1 N1
/-- behind the SIGN: the second SUM, and what is answered -/
theorem m_comp75 {y1 c0 P2 : Nat} {f1 : Nat} {y : CX} {Q : HP → Prop} (sx : Int32) (C : MT T n r h) (hc : c0 = 60 ∨ c0 = 61 ∨ c0 = 62) (hs : sx = if ¬ c0 = 61 ∧ y1 = 61 then 1 else 0) (e5 : hI h 252 25 = nI P2) (hP : P2 < 900) (D : ∀ h', FrC A25 h h' → hI h' 252 25 = nI (P2 + (if ¬ c0 = 61 ∧ y1 = 61 then 1 else 0)) → MDx n r h' y) (A : At n 3 (cmpK c0 y1 :: S) y) (hQ : Mt T n r h y 1 S Q) : Sat g mX10_compared (d + 9) (0, 0) (qV Q) 75 [.ref 252, .int (nI c0), .double 0] [.int sx] h := by
  have ck := cmpK_c c0 y1
  have e : ∀ a, a < 256 → (nI c0 = nI a ↔ c0 = a) := fun a ha => nI_eq (by omega) (by omega)
  have tail : ∀ h2, FrC A25 h h2 → hI h2 252 25 = nI (P2 + (if ¬ c0 = 61 ∧ y1 = 61 then 1 else 0)) → CallV g mX10_sum (d + 8) (0, 0) [Value.ref 252] h2 (fun h1 => Lay h1 ∧ (nI c0 = 61 → CallV g mX10_entry (d + 8) (0, 0) [Value.ref 252, .int 6, .int 0] h1 (fun h6 => Lay h6 ∧ qV Q none h6)) ∧ (¬ (nI c0 = 61) → (nI c0 = 60 → (sx = 0 → CallV g mX10_entry (d + 8) (0, 0) [Value.ref 252, .int 4, .int 0] h1 (fun h4 => Lay h4 ∧ qV Q none h4)) ∧ (¬ (sx = 0) → CallV g mX10_entry (d + 8) (0, 0) [Value.ref 252, .int 5, .int 0] h1 (fun h5 => Lay h5 ∧ qV Q none h5))) ∧ (¬ (nI c0 = 60) → (sx = 0 → CallV g mX10_entry (d + 8) (0, 0) [Value.ref 252, .int 8, .int 0] h1 (fun h2 => Lay h2 ∧ qV Q none h2)) ∧ (¬ (sx = 0) → CallV g mX10_entry (d + 8) (0, 0) [Value.ref 252, .int 7, .int 0] h1 (fun h3 => Lay h3 ∧ qV Q none h3))))) := by
    intro h2 f2 e2
    have C2 := C.fr (m5x f2)
    refine m_sum (S := cmpK c0 y1 :: S) (by show ¬ (2 ≤ cmpK c0 y1 ∧ cmpK c0 y1 ≤ 6); omega) C2 (D h2 f2 e2) A (fun h3 y3 f3 D3 A3' G3 => ⟨f3.lay C2.1.1, ?_⟩)
    have C3 := C2.fr f3
    have ent : ∀ sI : Int32, sI = nI (sg (cmpK c0 y1)) → CallV g mX10_entry (d + 8) (0, 0) [Value.ref 252, .int sI, .int 0] h3 (fun h6 => Lay h6 ∧ qV Q none h6) := by
      intro sI es
      subst es
      refine m_entryX (k := cmpK c0 y1) (m2 := 1) (S := S) C3 D3 A3' (fun σ3 I3 e3 => ⟨st_5c ck, iv_cmpE I3 ck⟩) (fun h4 y4 f4 D4 A4' G4 ep => ⟨f4.lay C3.1.1, hQ h4 y4 (((m5x f2).tr f3).tr f4) D4 A4' (G3.tr G4)⟩)
    unfold cmpK at ent
    subst hs
    refine ⟨fun w => ?_, fun w => ⟨fun w2 => ⟨fun w3 => ?_, fun w3 => ?_⟩, fun w2 => ⟨fun w3 => ?_, fun w3 => ?_⟩⟩⟩
    · rw [if_pos ((e 61 (by omega)).mp w)] at ent; exact ent 6 rfl
    · have n61 : ¬ c0 = 61 := fun z => w ((e 61 (by omega)).mpr z)
      have y61 : ¬ y1 = 61 := fun z => absurd w3 (by rw [if_pos ⟨n61, z⟩]; decide)
      rw [if_neg n61, if_pos ((e 60 (by omega)).mp w2), if_neg y61] at ent; exact ent 4 rfl
    · have n61 : ¬ c0 = 61 := fun z => w ((e 61 (by omega)).mpr z)
      have y61 : y1 = 61 := Decidable.byContradiction (fun z => w3 (by rw [if_neg (fun q => z q.2)]))
      rw [if_neg n61, if_pos ((e 60 (by omega)).mp w2), if_pos y61] at ent; exact ent 5 rfl
    · have n61 : ¬ c0 = 61 := fun z => w ((e 61 (by omega)).mpr z)
      have n60 : ¬ c0 = 60 := fun z => w2 ((e 60 (by omega)).mpr z)
      have y61 : ¬ y1 = 61 := fun z => absurd w3 (by rw [if_pos ⟨n61, z⟩]; decide)
      rw [if_neg n61, if_neg n60, if_neg y61] at ent; exact ent 8 rfl
    · have n61 : ¬ c0 = 61 := fun z => w ((e 61 (by omega)).mpr z)
      have n60 : ¬ c0 = 60 := fun z => w2 ((e 60 (by omega)).mpr z)
      have y61 : y1 = 61 := Decidable.byContradiction (fun z => w3 (by rw [if_neg (fun q => z q.2)]))
      rw [if_neg n61, if_neg n60, if_pos y61] at ent; exact ent 7 rfl
  refine wX10_compared_75 _ _ C.1.1 ?_
  rw [e5]
  refine ⟨fun w => tail _ (FrC.stI ⟨rfl, rfl⟩) ?_, fun w => tail _ (FrC.stI ⟨rfl, rfl⟩) ?_⟩
  · have c : ¬ (¬ c0 = 61 ∧ y1 = 61) := fun z => by rw [hs, if_pos z] at w; exact absurd w (by decide)
    rw [rdI, if_neg c, Int32.add_zero]; rfl
  · have c : ¬ c0 = 61 ∧ y1 = 61 := Decidable.byContradiction (fun z => w (by rw [hs, if_neg z]))
    rw [rdI, if_pos c, nI_1]
theorem m_compA {c0 P : Nat} {y : CX} {Q : HP → Prop} (C : MT T n r h) (hc : c0 = 60 ∨ c0 = 61 ∨ c0 = 62) (ea : at_ T n P = c0) (e5 : hI h 252 25 = nI P) (D : ∀ h' p', FrC A25 h h' → hI h' 252 25 = nI p' → p' ≤ n → p' = (if ¬ c0 = 61 ∧ at_ T n (P + 1) = 61 then P + 2 else P + 1) → MDx n r h' y) (A : At n 3 (cmpK c0 (at_ T n (P + 1)) :: S) y) (hQ : Mt T n r h y 1 S Q) : (nI c0 = 61 → Sat g mX10_compared (d + 9) (0, 0) (qV Q) 75 [Value.ref 252, .int (nI c0), .double 0] [Value.int 0] (setI h 252 25 ((hI h 252 25) + 1))) ∧ (¬ (nI c0 = 61) → CallI g mX10_sign (d + 8) [Value.ref 252] (setI h 252 25 ((hI h 252 25) + 1)) (fun i6 h5 => Lay h5 ∧ (i6 = 61 → Sat g mX10_compared (d + 9) (0, 0) (qV Q) 75 [Value.ref 252, .int (nI c0), .double 0] [Value.int 1] h5) ∧ (¬ (i6 = 61) → Sat g mX10_compared (d + 9) (0, 0) (qV Q) 75 [Value.ref 252, .int (nI c0), .double 0] [Value.int 0] h5))) := by
  have n4 := C.1.2.1
  have hT := C.1.2.2.2.2
  have hl : P < n := at_lt (T := T) (by omega)
  have e61 : nI c0 = 61 ↔ c0 = 61 := nI_eq (a := c0) (b := 61) (by omega) (by omega)
  rw [e5, nI_1]
  have f1 : FrC A25 h (setI h 252 25 (nI (P + 1))) := FrC.stI ⟨rfl, rfl⟩
  have p1 : hI (setI h 252 25 (nI (P + 1))) 252 25 = nI (P + 1) := rdI
  generalize setI h 252 25 (nI (P + 1)) = h1 at f1 p1 ⊢
  have C1 := C.fr (m5x f1)
  have D1 : ∀ h', FrC A25 h1 h' → hI h' 252 25 = nI (P + 1 + (if ¬ c0 = 61 ∧ at_ T n (P + 1) = 61 then 1 else 0)) → MDx n r h' y := fun h' f' e' => by
    refine D h' (P + 1 + (if ¬ c0 = 61 ∧ at_ T n (P + 1) = 61 then 1 else 0)) (f1.tr f') e' ?_ ?_
    · by_cases c : ¬ c0 = 61 ∧ at_ T n (P + 1) = 61
      · rw [if_pos c]
        have := at_lt (T := T) (n := n) (p := P + 1) (by omega)
        omega
      · rw [if_neg c]; omega
    · by_cases c : ¬ c0 = 61 ∧ at_ T n (P + 1) = 61
      · rw [if_pos c, if_pos c]
      · rw [if_neg c, if_neg c]
  have fin : ∀ sx : Int32, (sx = if ¬ c0 = 61 ∧ at_ T n (P + 1) = 61 then 1 else 0) → Sat g mX10_compared (d + 9) (0, 0) (qV Q) 75 [Value.ref 252, .int (nI c0), .double 0] [Value.int sx] h1 := fun sx hs => m_comp75 (f1 := 0) sx C1 hc hs p1 (by omega) D1 A (fun h' y' f' D' A' G' => hQ h' y' ((m5x f1).tr f') D' A' G')
  refine ⟨fun w => fin 0 (by rw [if_neg (fun z => z.1 (e61.mp w))]), fun w => m_sign C1.1 p1 (by omega) ⟨C1.1.1, fun w2 => fin 1 ?_, fun w2 => fin 0 ?_⟩⟩
  · rw [if_pos ⟨fun z => w (e61.mpr z), (sg_eq (c := 61) hT (by omega)).mp w2⟩]
  · rw [if_neg (fun z => w2 ((sg_eq (c := 61) hT (by omega)).mpr z.2))]
theorem m_compared {Q : HP → Prop} (C : MT T n r h) (D : MDx n r h x) (A : At n 3 (16 :: S) x) (hQ : Mt T n r h x 1 S Q) : CallV g mX10_compared (d + 9) (0, 0) [.ref 252] h Q := by
  have n4 := C.1.2.1
  have hT := C.1.2.2.2.2
  refine wX10_compared_0 C.1.1 (m_sum (S := 16 :: S) (by show ¬ (2 ≤ 16 ∧ 16 ≤ 6); omega) C D A (fun h1 y1 f1 D1 A1 G1 => ⟨f1.lay C.1.1, ?_⟩))
  have C1 := C.fr f1
  obtain ⟨P, hP, eP⟩ : ∃ P, P ≤ n + 5 ∧ hI h1 252 25 = nI P := by
    rcases A1.ms with ⟨f, rfl⟩ | ⟨σ1, rfl, I1⟩
    · exact D1.1
    · have : sp σ1 ≤ n := I1.1.1
      exact ⟨sp σ1, by omega, D1.1⟩
  have e60 : sgI T n P = nI 60 ↔ at_ T n P = 60 := sg_eq hT (by omega)
  have e61 : sgI T n P = nI 61 ↔ at_ T n P = 61 := sg_eq hT (by omega)
  have e62 : sgI T n P = nI 62 ↔ at_ T n P = 62 := sg_eq hT (by omega)
  have cnt : ∀ c0, (c0 = 60 ∨ c0 = 61 ∨ c0 = 62) → at_ T n P = c0 → CallV g mX10_isCounted (d + 8) (0, 0) [Value.ref 252, .int (nI P)] h1 (fun h4 => Lay h4 ∧ (nI c0 = 61 → Sat g mX10_compared (d + 9) (0, 0) (qV Q) 75 [Value.ref 252, .int (nI c0), .double 0] [Value.int 0] (setI h4 252 25 ((hI h4 252 25) + 1))) ∧ (¬ (nI c0 = 61) → CallI g mX10_sign (d + 8) [Value.ref 252] (setI h4 252 25 ((hI h4 252 25) + 1)) (fun i6 h5 => Lay h5 ∧ (i6 = 61 → Sat g mX10_compared (d + 9) (0, 0) (qV Q) 75 [Value.ref 252, .int (nI c0), .double 0] [Value.int 1] h5) ∧ (¬ (i6 = 61) → Sat g mX10_compared (d + 9) (0, 0) (qV Q) 75 [Value.ref 252, .int (nI c0), .double 0] [Value.int 0] h5)))) := by
    intro c0 hc ea
    have hl : P < n := at_lt (T := T) (by omega)
    rcases A1.ms with ⟨f, rfl⟩ | ⟨σ1, rfl, I1⟩
    · have D1 : MDf n h1 f := D1
      refine m_countF (r := r) C1.1.1 D1 (fun h4 f4 D4 e4 => ⟨f4.lay C1.1.1, ?_⟩)
      exact m_compA (y := .inl f) (S := S) (C1.fr f4) hc ea (e4.trans eP) (fun h' p' f' e' hp' _ => D4.mv f' (by omega) e') trivial (fun h' y' f' D' A' G' => hQ h' y' ((f1.tr f4).tr f') D' A' (G1.tr G'))
    · have D1 : MDs r h1 σ1 := D1
      have pP : sp σ1 = P := (nI_eq (by have : sp σ1 ≤ n := I1.1.1; omega) (by omega)).mp (D1.1.symm.trans eP)
      have s5 := st_5m T n S σ1
      rw [pP, if_pos (by omega), ea] at s5
      refine m_count C1 D1 I1.1.2.1 (by omega) I1.1.1 (fun c6 h4 f4 D4 => ⟨f4.lay C1.1.1, ?_⟩) (fun c6 h4 f4 D4 e4 => ⟨f4.lay C1.1.1, ?_⟩)
      · have c6 : sc σ1 < 60 := c6
        rw [if_neg (by omega)] at s5
        have ck := cmpK_c c0 (at_ T n (P + 1))
        refine m_compA (y := .inr (3, cmpK c0 (at_ T n (P + 1)) :: S, pc1 σ1 (if ¬ c0 = 61 ∧ at_ T n (P + 1) = 61 then P + 2 else P + 1))) (S := S) (C1.fr f4) hc ea (D4.1.trans (by rw [show sp (pc1 σ1 (sp σ1)) = P from pP])) (fun h' p' f' e' hp' ep => ?_) ⟨rfl, rfl, iv_cmp I1 c6 ?_ ?_ ck⟩ (fun h' y' f' D' A' G' => hQ h' y' ((f1.tr f4).tr f') D' A' ((G1.tr (GoX.st s5 ?_)).tr G'))
        · rw [← ep]
          exact MDs.mv (σ := pc1 σ1 (sp σ1)) D4 f' e'
        · rw [pP]; split <;> omega
        · split
          · rename_i c
            have := at_lt (T := T) (n := n) (p := P + 1) (by omega)
            omega
          · omega
        · show sp σ1 ≤ (if ¬ c0 = 61 ∧ at_ T n (P + 1) = 61 then P + 2 else P + 1)
          rw [pP]; split <;> omega
      · have c6 : 60 ≤ sc σ1 := c6
        rw [if_pos c6] at s5
        exact m_compA (y := .inl _) (S := S) (C1.fr f4) hc ea (e4.trans eP) (fun h' p' f' e' hp' _ => D4.mv f' (by omega) e') trivial (fun h' y' f' D' A' G' => hQ h' y' ((f1.tr f4).tr f') D' A' ((G1.tr (GoX.ft s5)).tr G'))
  refine m_sign C1.1 eP (by omega) ⟨C1.1.1, fun w => ?_, fun w1 => ⟨fun w => ?_, fun w2 => ⟨fun w => ?_, fun w3 => ?_⟩⟩⟩
  · rw [eP, show sgI T n P = nI 60 from w]; exact cnt 60 (by omega) (e60.mp w)
  · rw [eP, show sgI T n P = nI 61 from w]; exact cnt 61 (by omega) (e61.mp w)
  · rw [eP, show sgI T n P = nI 62 from w]; exact cnt 62 (by omega) (e62.mp w)
  · have nc : ¬ (at_ T n P = 60 ∨ at_ T n P = 61 ∨ at_ T n P = 62) := fun z => z.elim (fun z => w1 (e60.mpr z)) (fun z => z.elim (fun z => w2 (e61.mpr z)) (fun z => w3 (e62.mpr z)))
    rw [eP]
    refine m_fails (c := 0) C1.1.1 (fun h9 f9 e9 => ⟨f9.lay C1.1.1, ?_⟩)
    have eP9 : hI h9 252 25 = nI P := (f9.I (by unfold A26; omega)).trans eP
    rcases A1.ms with ⟨f, rfl⟩ | ⟨σ1, rfl, I1⟩
    · have D1 : MDf n h1 f := D1
      rw [if_neg D1.nz] at e9
      exact hQ h9 (.inl f) (f1.tr (m6x f9)) ⟨⟨P, hP, eP9⟩, e9.trans D1.2.1, D1.2.2⟩ trivial G1
    · have D1 : MDs r h1 σ1 := D1
      have hp1 : sp σ1 ≤ n := I1.1.1
      have pP : sp σ1 = P := (nI_eq (by omega) (by omega)).mp (D1.1.symm.trans eP)
      have s5 := st_5m T n S σ1
      rw [pP, if_neg nc] at s5
      rw [D1.2.1, if_pos rfl] at e9
      exact hQ h9 (.inl _) (f1.tr (m6x f9)) ⟨⟨P, hP, eP9⟩, e9, by omega, by omega⟩ trivial (G1.tr (GoX.ft s5))
end MS
