/-! the class reads FACTS and TESTS, one within the other -/
def FactOK (g : GT) (T : Nat → Nat) (n r dd δ : Nat) : Prop := ∀ (h : HP) (x : CX) (S : List Nat) (Q : HP → Prop), CT T n r h → CD n r h x → At n 0 S x → dpS S = δ → Ct T n r h x 1 S Q → CallV g mX6_readFact dd (0, 0) [.ref 29, .int (nI δ)] h Q
def TestOK (g : GT) (T : Nat → Nat) (n r dd δ : Nat) : Prop := ∀ (h : HP) (x : CX) (S : List Nat) (Q : HP → Prop), CT T n r h → CD n r h x → At n 0 S x → dpS S = δ → (S.headD 0 = 15 ∨ S.headD 0 = 17) → (∀ h' y, FrC (AX r) h h' → CD n r h' y → At n 2 S y → GoX T n x y → NB T n y → Q h') → CallV g mX6_readTest dd (0, 0) [.ref 29, .int (nI δ)] h Q
theorem sk0 {T : Nat → Nat} {n : Nat} (S : List Nat) (σ : PS) (h : at_ T n (sp σ) = 32) : stp T n (0, S, σ) = .inr (0, S, pu σ (sp σ + 1)) := by rw [st_0, if_pos h]
theorem sk1 {T : Nat → Nat} {n : Nat} {y : Nat} (hy : y = 13 ∨ y = 15 ∨ y = 17) (S : List Nat) (σ : PS) (h : at_ T n (sp σ) = 32) : stp T n (1, y :: S, σ) = .inr (1, y :: S, pu σ (sp σ + 1)) := by rw [st_1 hy, if_pos h]
section FT
variable {g : GT} {d n r : Nat} {T : Nat → Nat}
/-- a TEST, if its FACTS are read well -/
theorem c_test {δ : Nat} (F : FactOK g T n r (d + 5) δ) : TestOK g T n r (d + 6) δ := by
  intro h x S Q C D A hδ hS hQ
  have n4 := C.1.2.2.1
  have hT := C.1.2.2.2.2.2
  obtain ⟨ys, hys, S1, eS⟩ : ∃ ys, (ys = 15 ∨ ys = 17) ∧ ∃ S1, S = ys :: S1 := by
    rcases hS with e | e
    · exact ⟨15, Or.inl rfl, hd_c e (by decide)⟩
    · exact ⟨17, Or.inr rfl, hd_c e (by decide)⟩
  -- the stack: an OR may wait
  have wst : ∀ w, (w = 0 ∨ w = 13) → ∃ y S', wL_ w S = y :: S' ∧ (y = 13 ∨ y = 15 ∨ y = 17) ∧ (w = 13 → y = 13 ∧ S' = S) ∧ (w = 0 → ¬ y = 13) := by
    intro w hw
    rcases hw with rfl | rfl
    · exact ⟨ys, S1, eS, by omega, fun z => absurd z (by decide), fun _ => by omega⟩
    · exact ⟨13, S, rfl, by omega, fun _ => ⟨rfl, rfl⟩, fun z => absurd z (by decide)⟩
  have wv : ∀ w, (w = 0 ∨ w = 13) → ((if w = 0 then (0 : Int32) else 1) = 0 ↔ w = 0) := by
    intro w hw
    rcases hw with rfl | rfl <;> decide
  have ex : ∀ w h' y, (w = 0 ∨ w = 13) → FrC (AX r) h h' → CD n r h' y → At n 1 (wL_ w S) y → GoX T n x y → (∀ c, y = .inr c → ¬ at_ T n (sp c.2.2) = 32 ∧ ¬ mW T n (wS 19) (sp c.2.2) = true ∧ ¬ mW T n (wS 20) (sp c.2.2) = true) → ((if w = 0 then (0 : Int32) else 1) = 0 → qV Q none h') ∧ (¬ (if w = 0 then (0 : Int32) else 1) = 0 → ∃ y_, hR h' 29 6 = some y_ ∧ hK h' y_ = 8 ∧ CallV g mX7_add (d + 5) (0, 0) [.ref y_, .int 13, .int 0] h' (fun h2 => Lay h2 ∧ qV Q none h2)) := by
    intro w h' y hw f D' A' G N
    have C' := C.fr f
    refine ⟨fun e => ?_, fun e => ⟨_, C'.2.1, (Lru C'.1.1 C'.2.2).1, ?_⟩⟩
    · have w0 := (wv w hw).mp e
      subst w0
      have A' : At n 1 S y := A'
      rcases A'.ms with ⟨fl, rfl⟩ | ⟨σ, rfl, I⟩
      · exact hQ h' _ f D' trivial G trivial
      · have q : ¬ at_ T n (sp σ) = 32 ∧ ¬ mW T n (wS 19) (sp σ) = true ∧ ¬ mW T n (wS 20) (sp σ) = true := N _ rfl
        have s : stp T n (1, S, σ) = .inr (2, S, σ) := by
          rw [eS, st_1 (by omega), if_neg q.1, if_neg q.2.1, if_neg q.2.2, if_neg (by omega)]
        exact hQ h' (.inr (2, S, σ)) f D' ⟨rfl, rfl, iv_tE I hS⟩ (G.tr (GoX.st s (Nat.le_refl _))) q.1
    · have w0 : w = 13 := by
        rcases hw with rfl | rfl
        · exact absurd rfl e
        · rfl
      subst w0
      have A' : At n 1 (13 :: S) y := A'
      refine c_addX (k := 13) (m2 := 2) (S := S) C' D' A' (fun σ I ey => ?_) (fun h2 z f2 D2 A2 G2 ep => ⟨f2.lay C'.1.1, hQ h2 z (f.tr f2) D2 A2 (G.tr G2) ?_⟩)
      · have q : ¬ at_ T n (sp σ) = 32 ∧ ¬ mW T n (wS 19) (sp σ) = true ∧ ¬ mW T n (wS 20) (sp σ) = true := N _ ey
        refine ⟨?_, iv_ans (Or.inr rfl) I (by omega) (fun _ => hS)⟩
        rw [st_1 (Or.inl rfl), if_neg q.1, if_neg q.2.1, if_neg q.2.2, if_pos rfl]
      · rcases A'.ms with ⟨fl, rfl⟩ | ⟨σ, rfl, I⟩
        · have : z = .inl fl := G2.2
          rw [this]
          exact trivial
        · cases z with
          | inl f => exact trivial
          | inr c =>
            show ¬ at_ T n (sp c.2.2) = 32
            rw [ep _ _ rfl rfl]
            exact (N _ rfl).1
  have key : ∀ k i w h' y, i + k = 400 → (w = 0 ∨ w = 13) → FrC (AX r) h h' → CD n r h' y → At n 1 (wL_ w S) y → GoX T n x y → (∀ c, y = .inr c → i ≤ sp c.2.2) → Sat g mX6_readTest (d + 6) (0, 0) (qV Q) 9 [.ref 29, .int (nI δ), .int (if w = 0 then 0 else 1), .int (nI i), .double 0] [] h' := by
    intro k
    induction k with
    | zero =>
      intro i w h' y hi hw f D' A' G hp
      have C' := C.fr f
      have E := ex w h' y hw f D' A' G (fun c ec => by
        have q := hp c ec
        rw [ec] at A'
        have q2 : sp c.2.2 ≤ n := A'.2.2.1.1
        have e1 : at_ T n (sp c.2.2) = 1000 := if_neg (by omega)
        refine ⟨by rw [e1]; decide, fun w => ?_, fun w => ?_⟩
        · have := mW_le w (by decide) (by decide); have := l19.1; omega
        · have := mW_le w (by decide) (by decide); have := l19.2.1; omega)
      refine wX6_readTest_9 _ _ _ C'.1.1 ⟨fun _ => E, fun z => absurd (nI_le (a := 400) (by omega) (by omega)) z⟩
    | succ k ih =>
      intro i w h' y hi hw f D' A' G hp
      have C' := C.fr f
      refine wX6_readTest_9 _ _ _ C'.1.1 ⟨fun z => absurd z (nI_ge (a := i) (b := 400) (by omega) (by omega)), fun _ => ?_⟩
      rcases A'.ms with ⟨fl, rfl⟩ | ⟨σ, rfl, I⟩
      · exact ⟨fun z => absurd z (CDf.nz D'), fun _ => ex w h' _ hw f D' A' G (fun c ec => absurd ec (by simp))⟩
      · have D' : CDs r h' σ := D'
        have hpn : sp σ ≤ n := I.1.1
        have hip : i ≤ sp σ := hp _ rfl
        obtain ⟨b1, b2, b3⟩ := bl_rg (T := T) hpn
        obtain ⟨y0, S0, e0, hy0, hw13, hw0⟩ := wst w hw
        refine ⟨fun _ => c_next C'.1 D'.1 hpn (fun h5 f5 e5 => ⟨f5.lay C'.1.1, ?_⟩), fun z => absurd D'.2.1 z⟩
        have G5 : GoX T n x (.inr (1, wL_ w S, pu σ (bl T n (sp σ)))) := by
          rw [e0] at G ⊢
          exact G.tr (GoX.bk (T := T) (n := n) (m := 1) (fun σ h => sk1 hy0 S0 σ h) σ)
        have D5 := D'.mv f5 e5
        have I5 := iv_pu I b1 b2
        have C5 := C'.fr (f3x f5)
        have F5 := f.tr (f3x f5)
        have n32 : ¬ at_ T n (bl T n (sp σ)) = 32 := fun w => b3 (at_32.mp w)
        generalize hP : bl T n (sp σ) = P at *
        generalize hσ : pu σ P = σ1 at *
        have pP : sp σ1 = P := by rw [← hσ]
        have e53 : se σ1 ≤ 253 := iv_e n4 I5
        have dw : dpS (wL_ w S) = dpS S := by
          rcases hw with rfl | rfl
          · rfl
          · show (if 13 = 14 ∨ 13 = 15 then 1 else 0) + dpS S = dpS S
            rw [if_neg (by decide), Nat.zero_add]
        have s1 := st_1 hy0 T n S0 σ1
        rw [← e0, pP, if_neg n32] at s1
        have l3 := l19
        -- behind a FACT that OR joins
        have orF : ∀ σ2 h7, CDs r h7 (pu σ2 (P + 2)) → CT T n r h7 → FrC (AX r) h h7 → Inv n (0, 13 :: S, pu σ2 (P + 2)) → GoX T n x (.inr (0, 13 :: S, pu σ2 (P + 2))) → CallV g mX6_readFact (d + 5) (0, 0) [Value.ref 29, .int (nI δ)] h7 (fun h24 => Lay h24 ∧ ((1 : Int32) = 0 → ∃ y22_, (hR h24 29 6) = (some y22_) ∧ (hK h24 y22_) = 8 ∧ CallV g mX7_add (d + 5) (0, 0) [Value.ref y22_, .int 12, .int 0] h24 (fun h26 => Lay h26 ∧ Sat g mX6_readTest (d + 6) (0, 0) (qV Q) 9 [Value.ref 29, .int (nI δ), .int 1, .int (nI i + 1), .double 0] [] h26)) ∧ (¬ ((1 : Int32) = 0) → Sat g mX6_readTest (d + 6) (0, 0) (qV Q) 9 [Value.ref 29, .int (nI δ), .int 1, .int (nI i + 1), .double 0] [] h24)) := by
          intro σ2 h7 D7 C7 F7 I7 G7
          refine F h7 (.inr (0, 13 :: S, pu σ2 (P + 2))) (13 :: S) _ C7 D7 ⟨rfl, rfl, I7⟩ ?_ (fun h8 y8 f8 D8 A8 G8 => ⟨f8.lay C7.1.1, fun z => absurd z (by decide), fun _ => ?_⟩)
          · show (if 13 = 14 ∨ 13 = 15 then 1 else 0) + dpS S = δ
            rw [if_neg (by decide), Nat.zero_add]; exact hδ
          · rw [nI_1]
            refine ih (i + 1) 13 h8 y8 (by omega) (Or.inr rfl) (F7.tr f8) D8 A8 (G7.tr G8) (fun c ec => ?_)
            have := G8.2
            rw [ec] at this
            have : P + 2 ≤ sp c.2.2 := this.1
            omega
        refine c_takeWord (t := 3) C5.1 (by decide) (D5.1.trans (by rw [pP])) b2 (fun no => ⟨C5.1.1, fun _ => ?_, fun z => absurd rfl z⟩) (fun kk p' yes => ?_)
        · have no : fW T n P [19, 20] 0 = none := no
          rw [fW] at no
          by_cases c1 : mW T n (wS 19) P = true
          · rw [if_pos c1] at no; exact absurd no (by simp)
          rw [if_neg c1, fW] at no
          by_cases c2 : mW T n (wS 20) P = true
          · rw [if_pos c2] at no; exact absurd no (by simp)
          have A5 : At n 1 (wL_ w S) (.inr (1, wL_ w S, σ1)) := ⟨rfl, rfl, I5⟩
          exact ex w h5 (.inr (1, wL_ w S, σ1)) hw F5 D5 A5 G5 (fun c ec => by
            have ec := Sum.inr.inj ec
            subst ec
            show ¬ at_ T n (sp σ1) = 32 ∧ ¬ mW T n (wS 19) (sp σ1) = true ∧ ¬ mW T n (wS 20) (sp σ1) = true
            rw [pP]
            exact ⟨n32, c1, c2⟩)
        · have yes : fW T n P [19, 20] 0 = some (kk, p') := yes
          have f6 : FrC A3 h5 (setI h5 29 3 (nI p')) := FrC.stI ⟨rfl, rfl⟩
          have C6 := C5.fr (f3x f6)
          have D6 := D5.mv f6 rdI
          have F6 := F5.tr (f3x f6)
          rw [fW] at yes
          by_cases c1 : mW T n (wS 19) P = true
          · -- and
            rw [if_pos c1] at yes
            obtain ⟨rfl, rfl⟩ := Prod.mk.inj (Option.some.inj yes)
            rw [l3.1] at D6 C6 F6 f6 ⊢
            rw [if_pos c1] at s1
            have hle : P + 3 ≤ n := by have := mW_le c1 (by decide) (by decide); omega
            have I6 : Inv n (0, 12 :: wL_ w S, pu σ1 (P + 3)) := iv_join I5 (Or.inl ⟨rfl, by rw [e0]; exact hy0⟩) (by omega) hle
            have G6 := G5.tr (GoX.st s1 (by show sp σ1 ≤ P + 3; omega))
            have go : ∀ v : Int32, v = (if w = 0 then 0 else 1) → CallV g mX6_readFact (d + 5) (0, 0) [Value.ref 29, .int (nI δ)] (setI h5 29 3 (nI (P + 3))) (fun h12 => Lay h12 ∧ (nI 0 = 0 → ∃ y92_, (hR h12 29 6) = (some y92_) ∧ (hK h12 y92_) = 8 ∧ CallV g mX7_add (d + 5) (0, 0) [Value.ref y92_, .int 12, .int 0] h12 (fun h14 => Lay h14 ∧ Sat g mX6_readTest (d + 6) (0, 0) (qV Q) 9 [Value.ref 29, .int (nI δ), .int v, .int (nI i + 1), .double 0] [] h14)) ∧ (¬ (nI 0 = 0) → Sat g mX6_readTest (d + 6) (0, 0) (qV Q) 9 [Value.ref 29, .int (nI δ), .int v, .int (nI i + 1), .double 0] [] h12)) := by
              intro v ev
              refine F _ (.inr (0, 12 :: wL_ w S, pu σ1 (P + 3))) (12 :: wL_ w S) _ C6 D6 ⟨rfl, rfl, I6⟩ ?_ (fun h8 y8 f8 D8 A8 G8 => ⟨f8.lay C6.1.1, fun _ => ?_, fun z => absurd rfl z⟩)
              · show (if 12 = 14 ∨ 12 = 15 then 1 else 0) + dpS (wL_ w S) = δ
                rw [if_neg (by decide), Nat.zero_add, dw]; exact hδ
              · have C8 := C6.fr f8
                refine ⟨_, C8.2.1, (Lru C8.1.1 C8.2.2).1, c_addX (k := 12) (m2 := 1) (S := wL_ w S) C8 D8 A8 (fun σ2 I2 e2 => ⟨rfl, iv_ans (Or.inl rfl) I2 (by omega) (fun z => absurd z (by decide))⟩) (fun h9 z f9 D9 A9 G9 ep => ⟨f9.lay C8.1.1, ?_⟩)⟩
                rw [nI_1, ev]
                refine ih (i + 1) w h9 z (by omega) hw ((F6.tr f8).tr f9) D9 A9 ((G6.tr G8).tr G9) (fun c ec => ?_)
                have := (G8.tr G9).2
                rw [ec] at this
                have : P + 3 ≤ sp c.2.2 := this.1
                omega
            refine ⟨C6.1.1, fun z => absurd z (nI_m1 (by omega)), fun _ => ⟨fun z => absurd z (by decide), fun _ => ⟨fun z => ⟨fun z2 => absurd z2 (by decide), fun _ => go 0 ?_⟩, fun z => go 1 ?_⟩⟩⟩
            · rw [if_pos ((wv w hw).mp z)]
            · rw [if_neg (fun q => z ((wv w hw).mpr q))]
          · -- or
            rw [if_neg c1, fW] at yes
            by_cases c2 : mW T n (wS 20) P = true
            · rw [if_pos c2] at yes
              obtain ⟨rfl, rfl⟩ := Prod.mk.inj (Option.some.inj yes)
              rw [l3.2.1] at D6 C6 F6 f6 ⊢
              rw [if_neg c1, if_pos c2] at s1
              have hle : P + 2 ≤ n := by have := mW_le c2 (by decide) (by decide); omega
              refine ⟨C6.1.1, fun z => absurd z (nI_m1 (by omega)), fun _ => ⟨fun _ => ⟨fun z => ⟨fun _ => ⟨fun _ => ?_, fun z2 => absurd rfl z2⟩, fun z2 => absurd z z2⟩, fun z => ⟨_, C6.2.1, (Lru C6.1.1 C6.2.2).1, ?_⟩⟩, fun z => absurd rfl z⟩⟩
              · have w0 := (wv w hw).mp z
                subst w0
                rw [if_neg (hw0 rfl)] at s1
                have e0' : S = y0 :: S0 := e0
                refine orF σ1 _ D6 C6 F6 (iv_join I5 (Or.inr ⟨rfl, hS⟩) (by omega) hle) (G5.tr ?_)
                exact GoX.st s1 (by show sp σ1 ≤ P + 2; omega)
              · have w0 : w = 13 := by
                  rcases hw with rfl | rfl
                  · exact absurd rfl z
                  · rfl
                subst w0
                obtain ⟨ey, eS0⟩ := hw13 rfl
                subst ey eS0
                rw [if_pos rfl] at s1
                have I5' : Inv n (1, 13 :: S0, σ1) := I5
                refine c_addS (k := 13) (v := 0) C6 D6 (by show se σ1 < 400; omega) (fun h7 f7 D7 => ⟨f7.lay C6.1.1, ⟨fun z2 => absurd z2 z, fun _ => ?_⟩⟩)
                refine orF (em σ1 13 0) h7 D7 (C6.fr f7) (F6.tr f7) ?_ (G5.tr (GoX.st s1 (by show sp σ1 ≤ P + 2; omega)))
                exact iv_join (iv_ans (Or.inl rfl) I5' (by omega) (fun z => absurd z (by decide))) (Or.inr ⟨rfl, hS⟩) (by show sp σ1 + 1 ≤ P + 2; omega) hle
            · rw [if_neg c2] at yes; exact absurd yes (by simp [fW])
  refine wX6_readTest_0 _ C.1.1 (F h x S _ C D A hδ (fun h1 y1 f1 D1 A1 G1 => ⟨f1.lay C.1.1, ?_⟩))
  exact key 400 0 0 h1 y1 (by omega) (Or.inl rfl) f1 D1 A1 G1 (fun c _ => Nat.zero_le _)
theorem c_fact {δ : Nat} (h10 : δ ≤ 10) (F1 : δ < 10 → FactOK g T n r (d + 8) (δ + 1)) (R1 : δ < 10 → TestOK g T n r (d + 8) (δ + 1)) : FactOK g T n r (d + 9) δ := by
  intro h x S Q C D A hδ hQ
  have n4 := C.1.2.2.1
  have hT := C.1.2.2.2.2.2
  rcases A.ms with ⟨f, rfl⟩ | ⟨σ, rfl, I⟩
  · have D : CDf n r h f := D
    obtain ⟨p, hp, d3⟩ := D.1
    refine wX6_readFact_0 _ C.1.1 (c_next C.1 d3 hp (fun h1 f1 e1 => ⟨f1.lay C.1.1, ?_⟩))
    have D1 := D.mv f1 (bl_rg (T := T) hp).2.1 e1
    exact ⟨fun w => absurd w D1.nz, fun _ => hQ h1 (.inl f) (f3x f1) D1 trivial (GoX.rf _)⟩
  · have D : CDs r h σ := D
    have hp : sp σ ≤ n := I.1.1
    obtain ⟨b1, b2, b3⟩ := bl_rg (T := T) hp
    refine wX6_readFact_0 _ C.1.1 (c_next C.1 D.1 hp (fun h1 f1 e1 => ⟨f1.lay C.1.1, ?_⟩))
    have G1 := GoX.bk (T := T) (n := n) (m := 0) (S := S) (fun σ h => sk0 S σ h) σ
    have D1 := D.mv f1 e1
    have I1 := iv_pu I b1 b2
    have C1 := C.fr (f3x f1)
    have n32 : ¬ at_ T n (bl T n (sp σ)) = 32 := fun w => b3 (at_32.mp w)
    rw [e1]
    generalize hP : bl T n (sp σ) = P at *
    generalize hσ : pu σ P = σ1 at *
    have pP : sp σ1 = P := by rw [← hσ]
    have e53 : se σ1 ≤ 253 := iv_e n4 I1
    have s0 := st_0 T n S σ1
    rw [pP, if_neg n32, hδ] at s0
    have e91 : sgI T n P = 91 ↔ at_ T n P = 91 := sg_eq (c := 91) hT (by omega)
    have lt10 : nI δ < 10 ↔ δ < 10 := nI_ltI (a := δ) (b := 10) (by omega) (by omega)
    refine ⟨fun _ => ⟨fun w91 => ?_, fun w91 => ?_⟩, fun w => absurd D1.2.1 w⟩
    · have a91 := e91.mp w91
      have hl : P < n := at_lt (T := T) (by omega)
      rw [if_neg (nt91 a91), if_pos a91] at s0
      refine ⟨fun w10 => ⟨fun _ => ?_, fun z => absurd w91 z⟩, fun w10 => c_fail (c := 2) C1.1.1 (fun h9 f9 e9 => ⟨f9.lay C1.1.1, ?_⟩)⟩
      · have w10 := lt10.mp w10
        rw [if_neg (by omega)] at s0
        have f2 : FrC A3 h1 (setI h1 29 3 (nI (P + 1))) := FrC.stI ⟨rfl, rfl⟩
        have C2 := C1.fr (f3x f2)
        have D2 := D1.mv f2 rdI
        have I2 : Inv n (0, 15 :: S, pu σ1 (P + 1)) := iv_in I1 (by omega) (Or.inr ⟨rfl, by omega⟩) hl
        rw [nI_1, nI_1]
        refine R1 w10 _ (.inr (0, 15 :: S, pu σ1 (P + 1))) (15 :: S) _ C2 D2 ⟨rfl, rfl, I2⟩ ?_ (Or.inl rfl) (fun h3 y3 f3 D3 A3' G3 N3 => ⟨f3.lay C2.1.1, ?_⟩)
        · show (if 15 = 14 ∨ 15 = 15 then 1 else 0) + dpS S = δ + 1
          rw [if_pos (by decide)]; omega
        · have C3 := C2.fr f3
          refine c_expect C3 D3 A3' N3 (fun h4 y4 f4 D4 A4' G4 => ⟨f4.lay C3.1.1, hQ h4 y4 ((((f3x f1).tr (f3x f2)).tr f3).tr f4) D4 A4' ?_⟩)
          exact ((G1.tr (GoX.st s0 (by show sp σ1 ≤ P + 1; omega))).tr G3).tr G4
      · have w10 : 10 ≤ δ := Nat.le_of_not_lt (fun z => w10 (lt10.mpr z))
        rw [if_pos w10] at s0
        rw [D1.2.1, if_pos rfl] at e9
        exact hQ h9 (.inl _) ((f3x f1).tr (f4x f9)) (D1.ft n4 (by omega) (by omega) (f9.wd (fun x k w => by unfold A4 at w; unfold A34; omega)) b2 ((f9.I (by unfold A4; omega)).trans e1) e9) trivial (G1.tr (GoX.ft s0))
    · have a91 : ¬ at_ T n P = 91 := fun z => w91 (e91.mpr z)
      refine c_takeWord (t := 4) C1.1 (by decide) e1 b2 (fun no => ⟨C1.1.1, fun _ => ?_, fun z => absurd rfl z⟩) (fun kk p' yes => ?_)
      · have no : fW T n P [18] 0 = none := no
        rw [fW] at no
        by_cases c1 : mW T n (wS 18) P = true
        · rw [if_pos c1] at no; exact absurd no (by simp)
        rw [if_neg c1, if_neg a91] at s0
        have I2 := iv_fact I1
        have hS : (12 ≤ S.headD 0 ∧ S.headD 0 ≤ 15) ∨ S.headD 0 = 17 := I1.2.2.2.2.2.1
        refine c_readSum (S := 16 :: S) (x := .inr (3, 16 :: S, σ1)) (by show ¬ (2 ≤ 16 ∧ 16 ≤ 6); omega) C1 D1 ⟨rfl, rfl, I2⟩ (fun h3 y3 f3 D3 A3' G3 N3 => ⟨f3.lay C1.1.1, ?_⟩)
        have C3 := C1.fr f3
        have G3' := (G1.tr (GoX.st s0 (Nat.le_refl _))).tr G3
        refine c_readSign C3 D3 A3' N3 (fun h4 y4 v f4 D4 G4 hy => ⟨f4.lay C3.1.1, ?_⟩)
        have C4 := C3.fr f4
        rcases hy with ⟨fl, rfl⟩ | ⟨k, σ4, k1, k2, ev, rfl, I4⟩
        · refine c_readSum (S := []) (by show ¬ (2 ≤ 0 ∧ 0 ≤ 6); omega) C4 D4 trivial (fun h5 y5 f5 D5 A5 G5 N5 => ⟨f5.lay C4.1.1, ?_⟩)
          have C5 := C4.fr f5
          have e5 : y5 = .inl fl := G5.2
          subst e5
          refine ⟨_, C5.2.1, (Lru C5.1.1 C5.2.2).1, c_addF C5 D5 (fun h6 f6 D6 => ⟨f6.lay C5.1.1, ?_⟩)⟩
          exact hQ h6 (.inl fl) (((((f3x f1).tr f3).tr f4).tr f5).tr f6) D6 trivial (G3'.tr G4)
        · subst ev
          refine c_readSum (S := k :: S) (by show ¬ (2 ≤ k ∧ k ≤ 6); omega) C4 D4 ⟨rfl, rfl, I4⟩ (fun h5 y5 f5 D5 A5 G5 N5 => ⟨f5.lay C4.1.1, ?_⟩)
          have C5 := C4.fr f5
          refine ⟨_, C5.2.1, (Lru C5.1.1 C5.2.2).1, c_addX (m2 := 1) (S := S) C5 D5 A5 (fun σ5 I5 e5 => ⟨st_5c ⟨k1, k2⟩, iv_cmpE I5 ⟨k1, k2⟩⟩) (fun h6 z f6 D6 A6 G6 ep => ⟨f6.lay C5.1.1, ?_⟩)⟩
          exact hQ h6 z (((((f3x f1).tr f3).tr f4).tr f5).tr f6) D6 A6 (((G3'.tr G4).tr G5).tr G6)
      · have yes : fW T n P [18] 0 = some (kk, p') := yes
        rw [fW] at yes
        by_cases c1 : mW T n (wS 18) P = true
        · rw [if_pos c1] at yes s0
          obtain ⟨rfl, rfl⟩ := Prod.mk.inj (Option.some.inj yes)
          rw [l19.2.2.1]
          have hle : P + 3 ≤ n := by have := mW_le c1 (by decide) (by decide); have := l19.2.2.1; omega
          have f2 : FrC A3 h1 (setI h1 29 3 (nI (P + 3))) := FrC.stI ⟨rfl, rfl⟩
          have C2 := C1.fr (f3x f2)
          have D2 := D1.mv f2 rdI
          refine ⟨C2.1.1, fun z => absurd z (nI_m1 (by omega)), fun _ => ⟨fun w10 => ⟨fun z => absurd z w91, fun _ => ?_⟩, fun w10 => c_fail (c := 2) C2.1.1 (fun h9 f9 e9 => ⟨f9.lay C2.1.1, ?_⟩)⟩⟩
          · have w10 := lt10.mp w10
            rw [if_neg (by omega)] at s0
            have I2 : Inv n (0, 14 :: S, pu σ1 (P + 3)) := iv_in I1 (by omega) (Or.inl ⟨rfl, by omega⟩) hle
            rw [nI_1]
            refine F1 w10 _ (.inr (0, 14 :: S, pu σ1 (P + 3))) (14 :: S) _ C2 D2 ⟨rfl, rfl, I2⟩ ?_ (fun h3 y3 f3 D3 A3' G3 => ⟨f3.lay C2.1.1, ?_⟩)
            · show (if 14 = 14 ∨ 14 = 15 then 1 else 0) + dpS S = δ + 1
              rw [if_pos (by decide)]; omega
            · have C3 := C2.fr f3
              refine ⟨_, C3.2.1, (Lru C3.1.1 C3.2.2).1, c_addX (k := 14) (m2 := 1) (S := S) C3 D3 A3' (fun σ5 I5 e5 => ⟨rfl, iv_ans (Or.inl rfl) I5 (by omega) (fun z => absurd z (by decide))⟩) (fun h6 z f6 D6 A6 G6 ep => ⟨f6.lay C3.1.1, ?_⟩)⟩
              exact hQ h6 z ((((f3x f1).tr (f3x f2)).tr f3).tr f6) D6 A6 (((G1.tr (GoX.st s0 (by show sp σ1 ≤ P + 3; omega))).tr G3).tr G6)
          · have w10 : 10 ≤ δ := Nat.le_of_not_lt (fun z => w10 (lt10.mpr z))
            rw [if_pos w10] at s0
            rw [D2.2.1, if_pos rfl] at e9
            exact hQ h9 (.inl _) (((f3x f1).tr (f3x f2)).tr (f4x f9)) (D2.ft n4 (by show se σ1 ≤ 400; omega) (by omega) (f9.wd (fun x k w => by unfold A4 at w; unfold A34; omega)) hle ((f9.I (by unfold A4; omega)).trans D2.1) e9) trivial (G1.tr (GoX.ft s0))
        · rw [if_neg c1] at yes; exact absurd yes (by simp [fW])
theorem c_facts : ∀ k δ, δ + k = 10 → ∀ d, FactOK g T n r (d + 9 + 2 * k) δ ∧ TestOK g T n r (d + 10 + 2 * k) δ
  | 0, δ, e, d => by
    have F : ∀ d, FactOK g T n r (d + 9) δ := fun d => c_fact (by omega) (fun w => by omega) (fun w => by omega)
    exact ⟨F d, c_test (d := d + 4) (F d)⟩
  | k + 1, δ, e, d => by
    have ih := fun d => c_facts k (δ + 1) (by omega) d
    have F : ∀ d, FactOK g T n r (d + 9 + 2 * (k + 1)) δ := fun d => by
      have := c_fact (g := g) (T := T) (n := n) (r := r) (d := d + 2 + 2 * k) (δ := δ) (by omega) (fun _ => by
        have q := (ih (d + 1)).1
        rw [show d + 1 + 9 + 2 * k = d + 2 + 2 * k + 8 by omega] at q; exact q) (fun _ => by
        have q := (ih d).2
        rw [show d + 10 + 2 * k = d + 2 + 2 * k + 8 by omega] at q; exact q)
      rw [show d + 9 + 2 * (k + 1) = d + 2 + 2 * k + 9 by omega]; exact this
    refine ⟨F d, ?_⟩
    have q := F d
    rw [show d + 9 + 2 * (k + 1) = (d + 2 * k + 6) + 5 by omega] at q
    have := c_test q
    rw [show d + 10 + 2 * (k + 1) = (d + 2 * k + 6) + 6 by omega]; exact this
end FT
