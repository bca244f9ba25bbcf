/-! the class reads a RULE -/
def AR (r x k : Nat) : Prop := (x = 29 ∧ (k = 3 ∨ k = 4 ∨ k = 5)) ∨ (126 + 5 * r ≤ x ∧ x ≤ 130 + 5 * r)
theorem fxr {r : Nat} {h h' : HP} (f : FrC (AX r) h h') : FrC (AR r) h h' := f.wd (fun x k w => by unfold AX at w; unfold AR; omega)
theorem CT.fr2 {T : Nat → Nat} {n r : Nat} {A : Nat → Nat → Prop} {h h' : HP} (C : CT T n r h) (f : FrC A h h') (hA : ∀ x k, A x k → 126 ≤ x) : CT T n r h' := ⟨C.1.fr f (fun k w => by have := hA _ _ w; omega) (fun w => by have := hA _ _ w; omega), by rw [f.2.1]; exact C.2.1, C.2.2⟩
def KQ (r : Nat) (h : HP) (σ : PS) : Prop := ∀ i, i < sq σ → hI h (129 + 5 * r) i = nI (sA σ i) ∧ hI h (130 + 5 * r) i = nI (sT σ i) ∧ hI h (129 + 5 * r) (i + 1) = nI (sA σ (i + 1))
def pgS (σ : PS) : Pg := (sq σ, sA σ, sT σ, skd σ, svl σ)
theorem pg_ok {n : Nat} {σ : PS} (hn : n ≤ 400) (I : Inv n (9, [], σ)) : PgOK (pgS σ) := by
  have e : se σ ≤ 253 := iv_e hn I
  refine ⟨I.1.2.2, fun c hc => ?_⟩
  obtain ⟨h1, h2, h3, h4, h5⟩ := I.2.2.2.1 c hc
  have h3 : sA σ (c + 1) ≤ se σ := h3
  exact ⟨h1, h2, by show sA σ (c + 1) ≤ 299; omega, h4, h5⟩
theorem st_6 (T : Nat → Nat) (n : Nat) (σ : PS) : stp T n (6, [], σ) = if at_ T n (sp σ) = 32 then .inr (6, [], pu σ (sp σ + 1)) else
    if mW T n (wS 22) (sp σ) = true then (if 12 ≤ sq σ then .inl (.inl (1 + 8 * sp σ + 4)) else .inr (3, [], pu σ (sp σ + 3))) else .inl (.inl (1 + 8 * sp σ + 0)) := rfl
theorem st_8 (T : Nat → Nat) (n : Nat) (σ : PS) : stp T n (8, [], σ) = if at_ T n (sp σ) = 32 then .inr (8, [], pu σ (sp σ + 1)) else
    if mW T n (wS 23) (sp σ) = true then .inr (0, [17], pu σ (sp σ + 2)) else .inr (7, [], σ) := rfl
theorem st_9 (T : Nat → Nat) (n : Nat) (σ : PS) : stp T n (9, [], σ) = if at_ T n (sp σ) = 32 then .inr (9, [], pu σ (sp σ + 1)) else
    if at_ T n (sp σ) = 1000 then .inl (.inr σ) else if at_ T n (sp σ) = 59 then .inr (6, [], pu σ (sp σ + 1)) else .inl (.inl (1 + 8 * sp σ + 0)) := rfl
def σ8 (σ : PS) : PS := (σ.1, σ.2.1, (sq σ, sA σ, up1 (sT σ) (sq σ) (se σ)))
def σ9 (σ : PS) : PS := (σ.1, σ.2.1, (sq σ + 1, up1 (sA σ) (sq σ + 1) (se σ), sT σ))
def σ00 : PS := ((0, 0), (0, fun _ => 0, fun _ => 0), (0, fun _ => 0, fun _ => 0))
section CR
variable {g : GT} {d n r : Nat} {T : Nat → Nat} {h : HP} {x : CX} {S : List Nat}
theorem c_openClause {cl s : Nat} {Q : HP → Prop} (C : CT T n r h) (e5 : hI h (126 + 5 * r) 5 = nI cl) (hc : cl ≤ 12) (e2 : hI h (126 + 5 * r) 2 = nI s) (hQ : ∀ h' cl', cl' ≤ 12 → 1 ≤ cl' → FrC (fun x k => (x = 126 + 5 * r ∧ k = 5) ∨ x = 129 + 5 * r) h h' → hI h' (126 + 5 * r) 5 = nI cl' → (cl < 12 → cl' = cl + 1 ∧ hI h' (129 + 5 * r) cl = nI s ∧ ∀ j, ¬ j = cl → hI h' (129 + 5 * r) j = hI h (129 + 5 * r) j) → Q h') : CallV g mX7_openClause d (0, 0) [.ref (126 + 5 * r)] h Q := by
  obtain ⟨k0, ⟨r0, r1, r3, r4⟩, ⟨k1, k2, k3, k4⟩, n1, n2, n3, n4⟩ := Lru C.1.1 C.2.2
  refine vX7_openClause_0 _ h ⟨k0, ?_⟩
  rw [e5, nI_clamp (n := cl) (by omega)]
  refine ⟨fun w => hQ h cl hc (by have := (nI_leI (a := 12) (b := cl) (by omega) (by omega)).mp w; omega) (FrC.rf h) e5 (fun z => absurd w (nI_ge (a := cl) (b := 12) z (by omega))), fun w => ?_⟩
  have hl : cl < 12 := Nat.lt_of_not_le (fun z => w (nI_le (a := 12) z (by omega)))
  refine ⟨k0, _, r3, k0, k0, k3, by rw [n3]; exact vn (by omega) (by omega), k0, k0, ?_⟩
  intro h2 eh
  subst eh
  rw [show hI (setI h (126 + 5 * r + 3) cl (hI h (126 + 5 * r) 2)) (126 + 5 * r) 5 = nI cl by rw [rdn (by omega)]; exact e5, nI_1, e2]
  refine hQ _ (cl + 1) (by omega) (by omega) ((FrC.stI (by omega)).tr (FrC.stI (by omega))) rdI (fun _ => ⟨rfl, ?_, fun j hj => ?_⟩)
  · rw [rdn (by omega), show 129 + 5 * r = 126 + 5 * r + 3 by omega, rdI]
  · rw [rdn (by omega), rdn (by omega)]
theorem c_openTest {cl s : Nat} {Q : HP → Prop} (C : CT T n r h) (e5 : hI h (126 + 5 * r) 5 = nI (cl + 1)) (hc : cl < 12) (e2 : hI h (126 + 5 * r) 2 = nI s) (hQ : ∀ h', FrC (fun x _ => x = 130 + 5 * r) h h' → hI h' (130 + 5 * r) cl = nI s → (∀ j, ¬ j = cl → hI h' (130 + 5 * r) j = hI h (130 + 5 * r) j) → Q h') : CallV g mX7_openTest d (0, 0) [.ref (126 + 5 * r)] h Q := by
  obtain ⟨k0, ⟨r0, r1, r3, r4⟩, ⟨k1, k2, k3, k4⟩, n1, n2, n3, n4⟩ := Lru C.1.1 C.2.2
  refine vX7_openTest_0 _ h ⟨k0, ?_⟩
  rw [e5, nI_pred, nI_clamp (n := cl) (by omega)]
  refine ⟨fun w => absurd w (nI_nle (by omega) (by omega)), fun _ => ⟨k0, _, r4, k0, k0, k4, by rw [n4]; exact vn (by omega) (by omega), ?_⟩⟩
  rw [e2]
  refine hQ _ (FrC.stI (by omega)) ?_ (fun j hj => ?_)
  · rw [show 130 + 5 * r = 126 + 5 * r + 4 by omega, rdI]
  · rw [rdn (by omega)]
theorem c_closeClause {cl s : Nat} {Q : HP → Prop} (C : CT T n r h) (e5 : hI h (126 + 5 * r) 5 = nI cl) (hc : cl ≤ 12) (e2 : hI h (126 + 5 * r) 2 = nI s) (hQ : ∀ h', FrC (fun x _ => x = 129 + 5 * r) h h' → hI h' (129 + 5 * r) cl = nI s → (∀ j, ¬ j = cl → hI h' (129 + 5 * r) j = hI h (129 + 5 * r) j) → Q h') : CallV g mX7_closeClause d (0, 0) [.ref (126 + 5 * r)] h Q := by
  obtain ⟨k0, ⟨r0, r1, r3, r4⟩, ⟨k1, k2, k3, k4⟩, n1, n2, n3, n4⟩ := Lru C.1.1 C.2.2
  refine vX7_closeClause_0 _ h ⟨k0, ?_⟩
  rw [e5, nI_clamp (n := cl) (by omega)]
  refine ⟨fun w => absurd w (nI_nlt (a := 12) (b := cl) hc (by omega)), fun _ => ⟨k0, _, r3, k0, k0, k3, by rw [n3]; exact vn (by omega) (by omega), ?_⟩⟩
  rw [e2]
  refine hQ _ (FrC.stI (by omega)) ?_ (fun j hj => ?_)
  · rw [show 129 + 5 * r = 126 + 5 * r + 3 by omega, rdI]
  · rw [rdn (by omega)]
theorem CDf.fr {f : Nat} {A : Nat → Nat → Prop} {h h' : HP} (D : CDf n r h f) (fr : FrC A h h') (h1 : ¬ A 29 3) (h2 : ¬ A 29 4) (h3 : ¬ A (126 + 5 * r) 2) : CDf n r h' f := by
  obtain ⟨⟨p, hp, d3⟩, d4, df, s, hs, d2⟩ := D
  exact ⟨⟨p, hp, (fr.I h1).trans d3⟩, (fr.I h2).trans d4, df, s, hs, (fr.I h3).trans d2⟩
theorem CDs.fr {σ : PS} {A : Nat → Nat → Prop} {h h' : HP} (D : CDs r h σ) (fr : FrC A h h') (h1 : ¬ A 29 3) (h2 : ¬ A 29 4) (h5 : ¬ A 29 5) (h3 : ¬ A (126 + 5 * r) 2) (h6 : ∀ k, ¬ A (127 + 5 * r) k) (h7 : ∀ k, ¬ A (128 + 5 * r) k) : CDs r h' σ :=
  ⟨(fr.I h1).trans D.1, (fr.I h2).trans D.2.1, (fr.I h5).trans D.2.2.1, (fr.I h3).trans D.2.2.2.1, fun i hi => by rw [fr.I (h6 i), fr.I (h7 i)]; exact D.2.2.2.2 i hi⟩
/-- where the CLAUSE ends in a FAULT -/
theorem c_endF {f cl : Nat} {v : Int32} {Q : Int32 → HP → Prop} (C : CT T n r h) (D : CDf n r h f) (e5 : hI h (126 + 5 * r) 5 = nI cl) (hc : cl ≤ 12) (hQ : ∀ h', FrC (AR r) h h' → (1 ≤ f ∧ f < 10000) → Q (nI f) h') : Sat g mX6_readRule (d + 1) (0, 0) (qI Q) 125 [.ref 29, .double 0, .double 0, .double 0, .int v, .double 0] [] h := by
  obtain ⟨s, hs, d2⟩ := D.2.2.2
  refine wX6_readRule_125 _ C.1.1 ⟨_, C.2.1, (Lru C.1.1 C.2.2).1, c_closeClause C e5 hc d2 (fun h1 f1 _ _ => ⟨f1.lay C.1.1, ?_⟩)⟩
  have D1 : CDf n r h1 f := D.fr f1 (by omega) (by omega) (by omega)
  refine ⟨fun w => absurd w D1.nz, fun _ => ?_⟩
  rw [D1.2.1]
  exact hQ h1 (f1.wd (fun x k w => by unfold AR; omega)) D1.2.2.1
/-- where the CLAUSE has begun with a FAULT -/
theorem c_begF {f cl : Nat} {v : Int32} {Q : Int32 → HP → Prop} (C : CT T n r h) (D : CDf n r h f) (e5 : hI h (126 + 5 * r) 5 = nI cl) (hc : cl ≤ 12) (hQ : ∀ h', FrC (AR r) h h' → (1 ≤ f ∧ f < 10000) → Q (nI f) h') : ∃ y7_, (hR h 29 6) = (some y7_) ∧ (hK h y7_) = 8 ∧ CallV g mX7_openClause (d + 7) (0, 0) [Value.ref y7_] h (fun h28 => Lay h28 ∧ CallV g mX6_readSum (d + 7) (0, 0) [Value.ref 29] h28 (fun h29 => Lay h29 ∧ ∃ y27_, (hR h29 29 6) = (some y27_) ∧ (hK h29 y27_) = 8 ∧ CallV g mX7_openTest (d + 7) (0, 0) [Value.ref y27_] h29 (fun h31 => Lay h31 ∧ CallI g mX6_next (d + 7) [Value.ref 29] h31 (fun i33 h32 => Lay h32 ∧ ((hI h32 29 4) = 0 → CallI g mX6_takeWord (d + 7) [Value.ref 29, .float 2] h32 (fun i35 h34 => Lay h34 ∧ (i35 = (-1) → Sat g mX6_readRule (d + 8) (0, 0) (qI Q) 125 [Value.ref 29, .double 0, .double 0, .double 0, .int v, .double 0] [] h34) ∧ (¬ (i35 = (-1)) → CallV g mX6_readTest (d + 7) (0, 0) [Value.ref 29, .int 0] h34 (fun h36 => Lay h36 ∧ Sat g mX6_readRule (d + 8) (0, 0) (qI Q) 125 [Value.ref 29, .double 0, .double 0, .double 0, .int v, .double 0] [] h36)))) ∧ (¬ ((hI h32 29 4) = 0) → Sat g mX6_readRule (d + 8) (0, 0) (qI Q) 125 [Value.ref 29, .double 0, .double 0, .double 0, .int v, .double 0] [] h32))))) := by
  obtain ⟨s, hs, d2⟩ := D.2.2.2
  refine ⟨_, C.2.1, (Lru C.1.1 C.2.2).1, c_openClause C e5 hc d2 (fun h1 cl1 hc1 hc0 f1 e51 _ => ⟨f1.lay C.1.1, ?_⟩)⟩
  have C1 := C.fr2 f1 (fun x k w => by omega)
  have D1 : CDf n r h1 f := D.fr f1 (by omega) (by omega) (by omega)
  refine c_readSum (x := .inl f) (S := []) (by show ¬ (2 ≤ 0 ∧ 0 ≤ 6); omega) C1 D1 trivial (fun h2 y2 f2 D2 _ G2 _ => ⟨f2.lay C1.1.1, ?_⟩)
  have C2 := C1.fr f2
  have e2 : y2 = .inl f := G2.2
  subst e2
  have D2 : CDf n r h2 f := D2
  obtain ⟨s2, hs2, d22⟩ := D2.2.2.2
  have e52 : hI h2 (126 + 5 * r) 5 = nI cl1 := (f2.I (by unfold AX; omega)).trans e51
  obtain ⟨c2, rfl⟩ : ∃ c2, cl1 = c2 + 1 := ⟨cl1 - 1, by omega⟩
  refine ⟨_, C2.2.1, (Lru C2.1.1 C2.2.2).1, c_openTest C2 e52 (by omega) d22 (fun h3 f3 _ _ => ⟨f3.lay C2.1.1, ?_⟩)⟩
  have C3 := C2.fr2 f3 (fun x k w => by omega)
  have D3 : CDf n r h3 f := D2.fr f3 (by omega) (by omega) (by omega)
  have e53 : hI h3 (126 + 5 * r) 5 = nI (c2 + 1) := (f3.I (by omega)).trans e52
  obtain ⟨p, hp, d3⟩ := D3.1
  refine c_next C3.1 d3 hp (fun h4 f4 e4 => ⟨f4.lay C3.1.1, ?_⟩)
  have D4 := D3.mv f4 (bl_rg (T := T) hp).2.1 e4
  refine ⟨fun w => absurd w D4.nz, fun _ => c_endF (C3.fr (f3x f4)) D4 ((f4.I (by unfold A3; omega)).trans e53) hc1 (fun h5 f5 hf => hQ h5 ?_ hf)⟩
  exact ((((f1.wd (fun x k w => by unfold AR; omega)).tr (fxr f2)).tr (f3.wd (fun x k w => by unfold AR; omega))).tr (fxr (f3x f4))).tr f5
end CR
