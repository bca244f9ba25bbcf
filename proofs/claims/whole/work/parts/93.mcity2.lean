/-! city() of the reference -/
def AMf (x k : Nat) : Prop := (x = 252 ∧ (k = 24 ∨ k = 25 ∨ k = 26 ∨ k = 29 ∨ k = 30 ∨ k = 31)) ∨ (269 ≤ x ∧ x ≤ 275)
def AMg (x k : Nat) : Prop := AMf x k ∨ (x = 253 ∧ k < 6) ∨ (254 ≤ x ∧ x ≤ 261) ∨ (265 ≤ x ∧ x ≤ 268) ∨ (x = 252 ∧ k = 51)
theorem cw_drop : ∀ k : Fin 3, [21, 7, 6].drop k.val = [21, 7, 6].getD k.val 0 :: [21, 7, 6].drop (k.val + 1) := by decide
theorem cw_rg : ∀ k : Fin 3, 6 ≤ [21, 7, 6].getD k.val 0 ∧ [21, 7, 6].getD k.val 0 < 24 := by decide
section MC2
variable {g : GT} {d n : Nat} {T : Nat → Nat} {h h0 : HP} {t : Tw}
theorem m_cityClause {k p : Nat} {Q : HP → Prop} (C : MT0 T n h) (D : MCs n h (.inr p)) (H : MNw h t) (hB : TB t) (hk : k ≤ 40) (hF : ∀ h' f, FrC AMt h h' → MCs n h' (.inl f) → clauC T n k p t = .inl f → Q h') (hY : ∀ h' p' t', FrC AMt h h' → MCs n h' (.inr p') → clauC T n k p t = .inr (p', t') → MNw h' t' → Q h') : CallV g mX10_cityClause (d + 6) (0, 0) [.ref 252, .int (nI k)] h Q := by
  have n4 := C.2.1
  obtain ⟨d4, d3, hp⟩ := D
  obtain ⟨b1, b2, b3⟩ := bl_rg (T := T) hp
  refine wX10_cityClause_0 _ C.1 (m_blanks C d3 (by omega) (fun h1 f1 e1 => ⟨f1.lay C.1, ?_⟩))
  have C1 := C.f5 f1
  have F1 : FrC AMt h h1 := m56c (m5c f1)
  have ec : clauC T n k p t = (match fW T n (bl T n p) [21, 7, 6] 0 with
    | none => .inl (1 + 8 * bl T n p + 0)
    | some (w, p1) => if fitC k w t = true then wrdC T n w p1 t else .inl (1 + 8 * bl T n p + 4)) := rfl
  rw [e1]
  generalize bl T n p = P at *
  have e14 : hI h1 252 26 = 0 := (f1.I (by unfold A25; omega)).trans d4
  have H1 : MNw h1 t := H.to (fun x k hx => f1.I (by unfold A25; omega))
  have key : ∀ j w, w + j = 3 → fW T n P ([21, 7, 6].drop w) w = fW T n P [21, 7, 6] 0 → Sat g mX10_cityClause (d + 6) (0, 0) (qV Q) 11 [.ref 252, .int (nI k), .int (nI P), .int (nI w)] [] h1 := by
    intro j
    induction j with
    | zero =>
      intro w hw e
      have : w = 3 := by omega
      subst this
      have e : fW T n P [21, 7, 6] 0 = none := e.symm
      rw [e] at ec
      refine wX10_cityClause_11 _ _ _ C1.1 ⟨fun _ => ⟨fun _ => m_fails (c := 0) C1.1 (fun h2 f2 e2 => ⟨f2.lay C1.1, ?_⟩), fun z => absurd rfl z⟩, fun z => absurd (by decide) z⟩
      rw [e14, if_pos rfl] at e2
      exact hF h2 _ (F1.tr (m56c (m6c f2))) ⟨e2, by omega, P, b2, (f2.I (by unfold A26; omega)).trans e1⟩ ec
    | succ j ih =>
      intro w hw e
      have hw3 : w < 3 := by omega
      rw [cw_drop ⟨w, hw3⟩] at e
      have e : fW T n P ([21, 7, 6].getD w 0 :: [21, 7, 6].drop (w + 1)) w = fW T n P [21, 7, 6] 0 := e
      have cr := cw_rg ⟨w, hw3⟩
      have cr : 6 ≤ [21, 7, 6].getD w 0 ∧ [21, 7, 6].getD w 0 < 24 := cr
      rw [fW] at e
      refine wX10_cityClause_11 _ _ _ C1.1 ⟨fun z => absurd z (nI_ge (a := w) (b := 3) hw3 (by omega)), fun _ => m_cityWord C1.1 hw3 (fun u eu => ⟨C1.1, m_stood (d := d) C1 (by omega) e1 (by omega) ⟨C1.1, fun z => ?_, fun z => ?_⟩⟩)⟩
      · have c : ¬ mW T n (wS ([21, 7, 6].getD w 0)) P = true := fun c => by rw [eu, if_pos c] at z; exact absurd z (by decide)
        rw [if_neg c] at e
        rw [nI_1]
        exact ih (w + 1) (by omega) e
      · have c : mW T n (wS ([21, 7, 6].getD w 0)) P = true := Decidable.byContradiction (fun c => z (by rw [eu, if_neg c]))
        rw [if_pos c] at e
        rw [← e] at ec
        have hle : P + (wS ([21, 7, 6].getD w 0)).length ≤ n := mW_le c cr.1 cr.2
        refine ⟨fun y => absurd ((nI_eq (a := w) (b := 3) (by omega) (by omega)).mp y) (by omega), fun _ => m_isFull C1.1 H1 hB hk hw3 ⟨C1.1, fun y => ?_, fun y => ?_⟩⟩
        · have yf : fitC k w t = true := Decidable.byContradiction (fun c => by rw [if_neg c] at y; exact absurd y (by decide))
          have ec : clauC T n k p t = wrdC T n w (P + (wS ([21, 7, 6].getD w 0)).length) t := by rw [ec]; exact if_pos yf
          have fe : (k < 40 ∧ ((w = 0 ∧ k = 0) ∨ (¬ w = 0 ∧ ¬ k = 0)) ∧ ¬ (w = 1 ∧ 5 ≤ t.1 2) ∧ ¬ (w = 2 ∧ 6 ≤ t.1 3)) := by unfold fitC at yf; exact decide_eq_true_iff.mp yf
          refine m_cityWord C1.1 hw3 (fun u2 eu2 => ⟨C1.1, by omega, c_len (by omega) ⟨C1.1, ?_⟩⟩)
          have l : strn u2 = (wS ([21, 7, 6].getD w 0)).length := by rw [← eu2]; exact (len_ok ⟨u2.toNat, by omega⟩).1.symm
          rw [e1, l, nI_add]
          have f2 : FrC A25 h1 (setI h1 252 25 (nI (P + (wS ([21, 7, 6].getD w 0)).length))) := FrC.stI ⟨rfl, rfl⟩
          have C2 := C1.f5 f2
          refine m_cityPart (d := d + 1) C2 ⟨(f2.I (by unfold A25; omega)).trans e14, rdI, hle⟩ hw3 (H1.to (fun x k hx => f2.I (by unfold A25; omega))) hB fe.2.2.1 fe.2.2.2 (fun h3 f f3 D3 e3 => ⟨f3.lay C2.1, hF h3 f ((F1.tr (m56c (m5c f2))).tr f3) D3 (ec.trans e3)⟩) (fun h3 p' t' f3 D3 e3 H3 => ⟨f3.lay C2.1, hY h3 p' t' ((F1.tr (m56c (m5c f2))).tr f3) D3 (ec.trans e3) H3⟩)
        · have nf : ¬ fitC k w t = true := fun c => y (by rw [if_pos c])
          have ec : clauC T n k p t = .inl (1 + 8 * P + 4) := by rw [ec]; exact if_neg nf
          refine m_fails (c := 4) C1.1 (fun h2 f2 e2 => ⟨f2.lay C1.1, ?_⟩)
          rw [e14, if_pos rfl] at e2
          exact hF h2 _ (F1.tr (m56c (m6c f2))) ⟨e2, by omega, P, b2, (f2.I (by unfold A26; omega)).trans e1⟩ ec
  exact key 3 0 (by omega) rfl
theorem m_cityLoop {R : Nat ⊕ Tw} {Q : HP → Prop} (hF : ∀ h' f, FrC AMf h0 h' → R = .inl f → (1 ≤ f ∧ f < 10000) → hI h' 252 24 = 0 → hI h' 252 26 = nI f → Q h') (hY : ∀ h' t' k', FrC AMf h0 h' → R = .inr t' → MNw h' t' → TCo (k' + 1) t' → hI h' 252 24 = 0 → hI h' 252 26 = 0 → Q h') : ∀ j k p t h, k + j = 40 → cityC T n j k p t = R → MT0 T n h → FrC AMt h0 h → MCs n h (.inr p) → MNw h t → TCo k t → Sat g mX10_readsAll (d + 7) (0, 0) (qV Q) 83 [.ref 252, .int (nI k), .int 1] [] h := by
  have tof : ∀ h' h'', FrC AMt h0 h' → FrC A256 h' h'' → FrC AMf h0 (setI h'' 252 24 0) := fun h' h'' f1 f2 => ((f1.wd (fun x k w => by unfold AMt at w; unfold AMf; omega)).tr (f2.wd (fun x k w => by unfold A256 at w; unfold AMf; omega))).tr (FrC.stI (by unfold AMf; omega))
  have fin : ∀ (v : Int32) f h' h'', Lay h'' → FrC AMt h0 h' → FrC A256 h' h'' → hI h'' 252 26 = nI f → (1 ≤ f ∧ f < 10000) → R = .inl f → Sat g mX10_readsAll (d + 7) (0, 0) (qV Q) 83 [.ref 252, .int v, .int 0] [] h'' := fun v f h' h'' L f1 f2 e hf eR => wX10_readsAll_83 _ _ L ⟨fun _ => hF _ f (tof h' h'' f1 f2) eR hf rdI (by rw [rdn (by omega)]; exact e), fun z => absurd rfl z⟩
  -- behind a CLAUSE with a FAULT
  have ft : ∀ (v : Int32) f h1, MT0 T n h1 → FrC AMt h0 h1 → MCs n h1 (.inl f) → R = .inl f → CallI g mX10_goesOn (d + 6) [Value.ref 252] h1 (fun i3 h2 => Lay h2 ∧ Sat g mX10_readsAll (d + 7) (0, 0) (qV Q) 83 [Value.ref 252, .int v, .int i3] [] h2) := by
    intro v f h1 C1 F1 D1 eR
    have n4 := C1.2.1
    obtain ⟨e26, hf, p, hp, e25⟩ := D1
    have nz : ¬ hI h1 252 26 = 0 := by rw [e26]; exact nI_ne0 (by omega) (by omega)
    exact m_goesOn (d := d + 4) C1 e25 (by omega) (fun _ h2 f2 => ⟨f2.lay C1.1, fin v f h1 h2 (f2.lay C1.1) F1 (m5c f2) ((f2.I (by unfold A25; omega)).trans e26) hf eR⟩) (fun z => absurd z nz) (fun z => absurd z nz) (fun z => absurd z nz)
  intro j
  induction j with
  | zero =>
    intro k p t h hk eR C F D H hO
    refine wX10_readsAll_83 _ _ C.1 ⟨fun z => absurd z (by decide), fun _ => m_cityClause (d := d) C D H hO.1 (by omega) (fun h1 f f1 D1 e1 => ⟨f1.lay C.1, ft _ f h1 (C.fc f1) (F.tr f1) D1 (by rw [← eR, cityC, e1])⟩) (fun h1 p' t' f1 D1 e1 H1 => ?_)⟩
    have := clau_rg hO D.2.2 e1
    omega
  | succ j ih =>
    intro k p t h hk eR C F D H hO
    refine wX10_readsAll_83 _ _ C.1 ⟨fun z => absurd z (by decide), fun _ => m_cityClause (d := d) C D H hO.1 (by omega) (fun h1 f f1 D1 e1 => ⟨f1.lay C.1, ft _ f h1 (C.fc f1) (F.tr f1) D1 (by rw [← eR, cityC, e1])⟩) (fun h1 p' t' f1 D1 e1 H1 => ⟨f1.lay C.1, ?_⟩)⟩
    have n4 := C.2.1
    have r1 := clau_rg hO D.2.2 e1
    have C1 := C.fc f1
    have F1 := F.tr f1
    have eR' : (if at_ T n (bl T n p') = 1000 then .inr t' else if at_ T n (bl T n p') = 59 then cityC T n j (k + 1) (bl T n p' + 1) t' else .inl (1 + 8 * bl T n p' + 0)) = R := by rw [← eR, cityC, e1]
    obtain ⟨b1, b2, b3⟩ := bl_rg (T := T) r1.2.1
    have hp' := D1.2.2
    refine m_goesOn (d := d + 4) C1 D1.2.1 (by omega) (fun z => absurd D1.1 z) (fun _ aE h2 f2 => ⟨f2.lay C1.1, ?_⟩) (fun _ aS h2 f2 e2 => ⟨f2.lay C1.1, ?_⟩) (fun _ aN aS h2 f2 e2 => ⟨f2.lay C1.1, ?_⟩)
    · rw [if_pos aE] at eR'
      refine wX10_readsAll_83 _ _ (f2.lay C1.1) ⟨fun _ => hY _ t' k (tof h1 h2 F1 (m5c f2)) eR'.symm (H1.to (fun x k hx => by rw [rdn (by omega), f2.I (by unfold A25; omega)])) r1.1 rdI ?_, fun z => absurd rfl z⟩
      rw [rdn (by omega), f2.I (by unfold A25; omega)]; exact D1.1
    · have hl : bl T n p' < n := at_lt (T := T) (by omega)
      rw [if_neg (by omega), if_pos aS] at eR'
      rw [nI_1]
      exact ih (k + 1) (bl T n p' + 1) t' h2 (by omega) eR' (C1.f5 f2) (F1.tr (m56c (m5c f2))) ⟨(f2.I (by unfold A25; omega)).trans D1.1, e2, hl⟩ (H1.to (fun x k hx => f2.I (by unfold A25; omega))) r1.1
    · rw [if_neg aN, if_neg aS] at eR'
      exact fin _ _ h1 h2 (f2.lay C1.1) F1 f2 e2 (by omega) eR'.symm
theorem m_readsAll {Q : HP → Prop} (C : MT0 T n h) (hF : ∀ h' f, FrC AMf h h' → cityC T n 40 0 0 tw0 = .inl f → (1 ≤ f ∧ f < 10000) → hI h' 252 24 = 0 → hI h' 252 26 = nI f → Q h') (hY : ∀ h' t' k', FrC AMf h h' → cityC T n 40 0 0 tw0 = .inr t' → MNw h' t' → TCo (k' + 1) t' → hI h' 252 24 = 0 → hI h' 252 26 = 0 → Q h') : CallV g mX10_readsAll (d + 7) (0, 0) [.ref 252] h Q := by
  have n4 := C.2.1
  have f1 : FrC AMf h (setI (setI (setI (setI (setI h 252 25 0) 252 26 0) 252 29 0) 252 30 0) 252 31 0) := ((((FrC.stI (by unfold AMf; omega)).tr (FrC.stI (by unfold AMf; omega))).tr (FrC.stI (by unfold AMf; omega))).tr (FrC.stI (by unfold AMf; omega))).tr (FrC.stI (by unfold AMf; omega))
  have g24 : hI (setI (setI (setI (setI (setI h 252 25 0) 252 26 0) 252 29 0) 252 30 0) 252 31 0) 252 24 = nI n := C.2.2.1
  have g25 : hI (setI (setI (setI (setI (setI h 252 25 0) 252 26 0) 252 29 0) 252 30 0) 252 31 0) 252 25 = 0 := rfl
  have g26 : hI (setI (setI (setI (setI (setI h 252 25 0) 252 26 0) 252 29 0) 252 30 0) 252 31 0) 252 26 = 0 := rfl
  refine wX10_readsAll_0 C.1 (wX10_starts_0 C.1 ⟨f1.lay C.1, ?_⟩)
  generalize setI (setI (setI (setI (setI h 252 25 0) 252 26 0) 252 29 0) 252 30 0) 252 31 0 = h1 at f1 g24 g25 g26 ⊢
  have go : ∀ h2, FrC AMf h h2 → FrC (fun x _ => 269 ≤ x ∧ x ≤ 275) h1 h2 → (∀ k, k < 4 → hI h2 269 k = 0) → Sat g mX10_readsAll (d + 7) (0, 0) (qV Q) 83 [.ref 252, .int 0, .int 1] [] h2 := by
    intro h2 F2 f2 z2
    have C2 : MT0 T n h2 := ⟨F2.lay C.1, n4, (f2.I (by omega)).trans g24, fun i hi => by rw [F2.I (by unfold AMf; omega)]; exact C.2.2.2.1 i hi, C.2.2.2.2⟩
    refine m_cityLoop (d := d) (h0 := h2) (R := cityC T n 40 0 0 tw0) (fun h' f F e hf e24 e26 => hF h' f (F2.tr F) e hf e24 e26) (fun h' t' k' F e H O e24 e26 => hY h' t' k' (F2.tr F) e H O e24 e26) 40 0 0 tw0 h2 (by omega) rfl C2 (FrC.rf h2) ⟨(f2.I (by omega)).trans g26, (f2.I (by omega)).trans g25, Nat.zero_le _⟩ ⟨fun k hk => z2 k hk, fun j hj => absurd hj (Nat.not_lt_zero _), fun j hj => absurd hj (Nat.not_lt_zero _)⟩ tco0
  have wid : ∀ h2, FrC (fun x _ => 269 ≤ x ∧ x ≤ 275) h1 h2 → FrC AMf h h2 := fun h2 f2 => f1.tr (f2.wd (fun x k w => by unfold AMf; omega))
  have l3 : ∀ j i h2, i + j = 6 → FrC (fun x _ => 269 ≤ x ∧ x ≤ 275) h1 h2 → (∀ k, k < 4 → hI h2 269 k = 0) → Sat g mX10_readsAll (d + 7) (0, 0) (qV Q) 53 [.ref 252, .int (nI i), .double 0] [] h2 := by
    intro j
    induction j with
    | zero =>
      intro i h2 hi f2 z2
      exact wX10_readsAll_53 _ ((wid h2 f2).lay C.1) ⟨fun _ => go h2 (wid h2 f2) f2 z2, fun z => absurd (nI_le (a := 6) (by omega) (by omega)) z⟩
    | succ j ih =>
      intro i h2 hi f2 z2
      refine wX10_readsAll_53 _ ((wid h2 f2).lay C.1) ⟨fun z => absurd z (nI_ge (a := i) (b := 6) (by omega) (by omega)), fun _ => ⟨vn (by omega) (by omega), ?_⟩⟩
      rw [nI_1]
      exact ih (i + 1) _ (by omega) (f2.tr ((FrC.stI (by omega)).tr (FrC.stI (by omega)))) (fun k hk => by rw [rdn (by omega), rdn (by omega)]; exact z2 k hk)
  have l2 : ∀ j i h2, i + j = 5 → FrC (fun x _ => 269 ≤ x ∧ x ≤ 275) h1 h2 → (∀ k, k < 4 → hI h2 269 k = 0) → Sat g mX10_readsAll (d + 7) (0, 0) (qV Q) 26 [.ref 252, .int (nI i), .double 0] [] h2 := by
    intro j
    induction j with
    | zero =>
      intro i h2 hi f2 z2
      exact wX10_readsAll_26 _ ((wid h2 f2).lay C.1) ⟨fun _ => l3 6 0 h2 (by omega) f2 z2, fun z => absurd (nI_le (a := 5) (by omega) (by omega)) z⟩
    | succ j ih =>
      intro i h2 hi f2 z2
      refine wX10_readsAll_26 _ ((wid h2 f2).lay C.1) ⟨fun z => absurd z (nI_ge (a := i) (b := 5) (by omega) (by omega)), fun _ => ⟨vn (by omega) (by omega), ?_⟩⟩
      rw [nI_1]
      exact ih (i + 1) _ (by omega) (f2.tr ((FrC.stI (by omega)).tr (FrC.stI (by omega)))) (fun k hk => by rw [rdn (by omega), rdn (by omega)]; exact z2 k hk)
  have l1 : ∀ j i h2, i + j = 4 → FrC (fun x _ => 269 ≤ x ∧ x ≤ 275) h1 h2 → (∀ k, k < i → hI h2 269 k = 0) → Sat g mX10_readsAll (d + 7) (0, 0) (qV Q) 6 [.ref 252, .int (nI i), .double 0] [] h2 := by
    intro j
    induction j with
    | zero =>
      intro i h2 hi f2 z2
      exact wX10_readsAll_6 _ ((wid h2 f2).lay C.1) ⟨fun _ => l2 5 0 h2 (by omega) f2 (fun k hk => z2 k (by omega)), fun z => absurd (nI_le (a := 4) (by omega) (by omega)) z⟩
    | succ j ih =>
      intro i h2 hi f2 z2
      refine wX10_readsAll_6 _ ((wid h2 f2).lay C.1) ⟨fun z => absurd z (nI_ge (a := i) (b := 4) (by omega) (by omega)), fun _ => ⟨vn (by omega) (by omega), ?_⟩⟩
      rw [nI_1, nI_clamp (n := i) (by omega)]
      refine ih (i + 1) _ (by omega) (f2.tr (FrC.stI (by omega))) (fun k hk => ?_)
      by_cases c : k = i
      · subst c; exact rdI
      · rw [rdn (by omega)]; exact z2 k (by omega)
  exact l1 4 0 h1 (by omega) (FrC.rf h1) (fun k hk => absurd hk (Nat.not_lt_zero _))
theorem m_city0 {Q : Int32 → HP → Prop} (C : MT0 T n h) (hF : ∀ h' f, FrC AMf h h' → hI h' 252 24 = 0 → cityC T n 40 0 0 tw0 = .inl f → (1 ≤ f ∧ f < 10000) → Q (-2 - nI f) h') (hY : ∀ h' t k, FrC AMg h h' → hI h' 252 24 = 0 → cityC T n 40 0 0 tw0 = .inr t → TCo (k + 1) t → TD h' 253 t → MTo h' t → hI h' 253 5 = 0 → hI h' 252 51 = 0 → Q (nI (t.1 2)) h') : CallI g mX10_city (d + 8) [.ref 252] h Q := by
  refine wX10_city_0 C.1 (m_readsAll (d := d) C (fun h1 f f1 E1 hf e24 e26 => ⟨f1.lay C.1, fun w => ?_, fun _ => ?_⟩) (fun h1 t k f1 E1 H1 O1 e24 e26 => ⟨f1.lay C.1, fun _ => ?_, fun w => absurd (by rw [e26]; decide) w⟩))
  · rw [e26] at w; exact absurd w (nI_nle (by omega) (by omega))
  · rw [e26]; exact hF h1 f f1 e24 E1 hf
  · have L1 := f1.lay C.1
    have hB := O1.1
    have hB' := hB
    unfold TB at hB'
    have key : ∀ j i h2, i + j = 4 → FrC (fun x k => x = 253 ∧ k < 4) h1 h2 → (∀ k, k < i → hI h2 253 k = nI (t.1 k)) → Sat g mX10_city (d + 8) (0, 0) (qI Q) 21 [.ref 252, .int (nI i)] [] h2 := by
      intro j
      induction j with
      | zero =>
        intro i h2 hi f2 z2
        have L2 := f2.lay L1
        refine wX10_city_21 _ L2 ⟨fun _ => ?_, fun z => absurd (nI_le (a := 4) (by omega) (by omega)) z⟩
        have f3 : FrC (fun x k => x = 253 ∧ k < 6) h1 (setI h2 253 5 0) := (f2.wd (fun x k w => by omega)).tr (FrC.stI (by omega))
        have g5 : hI (setI h2 253 5 0) 253 5 = 0 := rdI
        have gk : ∀ k, k < 4 → hI (setI h2 253 5 0) 253 k = nI (t.1 k) := fun k hk => by rw [rdn (by omega)]; exact z2 k (by omega)
        generalize setI h2 253 5 0 = h3 at f3 g5 gk ⊢
        have L3 := f3.lay L1
        have H3 : MNw h3 t := H1.to (fun x k hx => f3.I (by omega))
        refine m_copies (a0 := 270) (a1 := 265) (n := 5) L3 (Lk L3 K_270) (Ln L3 N_270) (Lk L3 K_265) (Ln L3 N_265) (by omega) (by omega) (fun h4 f4 c4 => ⟨f4.lay L3, ?_⟩)
        have L4 := f4.lay L3
        refine m_copies (a0 := 271) (a1 := 266) (n := 5) L4 (Lk L4 K_271) (Ln L4 N_271) (Lk L4 K_266) (Ln L4 N_266) (by omega) (by omega) (fun h5 f5 c5 => ⟨f5.lay L4, ?_⟩)
        have L5 := f5.lay L4
        refine m_copies (a0 := 272) (a1 := 267) (n := 5) L5 (Lk L5 K_272) (Ln L5 N_272) (Lk L5 K_267) (Ln L5 N_267) (by omega) (by omega) (fun h6 f6 c6 => ⟨f6.lay L5, ?_⟩)
        have L6 := f6.lay L5
        refine m_copies (a0 := 273) (a1 := 268) (n := 6) L6 (Lk L6 K_273) (Ln L6 N_273) (Lk L6 K_268) (Ln L6 N_268) (by omega) (by omega) (fun h7 f7 c7 => ⟨f7.lay L6, ?_⟩)
        have L7 := f7.lay L6
        refine m_copies (a0 := 274) (a1 := 258) (n := 6) L7 (Lk L7 K_274) (Ln L7 N_274) (Lk L7 K_258) (Ln L7 N_258) (by omega) (by omega) (fun h8 f8 c8 => ⟨f8.lay L7, ?_⟩)
        have L8 := f8.lay L7
        refine m_copies (a0 := 275) (a1 := 259) (n := 6) L8 (Lk L8 K_275) (Ln L8 N_275) (Lk L8 K_259) (Ln L8 N_259) (by omega) (by omega) (fun h9 f9 c9 => ⟨f9.lay L8, ?_⟩)
        have L9 := f9.lay L8
        have fr : FrC (fun x k => (x = 258 ∨ x = 259 ∨ (265 ≤ x ∧ x ≤ 268)) ∧ k < 6) h3 h9 := (((((f4.wd (fun x k w => by omega)).tr (f5.wd (fun x k w => by omega))).tr (f6.wd (fun x k w => by omega))).tr (f7.wd (fun x k w => by omega))).tr (f8.wd (fun x k w => by omega))).tr (f9.wd (fun x k w => by omega))
        have To : MTo h9 t := by
          refine ⟨fun j hj => ?_, fun i hi => ?_⟩
          · have q := H3.2.1 j hj
            refine ⟨?_, ?_, ?_⟩
            · rw [f9.I (by omega), f8.I (by omega), f7.I (by omega), f6.I (by omega), f5.I (by omega), c4 j (by omega)]; exact q.1
            · rw [f9.I (by omega), f8.I (by omega), f7.I (by omega), f6.I (by omega), c5 j (by omega), f4.I (by omega)]; exact q.2.1
            · rw [f9.I (by omega), f8.I (by omega), f7.I (by omega), c6 j (by omega), f5.I (by omega), f4.I (by omega)]; exact q.2.2
          · rw [f9.I (by omega), f8.I (by omega), c7 i (by omega), f6.I (by omega), f5.I (by omega), f4.I (by omega)]; exact (H3.2.2 i hi).1
        have bw : ∀ i, i < t.1 3 → hI h9 258 i = t.2 5 i ∧ hI h9 259 i = t.2 6 i ∧ t.2 7 i = -1 ∧ t.2 8 i = 0 := fun i hi => by
          have q := H3.2.2 i hi
          have q2 := O1.2.2.2.2.2 i hi
          refine ⟨?_, ?_, q2.2.2.2.1, q2.2.2.2.2⟩
          · rw [f9.I (by omega), c8 i (by omega), f7.I (by omega), f6.I (by omega), f5.I (by omega), f4.I (by omega)]; exact q.2.1
          · rw [c9 i (by omega), f8.I (by omega), f7.I (by omega), f6.I (by omega), f5.I (by omega), f4.I (by omega)]; exact q.2.2
        refine m_begins (d := d + 6) L9 hB O1.2.1 (fun k hk => by rw [fr.I (by omega)]; exact gk k hk) To bw (fun h10 f10 T10 => ⟨f10.lay L9, ?_⟩)
        have f11 : FrC (fun x k => x = 252 ∧ k = 51) h10 (setI h10 252 51 0) := FrC.stI ⟨rfl, rfl⟩
        rw [T10.2.1 2 (by omega)]
        have F11 : FrC AMg h (setI h10 252 51 0) := ((((f1.wd (B := AMg) (fun x k w => Or.inl w)).tr (f3.wd (fun x k w => by unfold AMg; omega))).tr (fr.wd (fun x k w => by unfold AMg; omega))).tr (f10.wd (fun x k w => by unfold AB at w; unfold AMg; omega))).tr (f11.wd (fun x k w => by unfold AMg; omega))
        refine hY _ t k F11 ?_ E1 O1 (T10.to (fun k hk => f11.I (by omega)) (fun r j h1 h2 => f11.I (by omega))) ?_ ?_ rdI
        · rw [f11.I (by omega), f10.I (by unfold AB; omega), fr.I (by omega), f3.I (by omega)]; exact e24
        · exact To.to (fun x k hx => by rw [f11.I (by omega), f10.I (by unfold AB; omega)])
        · rw [f11.I (by omega), f10.I (by unfold AB; omega), fr.I (by omega)]; exact g5
      | succ j ih =>
        intro i h2 hi f2 z2
        refine wX10_city_21 _ (f2.lay L1) ⟨fun z => absurd z (nI_ge (a := i) (b := 4) (by omega) (by omega)), fun _ => ⟨vn (by omega) (by omega), vn (by omega) (by omega), ?_⟩⟩
        rw [nI_1, nI_clamp (n := i) (by omega)]
        refine ih (i + 1) _ (by omega) (f2.tr (FrC.stI (by omega))) (fun k hk => ?_)
        by_cases c : k = i
        · subst c; rw [rdI, f2.I (by omega)]; exact H1.1 k (by omega)
        · rw [rdn (by omega)]; exact z2 k (by omega)
    exact key 4 0 h1 (by omega) (FrC.rf h1) (fun k hk => absurd hk (Nat.not_lt_zero _))
end MC2
