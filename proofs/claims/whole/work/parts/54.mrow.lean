/-! the best row of beds, of the reference -/
theorem runT_ok {ρ : Option Rl} {q : Nat} : ∀ m {t : Tw} {D : Nat → Nat}, TB t → TR t → t.1 4 + m ≤ 5000 → TB (runT ρ q m t D) ∧ TR (runT ρ q m t D) ∧ (runT ρ q m t D).1 3 = t.1 3
  | 0, t, D, hB, hR, _ => ⟨hB, hR, rfl⟩
  | m + 1, t, D, hB, hR, h4 => by
    have := runT_ok (ρ := ρ) (q := q) m (D := fun i => D (i + 1)) (hB.night (ρ := ρ) (hd := hd1 q (pl (D 0))) (by omega)) (hR.night hB) (by rw [night_1, if_pos rfl]; omega)
    rw [night_1 _ _ _ 3, if_neg (by decide)] at this
    exact this
theorem held_li {ρ : Option Rl} {q : Nat} {t : Tw} {y : Int32} (hq : q < t.1 3) : heldOK t ρ (hd1 q y) (t.1 3) ↔ liB ρ q t y = true := by
  unfold liB
  rw [decide_eq_true_iff, night_o _ _ _ _ (by omega)]
  show _ ↔ (lieS t ρ (hd1 q y) (t.1 3)).1 q = y
  constructor
  · intro e
    exact e q hq y (by unfold hd1; rw [if_pos rfl])
  · intro e q' hq' y' he
    unfold hd1 at he
    by_cases c : q' = q
    · subst c
      rw [if_pos rfl] at he
      cases he
      exact e
    · rw [if_neg c] at he
      cases he
def lvB (b : Bs) : Int32 := match b with
  | none => 100000
  | some (y, _) => y
def MBs (h : HP) (n : Nat) (b : Bs) : Prop := ∀ y s, b = some (y, s) → ∀ i, i < n → hI h 293 i = s i
theorem bOk_none : bOk none := fun _ _ e => by cases e
theorem MBs_none {h : HP} {n : Nat} : MBs h n none := fun _ _ e => by cases e
section MRW
variable {g : GT} {d : Nat} {h h0 : HP} {t : Tw} {ρ : Option Rl} {q n : Nat}
theorem m_codesOf {Q : Int32 → HP → Prop} (L : Lay h) (T : TD h 253 t) (hn : n ≤ 6) (hQ : Q (nI ((t.1 2 + 1) ^ n)) h) : CallI g mX10_codesOf d [.ref 252, .int (nI n)] h Q := by
  have hB := T.1
  unfold TB at hB
  refine wX10_codesOf_0 _ L ?_
  refine loopN (σ := Unit) (P := fun i _ h' => Sat g mX10_codesOf d (0, 0) (qI Q) 4 [.ref 252, .int (nI n), .int (nI ((t.1 2 + 1) ^ i)), .int (nI i)] [] h') (I := fun i _ h' => h' = h) n (fun _ h' e => ?_) (fun i _ h' hi e ih => ?_) 0 () h (by omega) rfl
  · subst e
    exact wX10_codesOf_4 _ _ _ L ⟨fun _ => hQ, fun c => absurd (nI_le (Nat.le_refl _) (by omega)) c⟩
  · subst e
    refine wX10_codesOf_4 _ _ _ L ⟨fun c => absurd c (nI_ge hi (by omega)), fun _ => ?_⟩
    rw [mS T 2 (by omega), nI_1, nI_1, pk_mul, ← Nat.pow_succ]
    exact ih () h' rfl
theorem m_placeOf {code dv : Nat} {Q : Int32 → HP → Prop} (L : Lay h) (T : TD h 253 t) (h1 : 0 < dv) (h2 : dv < 2 ^ 31) (h3 : code < 2 ^ 31) (hQ : Q (pl (code / dv % (t.1 2 + 1))) h) : CallI g mX10_placeOf d [.ref 252, .int (nI code), .int (nI dv)] h Q := by
  have hB := T.1
  unfold TB at hB
  refine wX10_placeOf_0 _ _ L ?_
  have : code / dv < 2 ^ 31 := Nat.lt_of_le_of_lt (Nat.div_le_self _ _) h3
  rw [mS T 2 (by omega), nI_1, pk_div h3 h1 h2, pk_rem this (by omega) (by omega)]
  exact ⟨nI_ne0 h1 h2, nI_ne0 (by omega) (by omega), hQ⟩
theorem m_copies {a0 a1 n : Nat} {Q : HP → Prop} (L : Lay h) (k0 : hK h a0 = 21) (n0 : hN h a0 = n) (k1 : hK h a1 = 21) (n1 : hN h a1 = n) (hne : ¬ a0 = a1) (hn : n ≤ 6000) (hQ : ∀ h', FrC (fun x k => x = a1 ∧ k < n) h h' → (∀ j, j < n → hI h' a1 j = hI h a0 j) → Q h') : CallV g mX10_copies d (0, 0) [.ref a0, .ref a1] h Q := by
  refine wX10_copies_0 _ _ L ?_
  refine loopN (σ := Unit) (P := fun i _ h' => Sat g mX10_copies d (0, 0) (qV Q) 2 [.ref a0, .ref a1, .int (nI i)] [] h') (I := fun i _ h' => FrC (fun x k => x = a1 ∧ k < n) h h' ∧ ∀ j, j < i → hI h' a1 j = hI h a0 j) n (fun _ h' e => ?_) (fun i _ h' hi e ih => ?_) 0 () h (by omega) ⟨FrC.rf h, fun j hj => by omega⟩
  · refine wX10_copies_2 _ _ _ (e.1.lay L) ⟨by rw [e.1.K]; exact k0, ?_⟩
    rw [e.1.N, n0]
    exact ⟨fun _ => hQ h' e.1 e.2, fun c => absurd (nI_le (Nat.le_refl _) (by omega)) c⟩
  · refine wX10_copies_2 _ _ _ (e.1.lay L) ⟨by rw [e.1.K]; exact k0, ?_⟩
    rw [e.1.N, e.1.K, n0, n1, nI_clamp (n := i) (by omega), nI_1]
    refine ⟨fun c => absurd c (nI_ge hi (by omega)), fun _ => ⟨vn hi (by omega), k1, vn hi (by omega), ih () _ ⟨e.1.tr (FrC.stI ⟨rfl, hi⟩), fun j hj => ?_⟩⟩⟩
    by_cases c : j = i
    · subst c; rw [rdI]; exact e.1.I (fun z => hne z.1)
    · rw [rdn (by omega)]; exact e.2 j (by omega)
theorem m_farByRow {code : Nat} {Q : Int32 → HP → Prop} (W : MW h0 ρ t h) (F : MF h) (O : MZ h0 ρ t) (c : ¬ t.1 0 = 0) (hq : q < t.1 3) (hn : n ≤ 4) (hb : t.1 4 ≤ 2000) (hc : code < (t.1 2 + 1) ^ n) (hQ : ∀ h', MW h0 ρ t h' → RM h0 h' → (∀ i, i < n → hI h' 292 i = pl (dg (t.1 2 + 1) n code i)) → (∀ i, hI h' 293 i = hI h 293 i) → Q (if runO ρ q n t (dg (t.1 2 + 1) n code) = true then farT (runT ρ q n t (dg (t.1 2 + 1) n code)) q else 100000) h') : CallI g mX10_farByRow (d + 8) [.ref 252, .int (nI q), .int (nI n), .int (nI code)] h Q := by
  have hB := O.2.1.1
  unfold TB at hB
  have R0 := O.2.2.1
  have hpw : ∀ i, i ≤ 4 → (t.1 2 + 1) ^ i ≤ 1296 := fun i hi => Nat.le_trans (Nat.pow_le_pow_right (by omega) hi) (Nat.le_trans (Nat.pow_le_pow_left (show t.1 2 + 1 ≤ 6 by omega) 4) (by decide))
  have hp1 : ∀ i, 0 < (t.1 2 + 1) ^ i := fun i => Nat.pow_pos (by omega)
  have hcn := hpw n hn
  refine wX10_farByRow_0 _ _ _ W.1 (m_codesOf W.1 W.2.2.2.1 (by omega) ⟨W.1, ?_⟩)
  generalize hD : dg (t.1 2 + 1) n code = D at *
  have f1 : FrC (fun x k => x = 252 ∧ k = 48) h (setI h 252 48 1) := FrC.stI ⟨rfl, rfl⟩
  have W1 := W.set f1 (fun x k hx => by unfold AU AF AT; omega) (W.2.2.2.1.to (fun k hk => f1.I (by omega)) (fun r j _ _ => f1.I (by omega))) W.2.2.2.2.1 c
  refine loopN (σ := Tw × Bool) (P := fun i _ h' => Sat g mX10_farByRow (d + 8) (0, 0) (qI Q) 15 [.ref 252, .int (nI q), .int (nI n), .int (nI code), .int (nI ((t.1 2 + 1) ^ (n - i))), .int (nI i)] [] h') (I := fun i s h' => MW h0 ρ s.1 h' ∧ s.1.1 2 = t.1 2 ∧ s.1.1 3 = t.1 3 ∧ s.1.1 4 = t.1 4 + i ∧ runT ρ q n t D = runT ρ q (n - i) s.1 (fun j => D (i + j)) ∧ runO ρ q n t D = (s.2 && runO ρ q (n - i) s.1 (fun j => D (i + j))) ∧ (hI h' 252 48 = 0 ↔ s.2 = false) ∧ (∀ x, x < 6 → ¬ x = q → hI h' 286 x = -5) ∧ (∀ j, j < i → hI h' 292 j = pl (D j)) ∧ ∀ j, hI h' 293 j = hI h 293 j) n (fun s h' e => ?_) (fun i s h' hi e ih => ?_) 0 (t, true) _ (by omega) ⟨W1, rfl, rfl, rfl, ?_, ?_, ?_, fun x hx _ => (f1.I (by omega)).trans (F x hx), fun j hj => by omega, fun j => f1.I (by omega)⟩
  · obtain ⟨W', e2, e3, e4, eT, eO, eh, mu, tr, e93⟩ := e
    rw [Nat.sub_self] at eT eO
    have eT : runT ρ q n t D = s.1 := eT
    have eO : runO ρ q n t D = s.2 := by rw [eO, runO, Bool.and_true]
    refine wX10_farByRow_15 _ _ _ _ _ W'.1 ⟨fun _ => m_freesAll W'.1 (fun h2 f2 F2 => ?_), fun z => absurd (nI_le (Nat.le_refl _) (by omega)) z⟩
    have T2 : TD h2 253 s.1 := W'.2.2.2.1.to (fun k hk => f2.I (by omega)) (fun r j _ _ => f2.I (by omega))
    have W2 := W'.set f2 (fun x k hx => by unfold AU AF AT; omega) T2 W'.2.2.2.2.1 W'.2.2.2.2.2.2
    have fin : ∀ x, x = (if runO ρ q n t D = true then farT (runT ρ q n t D) q else 100000) → CallV g mX10_laysBack (d + 7) (0, 0) [.ref 252] h2 (fun h' => Lay h' ∧ Q x h') := fun x hx => m_backW W2 O c (fun h3 W3 f3 e3 e4 => ⟨W3.1, by
      rw [hx]
      refine hQ h3 W3 ⟨f3, fun q hq => (e3 q).trans (F2 q hq)⟩ (fun i hi => ?_) (fun i => ?_)
      · rw [e4 _ _ (by decide) (by decide), f2.I (by omega)]; exact tr i hi
      · rw [e4 _ _ (by decide) (by decide), f2.I (by omega)]; exact e93 i⟩)
    rw [f2.I (by omega)]
    refine ⟨W2.1, fun z => fin _ ?_, fun z => m_farOf W2.1 T2 W2.2.2.2.2.1 (by rw [e3]; exact hq) ⟨W2.1, fin _ ?_⟩⟩
    · rw [eO, eh.mp z]; rfl
    · have : s.2 = true := by
        cases hs : s.2 with
        | true => rfl
        | false => exact absurd (eh.mpr hs) z
      rw [eO, this, if_pos rfl, eT]
  · obtain ⟨W', e2, e3, e4, eT, eO, eh, mu, tr, e93⟩ := e
    have T' := W'.2.2.2.1
    refine wX10_farByRow_15 _ _ _ _ _ W'.1 ?_
    rw [mS T' 2 (by omega), e2, nI_1, nI_1, pk_div (Nat.lt_of_le_of_lt (hpw (n - i) (by omega)) (by decide)) (by omega) (by omega), show (t.1 2 + 1) ^ (n - i) / (t.1 2 + 1) = (t.1 2 + 1) ^ (n - (i + 1)) by rw [show n - i = (n - (i + 1)) + 1 by omega, Nat.pow_succ, Nat.mul_div_cancel _ (by omega)]]
    refine ⟨fun z => absurd z (nI_ge hi (by omega)), fun _ => ⟨nI_ne0 (by omega) (by omega), m_placeOf W'.1 T' (hp1 _) (Nat.lt_of_le_of_lt (hpw (n - (i + 1)) (by omega)) (by decide)) (by omega) ?_⟩⟩
    rw [e2, show code / (t.1 2 + 1) ^ (n - (i + 1)) % (t.1 2 + 1) = D i by rw [← hD]; unfold dg; rw [show n - (i + 1) = n - 1 - i by omega], nI_clamp (n := q) (by omega), nI_clamp (n := i) (by omega), rdI]
    refine ⟨W'.1, vn (by omega) (by omega), vn (by omega) (by omega), ?_⟩
    have hDi : D i < t.1 2 + 1 := by rw [← hD]; exact Nat.mod_lt _ (by omega)
    have f2 : FrC (fun x k => x = 286 ∧ k = q ∨ x = 292 ∧ k = i) h' (setI (setI h' 286 q (pl (D i))) 292 i (pl (D i))) := (FrC.stI (by omega)).tr (FrC.stI (by omega))
    have v1 : hI (setI (setI h' 286 q (pl (D i))) 292 i (pl (D i))) 286 q = pl (D i) := (rdn (by omega)).trans rdI
    have v2 : hI (setI (setI h' 286 q (pl (D i))) 292 i (pl (D i))) 292 i = pl (D i) := rdI
    generalize setI (setI h' 286 q (pl (D i))) 292 i (pl (D i)) = h2 at *
    have T2 : TD h2 253 s.1 := T'.to (fun k hk => f2.I (by omega)) (fun r j _ _ => f2.I (by omega))
    have W2 := W'.set f2 (fun x k hx => by unfold AU AF AT; omega) T2 W'.2.2.2.2.1 W'.2.2.2.2.2.2
    have M2 : MuIs h2 s.1 (hd1 q (pl (D i))) := fun x hx => by
      unfold hd1
      by_cases z : x = q
      · subst z
        rw [v1, if_pos rfl]
        refine Or.inr ⟨pl_ne5 (by omega), rfl, ?_⟩
        rcases pl_cases (D i) with ⟨y, -⟩ | ⟨j, y1, y2⟩
        · exact Or.inl y
        · exact Or.inr ⟨j, by omega, y2⟩
      · rw [if_neg z]
        exact Or.inl ⟨(f2.I (by omega)).trans (mu x (by omega) z), rfl⟩
    refine m_goesW W2 M2 (by omega) (fun h3 W3 f3 e3' => ⟨W3.1, ih (nightT s.1 ρ (hd1 q (pl (D i))), s.2 && liB ρ q s.1 (pl (D i))) h3 ⟨W3, ?_, ?_, ?_, ?_, ?_, ?_, ?_, ?_, ?_⟩⟩)
    · show (nightT s.1 ρ (hd1 q (pl (D i)))).1 2 = _
      rw [night_1, if_neg (by decide)]; exact e2
    · show (nightT s.1 ρ (hd1 q (pl (D i)))).1 3 = _
      rw [night_1, if_neg (by decide)]; exact e3
    · show (nightT s.1 ρ (hd1 q (pl (D i)))).1 4 = _
      rw [night_1, if_pos rfl, e4]; omega
    · rw [eT, show n - i = (n - (i + 1)) + 1 by omega, runT]
      show runT ρ q (n - (i + 1)) (nightT s.1 ρ (hd1 q (pl (D (i + 0))))) (fun j => D (i + (j + 1))) = _
      rw [Nat.add_zero]
      exact runT_congr _ (fun j _ => by rw [show i + (j + 1) = i + 1 + j by omega])
    · rw [eO, show n - i = (n - (i + 1)) + 1 by omega, runO]
      show (s.2 && (liB ρ q s.1 (pl (D (i + 0))) && runO ρ q (n - (i + 1)) (nightT s.1 ρ (hd1 q (pl (D (i + 0))))) (fun j => D (i + (j + 1))))) = _
      rw [Nat.add_zero, ← Bool.and_assoc]
      rw [runO_congr (n - (i + 1)) (D' := fun j => D (i + 1 + j)) (fun j _ => by rw [show i + (j + 1) = i + 1 + j by omega])]
    · rw [e3', held_li (by omega), f2.I (by omega), eh]
      show _ ↔ (s.2 && liB ρ q s.1 (pl (D i))) = false
      cases s.2 <;> cases liB ρ q s.1 (pl (D i)) <;> simp
    · intro x hx z
      rw [f3.I (by unfold AG; omega), f2.I (by omega)]; exact mu x hx z
    · intro j hj
      rw [f3.I (by unfold AG; omega)]
      by_cases z : j = i
      · subst z; exact v2
      · rw [f2.I (by omega)]; exact tr j (by omega)
    · intro j
      rw [f3.I (by unfold AG; omega), f2.I (by omega)]; exact e93 j
  · show runT ρ q n t D = runT ρ q (n - 0) t (fun j => D (0 + j))
    rw [Nat.sub_zero]
    exact runT_congr _ (fun j _ => by rw [Nat.zero_add])
  · show runO ρ q n t D = (true && runO ρ q (n - 0) t (fun j => D (0 + j)))
    rw [Nat.sub_zero, Bool.true_and]
    exact runO_congr _ (fun j _ => by rw [Nat.zero_add])
  · show hI (setI h 252 48 1) 252 48 = 0 ↔ true = false
    rw [rdI]; decide
theorem m_row {q n w : Int32} {Q : Int32 → HP → Prop} (O : MZ h ρ t) (hb : t.1 4 ≤ 2000) (hQ : ∀ h', RM h h' → Q (aRow ρ t q n w) h') : CallI g mX10_row (d + 9) [.ref 252, .int q, .int n, .int w] h Q := by
  have no : ¬ (IX q (t.1 3) ∧ IN n 1 4 ∧ IN w 0 4) → Q (-3) h := fun c => by
    have := hQ h (RM.rf O.2.2.2.2)
    unfold aRow at this
    rwa [if_neg c] at this
  have hB := O.2.1.1
  have R0 := O.2.2.1
  unfold TB at hB
  have L := O.1
  refine wX10_row_0 _ _ _ L (m_isLodger L O.2.1 (fun q hq eq => ⟨L, fun z => absurd z (by decide), fun _ => m_in L (a := 1) (b := 4) rfl rfl (by decide) (by decide) (fun n k1 k2 ek => ⟨L, fun z => absurd z (by decide), fun _ => m_in L (a := 0) (b := 4) rfl rfl (by decide) (by decide) (fun v v1 v2 ev => ⟨L, fun z => absurd z (by decide), fun _ => ?_⟩) (fun z => ⟨L, fun _ => no (fun y => z y.2.2), fun z => absurd rfl z⟩)⟩) (fun z => ⟨L, fun _ => no (fun y => z y.2.1), fun z => absurd rfl z⟩)⟩) (fun z => ⟨L, fun _ => no (fun y => IX_no z y.1), fun z => absurd rfl z⟩))
  subst eq ek ev
  have c : ¬ t.1 0 = 0 := fun z => by have := (O.2.2.1.1 z).2; omega
  have cc : IX (nI q) (t.1 3) ∧ IN (nI n) 1 4 ∧ IN (nI v) 0 4 := ⟨IX_j hq (by omega), IN_j k1 k2 (by decide), IN_j v1 v2 (by decide)⟩
  have hpw : (t.1 2 + 1) ^ n ≤ 1296 := Nat.le_trans (Nat.pow_le_pow_right (by omega) k2) (Nat.le_trans (Nat.pow_le_pow_left (show t.1 2 + 1 ≤ 6 by omega) 4) (by decide))
  refine m_keepW O c (fun h1 W1 F1 r1 => ⟨W1.1, ?_⟩)
  refine loopN (σ := Unit) (P := fun i _ h' => Sat g mX10_row (d + 9) (0, 0) (qI Q) 47 [.ref 252, .int (nI q), .int (nI n), .int (nI v), .int (lvB (foldC (cdF ρ q n t 0 (fun _ => 0) (t.1 2 + 1)) i none)), .int (nI i), .double 0] [] h') (I := fun i _ h' => MW h ρ t h' ∧ RM h h' ∧ bOk (foldC (cdF ρ q n t 0 (fun _ => 0) (t.1 2 + 1)) i none) ∧ MBs h' n (foldC (cdF ρ q n t 0 (fun _ => 0) (t.1 2 + 1)) i none)) ((t.1 2 + 1) ^ n) (fun _ h' e => ?_) (fun i _ h' hi e ih => ?_) 0 () h1 (by omega) ⟨W1, r1, bOk_none, MBs_none⟩
  · obtain ⟨W, r, ok, mb⟩ := e
    refine wX10_row_47 _ _ _ _ _ W.1 (m_codesOf W.1 W.2.2.2.1 (by omega) ⟨W.1, fun _ => ?_, fun z => absurd (nI_le (Nat.le_refl _) (by omega)) z⟩)
    have yes := hQ h' r
    unfold aRow at yes
    rw [if_pos cc, nI_clamp (n := q) (by omega), nI_clamp (n := n) (by omega), nI_clamp (n := v) (by omega)] at yes
    rw [row_cd] at mb ⊢
    have ns := rowD_some (ρ := ρ) (q := q) n (t := t) (dp := 0) (tr := fun _ => 0) (b := none) hq
    unfold roB at yes
    generalize rowD ρ q n t 0 (fun _ => 0) none = B at *
    cases B with
    | none => exact absurd rfl ns
    | some p =>
      obtain ⟨y, s⟩ := p
      have mb := mb y s rfl
      refine ⟨fun z => ?_, fun z => ⟨fun z2 => ?_, fun z2 => ?_⟩⟩
      · have z1 : v = 0 := (nI_eq (by omega) (by omega)).mp z
        subst z1
        rw [if_pos (nI_le (by omega) (by omega))] at yes
        exact yes
      · rw [if_neg (Int32.not_le.mpr z2)] at yes
        exact yes
      · have z1 : ¬ v = 0 := fun e => z (by rw [e]; rfl)
        have hvn : v ≤ n := (nI_leI (by omega) (by omega)).mp (Int32.not_lt.mp z2)
        obtain ⟨u, rfl⟩ : ∃ u, v = u + 1 := ⟨v - 1, by omega⟩
        rw [nI_pred u, nI_clamp (n := u) (by omega), mb u (by omega)]
        rw [if_pos (Int32.not_lt.mp z2)] at yes
        exact ⟨vn (by omega) (by omega), yes⟩
  · obtain ⟨W, r, ok, mb⟩ := e
    have ih := ih ()
    have efc : foldC (cdF ρ q n t 0 (fun _ => 0) (t.1 2 + 1)) (i + 1) none = cdF ρ q n t 0 (fun _ => 0) (t.1 2 + 1) i (foldC (cdF ρ q n t 0 (fun _ => 0) (t.1 2 + 1)) i none) := rfl
    rw [efc] at ih
    clear efc
    generalize foldC (cdF ρ q n t 0 (fun _ => 0) (t.1 2 + 1)) i none = b at *
    refine wX10_row_47 _ _ _ _ _ W.1 (m_codesOf W.1 W.2.2.2.1 (by omega) ⟨W.1, fun z => absurd z (nI_ge hi (by omega)), fun _ => ?_⟩)
    refine m_farByRow W r.2 O c hq k2 hb hi (fun h2 W2 r2 e92 e93 => ⟨W2.1, ?_⟩)
    rw [nI_1]
    unfold cdF at ih
    have hlv : ∃ m, m ≤ 100000 ∧ lvB b = nI m := by
      cases b with
      | none => exact ⟨100000, by omega, rfl⟩
      | some p =>
        obtain ⟨m, h1, h2⟩ := ok p.1 p.2 rfl
        exact ⟨m, by omega, h2⟩
    have mb2 : MBs h2 n b := fun y s e j hj => (e93 j).trans (mb y s e j hj)
    by_cases co : runO ρ q n t (dg (t.1 2 + 1) n i) = true
    · rw [if_pos co] at ih ⊢
      obtain ⟨g1, g2, g3⟩ := runT_ok (ρ := ρ) (q := q) n (D := dg (t.1 2 + 1) n i) O.2.1.1 R0 (by omega)
      obtain ⟨m, hm, em⟩ := far_rg g2 (i := q) (by rw [g3]; exact hq)
      have ok' := stB_ok (r := mg (fun _ => 0) 0 n (dg (t.1 2 + 1) n i)) ok ⟨m, by omega, em⟩
      generalize farT (runT ρ q n t (dg (t.1 2 + 1) n i)) q = x at *
      have emg : ∀ j, j < n → mg (fun _ => 0) 0 n (dg (t.1 2 + 1) n i) j = pl (dg (t.1 2 + 1) n i j) := fun j hj => by
        unfold mg; rw [if_pos (by omega), Nat.sub_zero]
      generalize mg (fun _ => 0) 0 n (dg (t.1 2 + 1) n i) = s2 at *
      refine ⟨fun z => ?_, fun z => ?_⟩
      · have est : stB b x s2 = b := by
          cases b with
          | none => rw [em] at z; exact absurd z (nI_ge (a := m) (b := 100000) (by omega) (by omega))
          | some p => unfold stB; exact if_neg (Int32.not_lt.mpr z)
        rw [est] at ih
        exact ih h2 ⟨W2, r2, ok, mb2⟩
      · have est : stB b x s2 = some (x, s2) := by
          cases b with
          | none => rfl
          | some p => unfold stB; exact if_pos (Int32.not_le.mp z)
        rw [est] at ih ok'
        refine m_copies (n := 6) W2.1 (Lk W2.1 K_292) (Ln W2.1 N_292) (Lk W2.1 K_293) (Ln W2.1 N_293) (by decide) (by decide) (fun h3 f3 e3 => ⟨f3.lay W2.1, ih h3 ⟨?_, ⟨r2.1.tr (f3.wd (fun x k hx => by unfold AF; omega)), fun x hx => (f3.I (by omega)).trans (r2.2 x hx)⟩, ok', fun y s e j hj => ?_⟩⟩)
        · exact W2.set f3 (fun x k hx => by unfold AU AF AT; omega) (W2.2.2.2.1.to (fun k hk => f3.I (by omega)) (fun r j _ _ => f3.I (by omega))) W2.2.2.2.2.1 c
        · cases e
          rw [e3 j (by omega), e92 j hj, emg j hj]
    · rw [if_neg co] at ih ⊢
      obtain ⟨m, hm, em⟩ := hlv
      exact ⟨fun _ => ih h2 ⟨W2, r2, ok, mb2⟩, fun z => absurd (by rw [em]; exact nI_le (a := m) (b := 100000) (by omega) (by omega)) z⟩
end MRW
