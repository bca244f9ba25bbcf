/-! what the class answers that looks ahead -/
def CFo (h : HP) (ρ : Option Rl) : Prop := ∃ c, c ≤ 6 ∧ hI h 0 3 = nI c ∧ ((hI h 3 7 = -1 ∧ ρ = none) ∨ ∃ r P, r < c ∧ hI h 3 7 = nI r ∧ CRule h (126 + 5 * r) P ∧ ρ = some (evalR P))
def CZ (h : HP) (ρ : Option Rl) (t : Tw) : Prop := Lay h ∧ TownIs h 4 t ∧ TR t ∧ CFo h ρ
def RC (h h' : HP) : Prop := Fr (fun x => 40 ≤ x ∧ x < 126) h h'
theorem RC.rf {h : HP} : RC h h := Fr.rf h
theorem rg_of {x lo hi : Int32} {a b : Nat} (ha : lo = nI a) (hb : hi = nI b) (hab : a ≤ b) (hb2 : b < 2 ^ 31) (h1 : ¬ x < lo) (h2 : ¬ hi < x) : ∃ j, a ≤ j ∧ j ≤ b ∧ x = nI j := by
  subst ha hb
  rcases pk_rg x hab hb2 with c | c | c
  · exact absurd c h1
  · exact absurd c h2
  · exact c
section CP1
variable {g : GT} {d : Nat} {h : HP} {t : Tw} {ρ : Option Rl}
theorem c_stand {Q : Int32 → HP → Prop} (hT : TownIs h 4 t) (hy : ¬ t.1 0 = 0 → Q 1 h) (hn : t.1 0 = 0 → Q 0 h) : CallI g mX8_stands d [.ref 4] h Q := by
  refine c_stands hT ?_
  by_cases c : t.1 0 = 0
  · rw [if_pos c]; exact hn c
  · rw [if_neg c]; exact hy c
theorem c_ruleInForce {Q0 : HP → Prop} {Q : Nat → HP → Prop} (L : Lay h) (F : CFo h ρ) (h0 : CRho h none ρ → Q0 h) (h1 : ∀ y, CRho h (some y) ρ → Q y h) : CallO g mX9_ruleInForce d [.ref 0] h Q0 Q := by
  obtain ⟨c, hc, ec, ⟨e7, er⟩ | ⟨r, P, hr, e7, cr, er⟩⟩ := F
  · refine wX9_ruleInForce_0 L ?_
    rw [e7]
    exact ⟨fun _ => h0 (Or.inl ⟨rfl, er⟩), fun q => absurd (by decide) q⟩
  · refine wX9_ruleInForce_0 L ?_
    rw [e7, ec, nI_clamp (by omega)]
    exact ⟨fun q => absurd q (nI_pos (by omega)), fun _ => ⟨fun q => absurd q (nI_ge hr (by omega)), fun _ => ⟨vn (by omega) (by omega), _, Lrl L (by omega), h1 _ (Or.inr ⟨r, P, by omega, rfl, cr, er⟩)⟩⟩⟩
theorem told3 {h' : HP} {v : Nat} {Q : Int32 → HP → Prop} {x y z : Int32} (L : Lay h') (hv : v ≤ 2) (e0 : hI h' 57 0 = x) (e1 : hI h' 57 1 = y) (e2 : v = 2 → hI h' 57 2 = z) (hQ : Q (if nI v = 0 then x else if nI v = 1 then y else z) h') : CallI g mX1_told d [.ref 46, .int (nI v)] h' Q := by
  refine c_told1 L (by omega) ?_
  rcases (show v = 0 ∨ v = 1 ∨ v = 2 by omega) with rfl | rfl | rfl
  · rw [e0]; exact hQ
  · rw [e1]; exact hQ
  · rw [e2 rfl]; exact hQ
theorem told2 {h' : HP} {v : Nat} {Q : Int32 → HP → Prop} {x y : Int32} (L : Lay h') (hv : v ≤ 1) (e0 : hI h' 57 0 = x) (e1 : hI h' 57 1 = y) (hQ : Q (if nI v = 0 then x else y) h') : CallI g mX1_told d [.ref 46, .int (nI v)] h' Q := by
  refine told3 (z := y) L (by omega) e0 e1 (by omega) ?_
  rw [ite_self]
  exact hQ
theorem c_turned {n w : Int32} {Q : Int32 → HP → Prop} (C : CZ h ρ t) (hb : t.1 4 ≤ 2000) (hQ : ∀ h', RC h h' → Q (aTurned ρ t n w) h') : CallI g mX9_turned (d + 7) [.ref 0, .int n, .int w] h Q := by
  obtain ⟨L, hT, R, F⟩ := C
  have no : ¬ (¬ t.1 0 = 0 ∧ IN n 1 60 ∧ IN w 0 1) → Q (-2) h := fun c => by
    have := hQ h RC.rf
    unfold aTurned at this
    rwa [if_neg c] at this
  refine wX9_turned_0 _ _ L (c_stand hT (fun c => ⟨L, fun q => absurd q (by decide), fun _ => ⟨fun q => no (fun y => IN_lt (b := 60) (by decide) q y.2.1), fun q1 => ⟨fun q => no (fun y => IN_gt (a := 1) (by decide) q y.2.1), fun q2 => ⟨fun q => no (fun y => IN_lt (b := 1) (by decide) q y.2.2), fun q3 => ⟨fun q4 => ?_, fun q => no (fun y => IN_gt (a := 0) (by decide) (Int32.not_le.mp q) y.2.2)⟩⟩⟩⟩⟩) (fun z => ⟨L, fun _ => no (fun y => y.1 z), fun q => absurd rfl q⟩))
  obtain ⟨j, j1, j2, rfl⟩ := rg_of (a := 1) (b := 60) rfl rfl (by decide) (by decide) q1 q2
  obtain ⟨v, v1, v2, rfl⟩ := rg_of (a := 0) (b := 1) rfl rfl (by decide) (by decide) q3 (Int32.not_lt.mpr q4)
  have yes : ∀ h', RC h h' → Q (if nI v = 0 then (tuB ρ t j (t.1 2)).1 else (tuB ρ t j (t.1 2)).2) h' := fun h' r => by
    have := hQ h' r
    unfold aTurned at this
    rwa [if_pos ⟨c, IN_j j1 j2 (by decide), IN_j v1 v2 (by decide)⟩, nI_clamp (n := j) (by omega)] at this
  have body : ∀ r2, CRho h r2 ρ → CallV g mX1_findTurned (d + 6) (0, 0) [.ref 46, .ref 4, ov r2, .int (nI j)] h (fun h1 => Lay h1 ∧ CallI g mX1_told (d + 6) [.ref 46, .int (nI v)] h1 (fun i h2 => Lay h2 ∧ qI Q (some (.int i)) h2)) := fun r2 hr => c_findTurned L hT R hr (by omega) (fun h1 f1 e0 e1 => ⟨L.fr f1, told2 (L.fr f1) v2 e0 e1 ⟨L.fr f1, yes h1 (f1.wd (fun x hx => by omega))⟩⟩)
  exact c_ruleInForce L F (fun hr => ⟨L, body none hr⟩) (fun y hr => ⟨L, body (some y) hr⟩)
theorem c_best {n w : Int32} {Q : Int32 → HP → Prop} (C : CZ h ρ t) (hb : t.1 4 ≤ 2000) (hQ : ∀ h', RC h h' → Q (aBest ρ t n w) h') : CallI g mX9_best (d + 7) [.ref 0, .int n, .int w] h Q := by
  obtain ⟨L, hT, R, F⟩ := C
  have no : ¬ (¬ t.1 0 = 0 ∧ IN n 1 60 ∧ IN w 0 1) → Q (-1) h := fun c => by
    have := hQ h RC.rf
    unfold aBest at this
    rwa [if_neg c] at this
  refine wX9_best_0 _ _ L (c_stand hT (fun c => ⟨L, fun q => absurd q (by decide), fun _ => ⟨fun q => no (fun y => IN_lt (b := 60) (by decide) q y.2.1), fun q1 => ⟨fun q => no (fun y => IN_gt (a := 1) (by decide) q y.2.1), fun q2 => ⟨fun q => no (fun y => IN_lt (b := 1) (by decide) q y.2.2), fun q3 => ⟨fun q4 => ?_, fun q => no (fun y => IN_gt (a := 0) (by decide) (Int32.not_le.mp q) y.2.2)⟩⟩⟩⟩⟩) (fun z => ⟨L, fun _ => no (fun y => y.1 z), fun q => absurd rfl q⟩))
  obtain ⟨j, j1, j2, rfl⟩ := rg_of (a := 1) (b := 60) rfl rfl (by decide) (by decide) q1 q2
  obtain ⟨v, v1, v2, rfl⟩ := rg_of (a := 0) (b := 1) rfl rfl (by decide) (by decide) q3 (Int32.not_lt.mpr q4)
  have yes : ∀ h', RC h h' → Q (if nI v = 0 then (beB ρ t j 60).1 else (beB ρ t j 60).2) h' := fun h' r => by
    have := hQ h' r
    unfold aBest at this
    rwa [if_pos ⟨c, IN_j j1 j2 (by decide), IN_j v1 v2 (by decide)⟩, nI_clamp (n := j) (by omega)] at this
  have body : ∀ r2, CRho h r2 ρ → CallV g mX1_findBest (d + 6) (0, 0) [.ref 46, .ref 4, ov r2, .int (nI j)] h (fun h1 => Lay h1 ∧ CallI g mX1_told (d + 6) [.ref 46, .int (nI v)] h1 (fun i h2 => Lay h2 ∧ qI Q (some (.int i)) h2)) := fun r2 hr => c_findBest L hT R hr (by omega) (fun h1 f1 e0 e1 => ⟨L.fr f1, told2 (L.fr f1) v2 e0 e1 ⟨L.fr f1, yes h1 (f1.wd (fun x hx => by omega))⟩⟩)
  exact c_ruleInForce L F (fun hr => ⟨L, body none hr⟩) (fun y hr => ⟨L, body (some y) hr⟩)
theorem c_twins {n w : Int32} {Q : Int32 → HP → Prop} (C : CZ h ρ t) (hb : t.1 4 ≤ 2000) (hQ : ∀ h', RC h h' → Q (aTwins ρ t n w) h') : CallI g mX9_twins (d + 7) [.ref 0, .int n, .int w] h Q := by
  obtain ⟨L, hT, R, F⟩ := C
  have no : ¬ (¬ t.1 0 = 0 ∧ IN n 0 100 ∧ IN w 0 2) → Q (-1) h := fun c => by
    have := hQ h RC.rf
    unfold aTwins at this
    rwa [if_neg c] at this
  refine wX9_twins_0 _ _ L (c_stand hT (fun c => ⟨L, fun q => absurd q (by decide), fun _ => ⟨fun q => no (fun y => IN_lt (b := 100) (by decide) q y.2.1), fun q1 => ⟨fun q => no (fun y => IN_gt (a := 0) (by decide) q y.2.1), fun q2 => ⟨fun q => no (fun y => IN_lt (b := 2) (by decide) q y.2.2), fun q3 => ⟨fun q4 => ?_, fun q => no (fun y => IN_gt (a := 0) (by decide) (Int32.not_le.mp q) y.2.2)⟩⟩⟩⟩⟩) (fun z => ⟨L, fun _ => no (fun y => y.1 z), fun q => absurd rfl q⟩))
  obtain ⟨j, j1, j2, rfl⟩ := rg_of (a := 0) (b := 100) rfl rfl (by decide) (by decide) q1 q2
  obtain ⟨v, v1, v2, rfl⟩ := rg_of (a := 0) (b := 2) rfl rfl (by decide) (by decide) q3 (Int32.not_lt.mpr q4)
  have yes : ∀ h', RC h h' → Q (if nI v = 0 then nI (twO ((itN ρ t j).2 4) (t.1 3) (t.1 3)).1 else if nI v = 1 then (twO ((itN ρ t j).2 4) (t.1 3) (t.1 3)).2.1 else (twO ((itN ρ t j).2 4) (t.1 3) (t.1 3)).2.2) h' := fun h' r => by
    have := hQ h' r
    unfold aTwins at this
    rwa [if_pos ⟨c, IN_j j1 j2 (by decide), IN_j v1 v2 (by decide)⟩, nI_clamp (n := j) (by omega)] at this
  have body : ∀ r2, CRho h r2 ρ → CallV g mX1_findTwins (d + 6) (0, 0) [.ref 46, .ref 4, ov r2, .int (nI j)] h (fun h1 => Lay h1 ∧ CallI g mX1_told (d + 6) [.ref 46, .int (nI v)] h1 (fun i h2 => Lay h2 ∧ qI Q (some (.int i)) h2)) := fun r2 hr => c_findTwins L hT R hr (by omega) (fun h1 f1 e => ⟨L.fr f1, told3 (L.fr f1) v2 e.1 e.2.1 (fun _ => e.2.2) ⟨L.fr f1, yes h1 (f1.wd (fun x hx => by omega))⟩⟩)
  exact c_ruleInForce L F (fun hr => ⟨L, body none hr⟩) (fun y hr => ⟨L, body (some y) hr⟩)
theorem c_settled {w : Int32} {Q : Int32 → HP → Prop} (C : CZ h ρ t) (hb : t.1 4 ≤ 2000) (hQ : ∀ h', RC h h' → Q (aSettled ρ t w) h') : CallI g mX9_settled (d + 6) [.ref 0, .int w] h Q := by
  obtain ⟨L, hT, R, F⟩ := C
  have no : ¬ (¬ t.1 0 = 0 ∧ IN w 0 1) → Q (-1) h := fun c => by
    have := hQ h RC.rf
    unfold aSettled at this
    rwa [if_neg c] at this
  refine wX9_settled_0 _ L (c_stand hT (fun c => ⟨L, fun q => absurd q (by decide), fun _ => ⟨fun q => no (fun y => IN_lt (b := 1) (by decide) q y.2), fun q3 => ⟨fun q4 => ?_, fun q => no (fun y => IN_gt (a := 0) (by decide) (Int32.not_le.mp q) y.2)⟩⟩⟩) (fun z => ⟨L, fun _ => no (fun y => y.1 z), fun q => absurd rfl q⟩))
  obtain ⟨v, v1, v2, rfl⟩ := rg_of (a := 0) (b := 1) rfl rfl (by decide) (by decide) q3 (Int32.not_lt.mpr q4)
  have yes : ∀ h', RC h h' → Q (if nI v = 0 then (seV t (seO ρ t 60 0)).1 else (seV t (seO ρ t 60 0)).2) h' := fun h' r => by
    have := hQ h' r
    unfold aSettled at this
    rwa [if_pos ⟨c, IN_j v1 v2 (by decide)⟩] at this
  have body : ∀ r2, CRho h r2 ρ → CallV g mX1_findSettled (d + 5) (0, 0) [.ref 46, .ref 4, ov r2] h (fun h1 => Lay h1 ∧ CallI g mX1_told (d + 5) [.ref 46, .int (nI v)] h1 (fun i h2 => Lay h2 ∧ qI Q (some (.int i)) h2)) := fun r2 hr => c_findSettled L hT R hr (by omega) (fun h1 f1 e0 e1 => ⟨L.fr f1, told2 (L.fr f1) v2 e0 e1 ⟨L.fr f1, yes h1 (f1.wd (fun x hx => by omega))⟩⟩)
  exact c_ruleInForce L F (fun hr => ⟨L, body none hr⟩) (fun y hr => ⟨L, body (some y) hr⟩)
theorem c_mays {x0 : Nat} {m n p w : Int32} {Q : Int32 → HP → Prop} (C : CZ h ρ t) (hb : t.1 4 ≤ 2000) (hx0 : x0 < 2147483648) (hX0 : hI h 3 8 = nI x0) (hQ : ∀ h', RC h h' → Q (aMays ρ t x0 m n p w) h') : CallI g mX9_mays (d + 7) [.ref 0, .int m, .int n, .int p, .int w] h Q := by
  obtain ⟨L, hT, R, F⟩ := C
  have no : ¬ (¬ t.1 0 = 0 ∧ IN m 1 10 ∧ IN n 1 60 ∧ IN p 0 100 ∧ IN w 0 1) → Q (-1) h := fun c => by
    have := hQ h RC.rf
    unfold aMays at this
    rwa [if_neg c] at this
  refine wX9_mays_0 _ _ _ _ L ⟨fun q => no (fun y => IN_lt (b := 10) (by decide) q y.2.1), fun q1 => ⟨fun q => no (fun y => IN_gt (a := 1) (by decide) q y.2.1), fun q2 => ⟨fun q => no (fun y => IN_lt (b := 60) (by decide) q y.2.2.1), fun q3 => ⟨fun q => no (fun y => IN_gt (a := 1) (by decide) q y.2.2.1), fun q4 => ⟨fun q => no (fun y => IN_lt (b := 100) (by decide) q y.2.2.2.1), fun q5 => ⟨fun q => no (fun y => IN_gt (a := 0) (by decide) q y.2.2.2.1), fun q6 => ⟨fun q => no (fun y => IN_lt (b := 1) (by decide) q y.2.2.2.2), fun q7 => ⟨fun q => no (fun y => IN_gt (a := 0) (by decide) q y.2.2.2.2), fun q8 => c_stand hT (fun c => ⟨L, fun q => absurd q (by decide), fun _ => ?_⟩) (fun z => ⟨L, fun _ => no (fun y => y.1 z), fun q => absurd rfl q⟩)⟩⟩⟩⟩⟩⟩⟩⟩
  obtain ⟨m, m1, m2, rfl⟩ := rg_of (a := 1) (b := 10) rfl rfl (by decide) (by decide) q1 q2
  obtain ⟨n, n1, n2, rfl⟩ := rg_of (a := 1) (b := 60) rfl rfl (by decide) (by decide) q3 q4
  obtain ⟨p, p1, p2, rfl⟩ := rg_of (a := 0) (b := 100) rfl rfl (by decide) (by decide) q5 q6
  obtain ⟨v, v1, v2, rfl⟩ := rg_of (a := 0) (b := 1) rfl rfl (by decide) (by decide) q7 q8
  have yes : ∀ h', RC h h' → Q (if nI v = 0 then (maS ρ t x0 n p m).2.1 else (maS ρ t x0 n p m).2.2) h' := fun h' r => by
    have := hQ h' r
    unfold aMays at this
    rwa [if_pos ⟨c, IN_j m1 m2 (by decide), IN_j n1 n2 (by decide), IN_j p1 p2 (by decide), IN_j v1 v2 (by decide)⟩, nI_clamp (n := n) (by omega), nI_clamp (n := p) (by omega), nI_clamp (n := m) (by omega)] at this
  have body : ∀ r2, CRho h r2 ρ → CallV g mX1_findMays (d + 6) (0, 0) [.ref 46, .ref 3, ov r2, .int (nI m), .int (nI n), .int (nI p)] h (fun h1 => Lay h1 ∧ CallI g mX1_told (d + 6) [.ref 46, .int (nI v)] h1 (fun i h2 => Lay h2 ∧ qI Q (some (.int i)) h2)) := fun r2 hr => c_findMays L hT R hr (by omega) m2 p2 hx0 hX0 (fun h1 f1 e0 e1 => ⟨L.fr f1, told2 (L.fr f1) v2 e0 e1 ⟨L.fr f1, yes h1 (f1.wd (fun x hx => by omega))⟩⟩)
  exact c_ruleInForce L F (fun hr => ⟨L, body none hr⟩) (fun y hr => ⟨L, body (some y) hr⟩)
theorem c_comes {q s : Int32} {Q : Int32 → HP → Prop} (C : CZ h ρ t) (hb : t.1 4 ≤ 2000) (hQ : ∀ h', RC h h' → Q (aComes ρ t q s) h') : CallI g mX9_comes (d + 6) [.ref 0, .int q, .int s] h Q := by
  obtain ⟨L, hT, R, F⟩ := C
  have hB := hT.2.1
  unfold TB at hB
  have no : ¬ (IX q (t.1 3) ∧ IN s 0 99) → Q (-1) h := fun c => by
    have := hQ h RC.rf
    unfold aComes at this
    rwa [if_neg c] at this
  refine wX9_comes_0 _ _ L (c_hasLodger hT (fun j hj eq => ⟨L, fun q => absurd q (by decide), fun _ => ⟨fun q => no (fun y => IN_lt (b := 99) (by decide) q y.2), fun q3 => ⟨fun q4 => ?_, fun q => no (fun y => IN_gt (a := 0) (by decide) (Int32.not_le.mp q) y.2)⟩⟩⟩) (fun z => ⟨L, fun _ => no (fun y => IX_no z y.1), fun q => absurd rfl q⟩))
  subst eq
  obtain ⟨v, v1, v2, es⟩ := rg_of (a := 0) (b := 99) rfl rfl (by decide) (by decide) q3 (Int32.not_lt.mpr q4)
  have yes : ∀ h', RC h h' → Q (comesT ρ t j s 200 0) h' := fun h' r => by
    have := hQ h' r
    unfold aComes at this
    rwa [if_pos ⟨IX_j hj (by omega), by rw [es]; exact IN_j v1 v2 (by decide)⟩, nI_clamp (n := j) (by omega)] at this
  have body : ∀ r2, CRho h r2 ρ → CallI g mX1_firstNightOf (d + 5) [.ref 46, .ref 4, ov r2, .int (nI j), .int s] h (fun i h2 => Lay h2 ∧ qI Q (some (.int i)) h2) := fun r2 hr => c_firstNightOf L hT R hr (by omega) hj (fun h1 f1 => ⟨L.fr f1, yes h1 (f1.wd (fun x hx => by omega))⟩)
  exact c_ruleInForce L F (fun hr => ⟨L, body none hr⟩) (fun y hr => ⟨L, body (some y) hr⟩)
theorem c_ahead {k n w : Int32} {Q : Int32 → HP → Prop} (C : CZ h ρ t) (hb : t.1 4 ≤ 2000) (hQ : ∀ h', RC h h' → Q (aAhead ρ t k n w) h') : CallI g mX9_ahead (d + 7) [.ref 0, .int k, .int n, .int w] h Q := by
  obtain ⟨L, hT, R, F⟩ := C
  have hB := hT.2.1
  unfold TB at hB
  have no : ¬ (¬ t.1 0 = 0 ∧ IN n 0 100 ∧ ((IN w 0 1 ∧ IX k (t.1 3)) ∨ (w = 2 ∧ IX k (t.1 2)) ∨ w = 3)) → Q (-2) h := fun c => by
    have := hQ h RC.rf
    unfold aAhead at this
    rwa [if_neg c] at this
  have i0 : IN 0 0 1 := by decide
  have i1 : IN 1 0 1 := by decide
  have i2 : ¬ IN 2 0 1 := by decide
  refine wX9_ahead_0 _ _ _ L (c_stand hT (fun c => ⟨L, fun q => absurd q (by decide), fun _ => ⟨fun q => no (fun y => IN_lt (b := 100) (by decide) q y.2.1), fun q1 => ⟨fun q => no (fun y => IN_gt (a := 0) (by decide) q y.2.1), fun q2 => ?_⟩⟩⟩) (fun z => ⟨L, fun _ => no (fun y => y.1 z), fun q => absurd rfl q⟩))
  obtain ⟨j, j1, j2, rfl⟩ := rg_of (a := 0) (b := 100) rfl rfl (by decide) (by decide) q1 q2
  have body : ((IN w 0 1 ∧ IX k (t.1 3)) ∨ (w = 2 ∧ IX k (t.1 2)) ∨ w = 3) → ∀ r2, CRho h r2 ρ → CallR g mX1_after (d + 6) [.ref 46, .ref 4, ov r2, .int (nI j)] h (fun y h4 => Lay h4 ∧ (w = 0 → hK h4 y = 9 ∧ ∃ z, hR h4 y 8 = some z ∧ hK h4 z = 21 ∧ vp_in k (hN h4 z) ∧ qI Q (some (.int (hI h4 z k.toNatClampNeg))) h4) ∧ (¬ w = 0 → (w = 1 → hK h4 y = 9 ∧ ∃ z, hR h4 y 11 = some z ∧ hK h4 z = 21 ∧ vp_in k (hN h4 z) ∧ qI Q (some (.int (hI h4 z k.toNatClampNeg))) h4) ∧ (¬ w = 1 → (w = 2 → hK h4 y = 9 ∧ ∃ z, hR h4 y 5 = some z ∧ hK h4 z = 21 ∧ vp_in k (hN h4 z) ∧ qI Q (some (.int (hI h4 z k.toNatClampNeg))) h4) ∧ (¬ w = 2 → hK h4 y = 9 ∧ CallI g mX8_farOfAll (d + 6) [.ref y] h4 (fun i h5 => Lay h5 ∧ qI Q (some (.int i)) h5))))) := fun hP r2 hr => by
    refine c_after L hT R hr (by omega) (fun h1 f1 T1 => ⟨L.fr f1, ?_⟩)
    have L1 := L.fr f1
    have e3 : (itN ρ t j).1 3 = t.1 3 := itN_k ρ t j (by decide)
    have e2 : (itN ρ t j).1 2 = t.1 2 := itN_k ρ t j (by decide)
    have yes := hQ h1 (f1.wd (fun x hx => by omega))
    unfold aAhead at yes
    rw [if_pos ⟨c, IN_j j1 j2 (by decide), hP⟩, nI_clamp (n := j) (by omega)] at yes
    refine ⟨fun q => ⟨Lk L1 K_47, _, Lr L1 R_47_8, Lk L1 K_51, ?_⟩, fun q0 => ⟨fun q => ⟨Lk L1 K_47, _, Lr L1 R_47_11, Lk L1 K_54, ?_⟩, fun q1 => ⟨fun q => ⟨Lk L1 K_47, _, Lr L1 R_47_5, Lk L1 K_48, ?_⟩, fun q2 => ⟨Lk L1 K_47, c_farOfAll T1 ⟨L1, ?_⟩⟩⟩⟩⟩
    · subst q
      have hk : IX k (t.1 3) := hP.elim (fun y => y.2) (fun y => y.elim (fun y => absurd y.1 (by decide)) (fun y => absurd y (by decide)))
      rw [if_pos rfl] at yes
      rw [Ln L1 N_51, show hI h1 51 k.toNatClampNeg = (itN ρ t j).2 4 k.toNatClampNeg from T1.lod 4 (by omega) (by omega) (by rw [e3]; exact hk.1)]
      exact ⟨by rw [hk.2]; exact vn (by omega) (by omega), yes⟩
    · subst q
      have hk : IX k (t.1 3) := hP.elim (fun y => y.2) (fun y => y.elim (fun y => absurd y.1 (by decide)) (fun y => absurd y (by decide)))
      rw [if_neg (by decide), if_pos rfl] at yes
      rw [Ln L1 N_54, show hI h1 54 k.toNatClampNeg = (itN ρ t j).2 7 k.toNatClampNeg from T1.lod 7 (by omega) (by omega) (by rw [e3]; exact hk.1)]
      exact ⟨by rw [hk.2]; exact vn (by omega) (by omega), yes⟩
    · subst q
      have hk : IX k (t.1 2) := hP.elim (fun y => absurd y.1 i2) (fun y => y.elim (fun y => y.2) (fun y => absurd y (by decide)))
      rw [if_neg (by decide), if_neg (by decide), if_pos rfl] at yes
      rw [Ln L1 N_48, show hI h1 48 k.toNatClampNeg = (itN ρ t j).2 1 k.toNatClampNeg from T1.bed 1 (by omega) (by omega) (by rw [e2]; exact hk.1)]
      exact ⟨by rw [hk.2]; exact vn (by omega) (by omega), yes⟩
    · rw [if_neg q0, if_neg q1, if_neg q2] at yes
      exact yes
  have s69 : (w = 2 ∨ ((IN w 0 1 ∧ IX k (t.1 3)) ∨ (w = 2 ∧ IX k (t.1 2)) ∨ w = 3)) → Sat g mX9_ahead (d + 7) (0, 0) (qI Q) 69 [.ref 0, .int k, .int (nI j), .int w, .ref 4, .double 0, .double 0] [] h := fun hP => by
    refine wX9_ahead_69 _ _ _ 4 L ⟨fun q => ⟨Lk L K_4, c_hasBed hT (fun b hb2 e => ⟨L, fun q => absurd q (by decide), fun _ => ?_⟩) (fun z => ⟨L, fun _ => no (fun y => ?_), fun q => absurd rfl q⟩)⟩, fun q => ?_⟩
    · have hP2 : ((IN w 0 1 ∧ IX k (t.1 3)) ∨ (w = 2 ∧ IX k (t.1 2)) ∨ w = 3) := Or.inr (Or.inl ⟨q, by rw [e]; exact IX_j hb2 (by omega)⟩)
      exact c_ruleInForce L F (fun hr => ⟨L, body hP2 none hr⟩) (fun y hr => ⟨L, body hP2 (some y) hr⟩)
    · rw [q] at y
      exact y.2.2.elim (fun y => i2 y.1) (fun y => y.elim (fun y => IX_no z y.2) (fun y => absurd y (by decide)))
    · have hP2 := hP.resolve_left q
      exact c_ruleInForce L F (fun hr => ⟨L, body hP2 none hr⟩) (fun y hr => ⟨L, body hP2 (some y) hr⟩)
  refine ⟨fun q => no (fun y => ?_), fun q3 => ⟨fun q4 => ⟨fun q => ?_, fun q5 => ⟨fun q => ?_, fun q6 => s69 ?_⟩⟩, fun q => no (fun y => ?_)⟩⟩
  · rcases y.2.2 with z | z | z
    · exact IN_lt (b := 1) (by decide) q z.1
    · rw [z.1] at q; exact absurd q (by decide)
    · rw [z] at q; exact absurd q (by decide)
  · subst q
    exact c_hasLodger hT (fun b hb2 e => ⟨L, fun q => absurd q (by decide), fun _ => s69 (Or.inr (Or.inl ⟨i0, by rw [e]; exact IX_j hb2 (by omega)⟩))⟩) (fun z => ⟨L, fun _ => no (fun y => y.2.2.elim (fun y => IX_no z y.2) (fun y => y.elim (fun y => absurd y.1 (by decide)) (fun y => absurd y (by decide)))), fun q => absurd rfl q⟩)
  · subst q
    exact c_hasLodger hT (fun b hb2 e => ⟨L, fun q => absurd q (by decide), fun _ => s69 (Or.inr (Or.inl ⟨i1, by rw [e]; exact IX_j hb2 (by omega)⟩))⟩) (fun z => ⟨L, fun _ => no (fun y => y.2.2.elim (fun y => IX_no z y.2) (fun y => y.elim (fun y => absurd y.1 (by decide)) (fun y => absurd y (by decide)))), fun q => absurd rfl q⟩)
  · obtain ⟨v, v1, v2, rfl⟩ := rg_of (a := 0) (b := 3) rfl rfl (by decide) (by decide) q3 (Int32.not_lt.mpr q4)
    rcases (show v = 0 ∨ v = 1 ∨ v = 2 ∨ v = 3 by omega) with rfl | rfl | rfl | rfl
    · exact absurd rfl q5
    · exact absurd rfl q6
    · exact Or.inl rfl
    · exact Or.inr (Or.inr (Or.inr rfl))
  · rcases y.2.2 with z | z | z
    · refine IN_gt (a := 0) (b := 1) (by decide) ?_ z.1
      have := Int32.not_le.mp q
      rw [Int32.lt_iff_toInt_lt] at this ⊢
      have e1 : (3 : Int32).toInt = 3 := rfl
      have e2 : (nI 1).toInt = 1 := rfl
      omega
    · rw [z.1] at q; exact absurd (by decide) q
    · rw [z] at q; exact absurd (by decide) q
end CP1
