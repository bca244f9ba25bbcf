/-! the reference looks ahead -/
abbrev IN (x : Int32) (a b : Nat) : Prop := a ≤ x.toNatClampNeg ∧ x.toNatClampNeg ≤ b ∧ x = nI x.toNatClampNeg
abbrev IX (x : Int32) (n : Nat) : Prop := x.toNatClampNeg < n ∧ x = nI x.toNatClampNeg
theorem IN_j {j a b : Nat} (h1 : a ≤ j) (h2 : j ≤ b) (hb : b < 2 ^ 31) : IN (nI j) a b := by
  unfold IN; rw [nI_clamp (by omega)]; exact ⟨h1, h2, rfl⟩
theorem IX_j {j n : Nat} (h2 : j < n) (hb : n < 2 ^ 31) : IX (nI j) n := by
  unfold IX; rw [nI_clamp (by omega)]; exact ⟨h2, rfl⟩
theorem IX_no {x : Int32} {n : Nat} (h : ∀ j, j < n → ¬ x = nI j) : ¬ IX x n := fun w => h _ w.1 w.2
theorem IN_lt {x : Int32} {a b : Nat} (hb : b < 2 ^ 31) (c : x < nI a) : ¬ IN x a b := fun w => by
  rw [w.2.2] at c; exact nI_nlt w.1 (by omega) c
theorem IN_gt {x : Int32} {a b : Nat} (hb : b < 2 ^ 31) (c : nI b < x) : ¬ IN x a b := fun w => by
  rw [w.2.2] at c; exact nI_nlt w.2.1 hb c
theorem pk_rg (x : Int32) {a b : Nat} (hab : a ≤ b) (hb : b < 2 ^ 31) : x < nI a ∨ nI b < x ∨ ∃ j, a ≤ j ∧ j ≤ b ∧ x = nI j := by
  by_cases c0 : x < 0
  · refine Or.inl ?_
    rw [Int32.lt_iff_toInt_lt] at c0 ⊢
    rw [nI_toInt (by omega)]
    have : (0 : Int32).toInt = 0 := rfl
    omega
  obtain ⟨j, hj, rfl⟩ := nI_of c0
  by_cases c1 : j < a
  · exact Or.inl (nI_lt c1 (by omega))
  by_cases c2 : b < j
  · exact Or.inr (Or.inl (nI_lt c2 hj))
  exact Or.inr (Or.inr ⟨j, by omega, by omega, rfl⟩)
def MF (h : HP) : Prop := ∀ q, q < 6 → hI h 286 q = -5
theorem MF.mu {h : HP} {t : Tw} (F : MF h) (hB : TB t) : MuIs h t frH := fun q hq => Or.inl ⟨F q (by unfold TB at hB; omega), rfl⟩
def MZ (h : HP) (ρ : Option Rl) (t : Tw) : Prop := Lay h ∧ TD h 253 t ∧ TR t ∧ MRho h ρ ∧ MF h
def MW (h0 : HP) (ρ : Option Rl) (t : Tw) (h : HP) : Prop := Lay h ∧ FrC AU h0 h ∧ SvS h0 h ∧ TD h 253 t ∧ TR t ∧ MRho h ρ ∧ ¬ t.1 0 = 0
def RM (h h' : HP) : Prop := FrC AF h h' ∧ MF h'
theorem RM.rf {h : HP} (F : MF h) : RM h h := ⟨FrC.rf h, F⟩
section MW
variable {g : GT} {d : Nat} {h h0 : HP} {t t' : Tw} {ρ : Option Rl}
theorem MZ.fr (O : MZ h ρ t) {h' : HP} (r : RM h h') : MZ h' ρ t :=
  ⟨r.1.lay O.1, O.2.1.to (fun k hk => r.1.I (by unfold AF; omega)) (fun a b h1 h2 => r.1.I (by unfold AF; omega)), O.2.2.1, O.2.2.2.1.to (fun x k hx => r.1.I (by unfold AF; omega)), r.2⟩
theorem m_in {x : Int32} {lo hi : Int64} {a b : Nat} {Q : Int32 → HP → Prop} (L : Lay h) (hlo : lo = (nI a).toInt64) (hhi : hi = (nI b).toInt64) (hab : a ≤ b) (hb : b < 2 ^ 31) (hy : ∀ j, a ≤ j → j ≤ b → x = nI j → Q 1 h) (hn : ¬ IN x a b → Q 0 h) : CallI g mX10_in d [.long x.toInt64, .long lo, .long hi] h Q := by
  subst hlo hhi
  refine wX10_in_0 _ _ _ L ?_
  rw [lg_cmp_lt, Int64.lt_iff_toInt_lt, lg_cmp_gt, Int64.lt_iff_toInt_lt, Int32.toInt_toInt64, Int32.toInt_toInt64, Int32.toInt_toInt64, nI_toInt (n := a) (by omega), nI_toInt hb]
  rcases pk_rg x hab hb with c | c | ⟨j, h1, h2, rfl⟩
  · refine ⟨fun _ => hn (IN_lt hb c), fun q => absurd ?_ q⟩
    rw [Int32.lt_iff_toInt_lt, nI_toInt (by omega)] at c
    exact c
  · refine ⟨fun _ => hn (IN_gt hb c), fun _ => ⟨fun _ => hn (IN_gt hb c), fun q => absurd ?_ q⟩⟩
    rw [Int32.lt_iff_toInt_lt, nI_toInt hb] at c
    exact c
  · rw [nI_toInt (by omega)]
    exact ⟨fun q => by omega, fun _ => ⟨fun q => by omega, fun _ => hy j h1 h2 rfl⟩⟩
theorem m_keepW {Q : HP → Prop} (O : MZ h ρ t) (c : ¬ t.1 0 = 0) (hQ : ∀ h', MW h ρ t h' → MF h' → RM h h' → Q h') : CallV g mX10_keepsAll (d + 2) (0, 0) [.ref 252] h Q := by
  obtain ⟨L, T, R, M, F⟩ := O
  refine m_keepsAll L (fun h' f s e => ?_)
  have F' : MF h' := fun q hq => (e q).trans (F q hq)
  have O' := MZ.fr ⟨L, T, R, M, F⟩ (h' := h') ⟨f, F'⟩
  exact hQ h' ⟨O'.1, f.wd (fun x k hx => Or.inl hx), s, O'.2.1, R, O'.2.2.2.1, c⟩ F' ⟨f, F'⟩
theorem MW.set (W : MW h0 ρ t h) {h' : HP} {A : Nat → Nat → Prop} (f : FrC A h h') (hA : ∀ x k, A x k → AU x k ∧ ¬ x = 299 ∧ ¬ (277 ≤ x ∧ x ≤ 282) ∧ ¬ (x = 253 ∧ k = 7)) (T : TD h' 253 t') (R : TR t') (c : ¬ t'.1 0 = 0) : MW h0 ρ t' h' := by
  obtain ⟨L, f0, s, -, -, M, -⟩ := W
  refine ⟨f.lay L, f0.tr (f.wd (fun x k hx => (hA x k hx).1)), s.to (fun k hk => f.I (fun w => (hA _ _ w).2.1 rfl)), T, R, M.to (fun x k hx => f.I (fun w => ?_)), c⟩
  have := hA _ _ w
  omega
theorem AG_AU {t : Tw} (hB : TB t) {x k : Nat} (hx : AG t x k) : AU x k ∧ ¬ x = 299 ∧ ¬ (277 ≤ x ∧ x ≤ 282) ∧ ¬ (x = 253 ∧ k = 7) := by
  unfold TB at hB
  unfold AG at hx
  unfold AU AF AT
  omega
theorem m_goesW {hd : Hd} {Q : Int32 → HP → Prop} (W : MW h0 ρ t h) (hM : MuIs h t hd) (hb : t.1 4 + 1 ≤ 5000) (hQ : ∀ h', MW h0 ρ (nightT t ρ hd) h' → FrC (AG t) h h' → (hI h' 252 48 = 0 ↔ (hI h 252 48 = 0 ∨ ¬ heldOK t ρ hd (t.1 3))) → Q (nI (cntL (lieS t ρ hd (t.1 3)).1 (t.1 3))) h') : CallI g mX10_goes (d + 7) [.ref 252] h Q := by
  obtain ⟨L, f0, s, T, R, M, c⟩ := id W
  refine m_goes (d := d + 3) L T R c hM M.rl hb (fun h' f T' e => hQ h' (W.set f (fun x k hx => AG_AU T.1 hx) T' (R.night T.1) (by rw [night_1, if_neg (by decide)]; exact c)) f e)
theorem m_goForW {n : Nat} {Q : HP → Prop} (W : MW h0 ρ t h) (F : MF h) (hb : t.1 4 + n ≤ 5000) (hQ : ∀ h', MW h0 ρ (itN ρ t n) h' → MF h' → (∀ x k, 290 ≤ x → x ≤ 298 → hI h' x k = hI h x k) → Q h') : CallV g mX10_goFor (d + 8) (0, 0) [.ref 252, .int (nI n)] h Q := by
  refine wX10_goFor_0 _ W.1 ?_
  refine loopN (σ := Unit) (P := fun i _ h' => Sat g mX10_goFor (d + 8) (0, 0) (qV Q) 2 [.ref 252, .int (nI n), .int (nI i)] [] h') (I := fun i _ h' => MW h0 ρ (itN ρ t i) h' ∧ MF h' ∧ ∀ x k, 290 ≤ x → x ≤ 298 → hI h' x k = hI h x k) n (fun _ h' e => ?_) (fun i _ h' hi e ih => ?_) 0 () h (by omega) ⟨W, F, fun _ _ _ _ => rfl⟩
  · exact wX10_goFor_2 _ _ e.1.1 ⟨fun _ => hQ h' e.1 e.2.1 e.2.2, fun c => absurd (nI_le (Nat.le_refl _) (by omega)) c⟩
  · refine wX10_goFor_2 _ _ e.1.1 ⟨fun c => absurd c (nI_ge hi (by omega)), fun _ => ?_⟩
    rw [nI_1]
    refine m_goesW e.1 (e.2.1.mu e.1.2.2.2.1.1) (by rw [itN_4]; omega) (fun h2 W2 f2 _ => ⟨W2.1, ih () h2 ⟨W2, fun q hq => (f2.I (by unfold AG; omega)).trans (e.2.1 q hq), fun x k h1 h2 => (f2.I (by unfold AG; omega)).trans (e.2.2 x k h1 h2)⟩⟩)
theorem m_backW {Q : HP → Prop} (W : MW h0 ρ t' h) (O : MZ h0 ρ t) (c : ¬ t.1 0 = 0) (hQ : ∀ h', MW h0 ρ t h' → FrC AF h0 h' → (∀ q, hI h' 286 q = hI h 286 q) → (∀ x k, 290 ≤ x → x ≤ 298 → hI h' x k = hI h x k) → Q h') : CallV g mX10_laysBack (d + 2) (0, 0) [.ref 252] h Q := by
  obtain ⟨L, f0, s, -, -, M, -⟩ := W
  obtain ⟨L0, T0, R0, M0, -⟩ := O
  exact m_laysBack L f0 s (fun h' f s' e1 e2 => hQ h' ⟨f.lay L0, f.wd (fun x k hx => Or.inl hx), s', T0.to (fun k hk => f.I (by unfold AF; omega)) (fun a b h1 h2 => f.I (by unfold AF; omega)), R0, M0.to (fun x k hx => f.I (by unfold AF; omega)), c⟩ f e1 e2)
theorem m_farIn {n : Nat} {Q : Int32 → HP → Prop} (W : MW h0 ρ t' h) (F : MF h) (O : MZ h0 ρ t) (c : ¬ t.1 0 = 0) (hb : t'.1 4 + n ≤ 5000) (hQ : ∀ h', MW h0 ρ t h' → RM h0 h' → Q (farA (itN ρ t' n)) h') : CallI g mX10_farIn (d + 9) [.ref 252, .int (nI n)] h Q := by
  refine wX10_farIn_0 _ W.1 (m_goForW W F hb (fun h1 W1 F1 _ => ⟨W1.1, m_allFar W1.1 W1.2.2.2.1 W1.2.2.2.2.1 ⟨W1.1, m_backW W1 O c (fun h2 W2 f2 e2 _ => ⟨W2.1, hQ h2 W2 ⟨f2, fun q hq => (e2 q).trans (F1 q hq)⟩⟩)⟩⟩))
end MW
/-- the answers -/
noncomputable def aAhead (ρ : Option Rl) (t : Tw) (k n w : Int32) : Int32 := if ¬ t.1 0 = 0 ∧ IN n 0 100 ∧ ((IN w 0 1 ∧ IX k (t.1 3)) ∨ (w = 2 ∧ IX k (t.1 2)) ∨ w = 3) then (if w = 0 then (itN ρ t n.toNatClampNeg).2 4 k.toNatClampNeg else if w = 1 then (itN ρ t n.toNatClampNeg).2 7 k.toNatClampNeg else if w = 2 then (itN ρ t n.toNatClampNeg).2 1 k.toNatClampNeg else farA (itN ρ t n.toNatClampNeg)) else -2
noncomputable def aComes (ρ : Option Rl) (t : Tw) (q s : Int32) : Int32 := if IX q (t.1 3) ∧ IN s 0 99 then comesT ρ t q.toNatClampNeg s 200 0 else -1
noncomputable def aTurned (ρ : Option Rl) (t : Tw) (n w : Int32) : Int32 := if ¬ t.1 0 = 0 ∧ IN n 1 60 ∧ IN w 0 1 then (if w = 0 then (tuB ρ t n.toNatClampNeg (t.1 2)).1 else (tuB ρ t n.toNatClampNeg (t.1 2)).2) else -2
noncomputable def aBest (ρ : Option Rl) (t : Tw) (n w : Int32) : Int32 := if ¬ t.1 0 = 0 ∧ IN n 1 60 ∧ IN w 0 1 then (if w = 0 then (beB ρ t n.toNatClampNeg 60).1 else (beB ρ t n.toNatClampNeg 60).2) else -1
noncomputable def aTwins (ρ : Option Rl) (t : Tw) (n w : Int32) : Int32 := if ¬ t.1 0 = 0 ∧ IN n 0 100 ∧ IN w 0 2 then (if w = 0 then nI (twO ((itN ρ t n.toNatClampNeg).2 4) (t.1 3) (t.1 3)).1 else if w = 1 then (twO ((itN ρ t n.toNatClampNeg).2 4) (t.1 3) (t.1 3)).2.1 else (twO ((itN ρ t n.toNatClampNeg).2 4) (t.1 3) (t.1 3)).2.2) else -1
noncomputable def aSettled (ρ : Option Rl) (t : Tw) (w : Int32) : Int32 := if ¬ t.1 0 = 0 ∧ IN w 0 1 then (if w = 0 then (seV t (seO ρ t 60 0)).1 else (seV t (seO ρ t 60 0)).2) else -1
noncomputable def aMays (ρ : Option Rl) (t : Tw) (x : Nat) (m n p w : Int32) : Int32 := if ¬ t.1 0 = 0 ∧ IN m 1 10 ∧ IN n 1 60 ∧ IN p 0 100 ∧ IN w 0 1 then (if w = 0 then (maS ρ t x n.toNatClampNeg p.toNatClampNeg m.toNatClampNeg).2.1 else (maS ρ t x n.toNatClampNeg p.toNatClampNeg m.toNatClampNeg).2.2) else -1
section MP
variable {g : GT} {d : Nat} {h : HP} {t : Tw} {ρ : Option Rl}
theorem m_city {Q : Int32 → HP → Prop} (O : MZ h ρ t) (hy : ¬ t.1 0 = 0 → Q 1 h) (hn : t.1 0 = 0 → Q 0 h) : CallI g mX10_isCity d [.ref 252] h Q := by
  refine m_isCity O.1 O.2.1 ?_
  by_cases c : t.1 0 = 0
  · rw [if_pos c]; exact hn c
  · rw [if_neg c]; exact hy c
theorem m_turned {n w : Int32} {Q : Int32 → HP → Prop} (O : MZ h ρ t) (hb : t.1 4 ≤ 2000) (hQ : ∀ h', RM h h' → Q (aTurned ρ t n w) h') : CallI g mX10_turned (d + 10) [.ref 252, .int n, .int w] h Q := by
  have no : ¬ (¬ t.1 0 = 0 ∧ IN n 1 60 ∧ IN w 0 1) → Q (-2) h := fun c => by
    have := hQ h (RM.rf O.2.2.2.2)
    unfold aTurned at this
    rwa [if_neg c] at this
  refine wX10_turned_0 _ _ O.1 (m_city O (fun c => ⟨O.1, fun q => absurd q (by decide), fun _ => m_in O.1 (a := 1) (b := 60) rfl rfl (by decide) (by decide) (fun j h1 h2 en => ⟨O.1, fun q => absurd q (by decide), fun _ => m_in O.1 (a := 0) (b := 1) rfl rfl (by decide) (by decide) (fun v h3 h4 ew => ⟨O.1, fun q => absurd q (by decide), fun _ => ?_⟩) (fun z => ⟨O.1, fun _ => no (fun y => z y.2.2), fun q => absurd rfl q⟩)⟩) (fun z => ⟨O.1, fun _ => no (fun y => z y.2.1), fun q => absurd rfl q⟩)⟩) (fun z => ⟨O.1, fun _ => no (fun y => y.1 z), fun q => absurd rfl q⟩))
  subst en ew
  have hB := O.2.1.1
  unfold TB at hB
  have yes : ∀ h', RM h h' → Q (if v = 0 then (tuB ρ t j (t.1 2)).1 else (tuB ρ t j (t.1 2)).2) h' := fun h' r => by
    have := hQ h' r
    unfold aTurned at this
    rw [if_pos ⟨c, IN_j h1 h2 (by decide), IN_j h3 h4 (by decide)⟩, nI_clamp (by omega)] at this
    rcases (show v = 0 ∨ v = 1 by omega) with rfl | rfl <;> exact this
  refine m_keepW O c (fun h1 W1 F1 r1 => ⟨W1.1, m_farIn W1 F1 O c (by omega) (fun h2 W2 r2 => ⟨W2.1, ?_⟩)⟩)
  refine loopN (σ := Unit) (P := fun i _ h' => Sat g mX10_turned (d + 10) (0, 0) (qI Q) 48 [.ref 252, .int (nI j), .int (nI v), .int (tuB ρ t j i).1, .int (tuB ρ t j i).2, .int (nI i), .double 0] [] h') (I := fun i _ h' => MW h ρ t h' ∧ RM h h') (t.1 2) (fun _ h' e => ?_) (fun i _ h' hi e ih => ?_) 0 () h2 (by omega) ⟨W2, r2⟩
  · refine wX10_turned_48 _ _ _ _ _ e.1.1 ?_
    rw [mS e.1.2.2.2.1 2 (by omega)]
    refine ⟨fun _ => ?_, fun q => absurd (nI_le (Nat.le_refl _) (by omega)) q⟩
    have := yes h' e.2
    rcases (show v = 0 ∨ v = 1 by omega) with rfl | rfl
    · exact ⟨fun _ => this, fun q => absurd rfl q⟩
    · exact ⟨fun q => absurd q (by decide), fun _ => this⟩
  · refine wX10_turned_48 _ _ _ _ _ e.1.1 ?_
    have T := e.1.2.2.2.1
    have L := e.1.1
    rw [mS T 2 (by omega)]
    refine ⟨fun q => absurd q (nI_ge hi (by omega)), fun _ => wX10_turns_0 _ L ⟨vn (by omega) (by omega), ?_⟩⟩
    rw [nI_clamp (n := i) (by omega), mUn T hi, mHo T hi]
    have f3 : FrC (fun x k => (x = 254 ∨ x = 255) ∧ k = i) h' (setI (setI h' 254 i (t.2 2 i)) 255 i (t.2 1 i)) := (FrC.stI (by omega)).tr (FrC.stI (by omega))
    have T3 : TD (setI (setI h' 254 i (t.2 2 i)) 255 i (t.2 1 i)) 253 (swapT t i) := (T.set 1 i (t.2 2 i) (by omega) (by omega)).set 2 i (t.2 1 i) (by omega) (by omega)
    have W3 := e.1.set (t' := swapT t i) f3 (fun x k hx => by unfold AU AF AT; omega) T3 (swap_ok T.1 e.1.2.2.2.2.1 hi).2 c
    have F3 : MF (setI (setI h' 254 i (t.2 2 i)) 255 i (t.2 1 i)) := fun q hq => (f3.I (by omega)).trans (e.2.2 q hq)
    refine ⟨W3.1, m_farIn W3 F3 O c (show t.1 4 + j ≤ 5000 by omega) (fun h4 W4 r4 => ⟨W4.1, fun q => ?_, fun q => ?_⟩)⟩
    · rw [nI_1]
      have := ih () h4 ⟨W4, r4⟩
      rw [tuB, if_neg (fun w => Int32.not_lt.mpr q w)] at this
      exact this
    · rw [nI_1]
      have := ih () h4 ⟨W4, r4⟩
      rw [tuB, if_pos (Int32.not_le.mp q)] at this
      exact this
end MP
