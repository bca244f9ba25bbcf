/-! the reference looks ahead, on: ahead, comes, best, twins -/
theorem TD.card {h : HP} {t : Tw} {c : Nat} (T : TD h 253 t) (h2 : c ≤ 60) : TD (setI h 253 0 (nI c)) 253 (cardS t c) := by
  obtain ⟨hB, e1, e2⟩ := T
  refine ⟨?_, fun k hk => ?_, fun r j hr => ?_⟩
  · unfold TB at hB ⊢
    exact ⟨h2, hB.2⟩
  · by_cases q : k = 0
    · subst q; exact rdI
    · rw [rdn (by omega), e1 k hk]
      exact congrArg nI (show t.1 k = up1 t.1 0 c k from (by simp only [up1, if_neg q]))
  · have hr2 : 1 ≤ r := by unfold rowOK at hr; omega
    rw [rdn (by omega)]
    refine e2 r j ?_
    exact hr
section MP2
variable {g : GT} {d : Nat} {h : HP} {t : Tw} {ρ : Option Rl}
theorem m_ahead {k n w : Int32} {Q : Int32 → HP → Prop} (O : MZ h ρ t) (hb : t.1 4 ≤ 2000) (hQ : ∀ h', RM h h' → Q (aAhead ρ t k n w) h') : CallI g mX10_ahead (d + 9) [.ref 252, .int k, .int n, .int w] h Q := by
  have no : ¬ (¬ t.1 0 = 0 ∧ IN n 0 100 ∧ ((IN w 0 1 ∧ IX k (t.1 3)) ∨ (w = 2 ∧ IX k (t.1 2)) ∨ w = 3)) → Q (-2) h := fun c => by
    have := hQ h (RM.rf O.2.2.2.2)
    unfold aAhead at this
    rwa [if_neg c] at this
  have hB := O.2.1.1
  unfold TB at hB
  have s0 : ¬ ((IN w 0 1 ∧ IX k (t.1 3)) ∨ (w = 2 ∧ IX k (t.1 2)) ∨ w = 3) → Sat g mX10_ahead (d + 9) (0, 0) (qI Q) 41 [.ref 252, .int k, .int n, .int w, .double 0, .double 0] [.int 0] h := fun c =>
    wX10_ahead_41 _ _ _ _ O.1 (m_city O (fun _ => ⟨O.1, fun q => absurd q (by decide), fun _ => ⟨fun _ => no (fun y => c y.2.2), fun q => absurd rfl q⟩⟩) (fun z => ⟨O.1, fun _ => no (fun y => y.1 z), fun q => absurd rfl q⟩))
  have s1 : ((IN w 0 1 ∧ IX k (t.1 3)) ∨ (w = 2 ∧ IX k (t.1 2)) ∨ w = 3) → Sat g mX10_ahead (d + 9) (0, 0) (qI Q) 41 [.ref 252, .int k, .int n, .int w, .double 0, .double 0] [.int 1] h := fun hP => by
    refine wX10_ahead_41 _ _ _ _ O.1 (m_city O (fun c => ⟨O.1, fun q => absurd q (by decide), fun _ => ⟨fun q => absurd q (by decide), fun _ => m_in O.1 (a := 0) (b := 100) rfl rfl (by decide) (by decide) (fun j h1 h2 en => ⟨O.1, fun q => absurd q (by decide), fun _ => ?_⟩) (fun z => ⟨O.1, fun _ => no (fun y => z y.2.1), fun q => absurd rfl q⟩)⟩⟩) (fun z => ⟨O.1, fun _ => no (fun y => y.1 z), fun q => absurd rfl q⟩))
    subst en
    have yes : ∀ h', RM h h' → Q (if w = 0 then (itN ρ t j).2 4 k.toNatClampNeg else if w = 1 then (itN ρ t j).2 7 k.toNatClampNeg else if w = 2 then (itN ρ t j).2 1 k.toNatClampNeg else farA (itN ρ t j)) h' := fun h' r => by
      have := hQ h' r
      unfold aAhead at this
      rwa [if_pos ⟨c, IN_j h1 h2 (by decide), hP⟩, nI_clamp (by omega)] at this
    refine m_keepW O c (fun h1 W1 F1 r1 => ⟨W1.1, m_goForW W1 F1 (by omega) (fun h2 W2 F2 _ => ⟨W2.1, ?_⟩)⟩)
    have T2 := W2.2.2.2.1
    have e3 : (itN ρ t j).1 3 = t.1 3 := itN_k ρ t j (by decide)
    have e2 : (itN ρ t j).1 2 = t.1 2 := itN_k ρ t j (by decide)
    have fin : ∀ x, (∀ h', RM h h' → Q x h') → CallV g mX10_laysBack (d + 8) (0, 0) [.ref 252] h2 (fun h' => Lay h' ∧ Q x h') := fun x hx => m_backW W2 O c (fun h3 W3 f3 e3 _ => ⟨W3.1, hx h3 ⟨f3, fun q hq => (e3 q).trans (F2 q hq)⟩⟩)
    rcases hP with ⟨hw, hk⟩ | ⟨rfl, hk⟩ | rfl
    · have vk : vp_in k 6 := by rw [hk.2]; exact vn (by omega) (by omega)
      rcases (show w.toNatClampNeg = 0 ∨ w.toNatClampNeg = 1 by omega) with e | e
      · have ew : w = 0 := by rw [hw.2.2, e]; rfl
        subst ew
        refine ⟨fun _ => ⟨vk, ?_⟩, fun q => absurd rfl q⟩
        rw [mSh T2 (by rw [e3]; exact hk.1)]
        exact fin _ yes
      · have ew : w = 1 := by rw [hw.2.2, e]; rfl
        subst ew
        refine ⟨fun q => absurd q (by decide), fun _ => ⟨fun _ => ⟨vk, ?_⟩, fun q => absurd rfl q⟩⟩
        rw [mLa T2 (by rw [e3]; exact hk.1)]
        exact fin _ yes
    · have vk : vp_in k 5 := by rw [hk.2]; exact vn (by omega) (by omega)
      refine ⟨fun q => absurd q (by decide), fun _ => ⟨fun q => absurd q (by decide), fun _ => ⟨fun _ => ⟨vk, ?_⟩, fun q => absurd rfl q⟩⟩⟩
      rw [mHo T2 (by rw [e2]; exact hk.1)]
      exact fin _ yes
    · refine ⟨fun q => absurd q (by decide), fun _ => ⟨fun q => absurd q (by decide), fun _ => ⟨fun q => absurd q (by decide), fun _ => m_allFar W2.1 T2 W2.2.2.2.2.1 ⟨W2.1, fin _ yes⟩⟩⟩⟩
  have tail : ¬ (IN w 0 1 ∧ IX k (t.1 3)) → (w = 2 → CallI g mX10_isBed (d + 8) [.ref 252, .int k] h (fun i h1 => Lay h1 ∧ (i = 0 → (w = 3 → Sat g mX10_ahead (d + 9) (0, 0) (qI Q) 41 [.ref 252, .int k, .int n, .int w, .double 0, .double 0] [.int 1] h1) ∧ (¬ w = 3 → Sat g mX10_ahead (d + 9) (0, 0) (qI Q) 41 [.ref 252, .int k, .int n, .int w, .double 0, .double 0] [.int 0] h1)) ∧ (¬ i = 0 → Sat g mX10_ahead (d + 9) (0, 0) (qI Q) 41 [.ref 252, .int k, .int n, .int w, .double 0, .double 0] [.int 1] h1))) ∧ (¬ w = 2 → (w = 3 → Sat g mX10_ahead (d + 9) (0, 0) (qI Q) 41 [.ref 252, .int k, .int n, .int w, .double 0, .double 0] [.int 1] h) ∧ (¬ w = 3 → Sat g mX10_ahead (d + 9) (0, 0) (qI Q) 41 [.ref 252, .int k, .int n, .int w, .double 0, .double 0] [.int 0] h)) := fun c => by
    refine ⟨fun c2 => m_isBed O.1 O.2.1 (fun j hj e => ⟨O.1, fun q => absurd q (by decide), fun _ => s1 (Or.inr (Or.inl ⟨c2, by rw [e]; exact IX_j hj (by omega)⟩))⟩) (fun z => ⟨O.1, fun _ => ⟨fun c3 => s1 (Or.inr (Or.inr c3)), fun c3 => s0 (fun y => y.elim c (fun y => y.elim (fun y => IX_no z y.2) c3))⟩, fun q => absurd rfl q⟩), fun c2 => ⟨fun c3 => s1 (Or.inr (Or.inr c3)), fun c3 => s0 (fun y => y.elim c (fun y => y.elim (fun y => c2 y.1) c3))⟩⟩
  refine wX10_ahead_0 _ _ _ O.1 (m_in O.1 (a := 0) (b := 1) rfl rfl (by decide) (by decide) (fun j h1 h2 ew => ⟨O.1, fun q => absurd q (by decide), fun _ => m_isLodger O.1 O.2.1 (fun q hq e => ⟨O.1, fun q => absurd q (by decide), fun _ => s1 (Or.inl ⟨by rw [ew]; exact IN_j h1 h2 (by decide), by rw [e]; exact IX_j hq (by omega)⟩)⟩) (fun z => ⟨O.1, fun _ => tail (fun y => IX_no z y.2), fun q => absurd rfl q⟩)⟩) (fun z => ⟨O.1, fun _ => tail (fun y => z y.1), fun q => absurd rfl q⟩))
theorem m_comes {q s : Int32} {Q : Int32 → HP → Prop} (O : MZ h ρ t) (hb : t.1 4 ≤ 2000) (hQ : ∀ h', RM h h' → Q (aComes ρ t q s) h') : CallI g mX10_comes (d + 8) [.ref 252, .int q, .int s] h Q := by
  have no : ¬ (IX q (t.1 3) ∧ IN s 0 99) → Q (-1) h := fun c => by
    have := hQ h (RM.rf O.2.2.2.2)
    unfold aComes at this
    rwa [if_neg c] at this
  have hB := O.2.1.1
  unfold TB at hB
  refine wX10_comes_0 _ _ O.1 (m_isLodger O.1 O.2.1 (fun j hj eq => ⟨O.1, fun q => absurd q (by decide), fun _ => m_in O.1 (a := 0) (b := 99) rfl rfl (by decide) (by decide) (fun v h3 h4 ew => ⟨O.1, fun q => absurd q (by decide), fun _ => ?_⟩) (fun z => ⟨O.1, fun _ => no (fun y => z y.2), fun q => absurd rfl q⟩)⟩) (fun z => ⟨O.1, fun _ => no (fun y => IX_no z y.1), fun q => absurd rfl q⟩))
  have hs : IN s 0 99 := by rw [ew]; exact IN_j h3 h4 (by decide)
  clear ew h3 h4
  subst eq
  have c : ¬ t.1 0 = 0 := fun z => by have := (O.2.2.1.1 z).2; omega
  have yes : ∀ h', RM h h' → Q (comesT ρ t j s 200 0) h' := fun h' r => by
    have := hQ h' r
    unfold aComes at this
    rwa [if_pos ⟨IX_j hj (by omega), hs⟩, nI_clamp (by omega)] at this
  refine m_keepW O c (fun h1 W1 F1 r1 => ⟨W1.1, ?_⟩)
  have fin : ∀ (x : Int32) t' h2, MW h ρ t' h2 → MF h2 → (∀ h', RM h h' → Q x h') → CallV g mX10_laysBack (d + 7) (0, 0) [.ref 252] h2 (fun h' => Lay h' ∧ Q x h') := fun x t' h2 W2 F2 hx => m_backW W2 O c (fun h3 W3 f3 e3 _ => ⟨W3.1, hx h3 ⟨f3, fun q hq => (e3 q).trans (F2 q hq)⟩⟩)
  refine loopN (σ := Unit) (P := fun i _ h' => Sat g mX10_comes (d + 8) (0, 0) (qI Q) 32 [.ref 252, .int (nI j), .int s, .int (-2), .int (nI i)] [] h') (I := fun i _ h' => MW h ρ (itN ρ t i) h' ∧ MF h' ∧ ∀ h', RM h h' → Q (comesT ρ t j s (200 - i) i) h') 200 (fun _ h' e => ?_) (fun i _ h' hi e ih => ?_) 0 () h1 (by omega) ⟨W1, F1, yes⟩
  · exact wX10_comes_32 _ _ _ _ e.1.1 ⟨fun _ => fin _ _ _ e.1 e.2.1 e.2.2, fun q => absurd (by decide) q⟩
  · obtain ⟨W, F, hx⟩ := e
    have T := W.2.2.2.1
    have e3 : (itN ρ t i).1 3 = t.1 3 := itN_k ρ t i (by decide)
    have hx2 : ∀ h', RM h h' → Q (if (itN ρ t i).2 4 j = s then nI ((itN ρ t i).1 4) else comesT ρ t j s (200 - (i + 1)) (i + 1)) h' := fun h' r => by
      have := hx h' r
      rw [show 200 - i = (200 - (i + 1)) + 1 by omega, comesT] at this
      exact this
    refine wX10_comes_32 _ _ _ _ W.1 ⟨fun q => absurd q (nI_ge (a := i) (b := 200) hi (by omega)), fun _ => ⟨fun _ => ?_, fun q => absurd rfl q⟩⟩
    rw [nI_clamp (n := j) (by omega), mSh T (by rw [e3]; exact hj), nI_1, mS T 4 (by omega)]
    refine ⟨vn (by omega) (by omega), fun q => ?_, fun q => ?_⟩
    · rw [if_pos q] at hx2
      refine m_goesW W (F.mu T.1) (by rw [itN_4]; omega) (fun h2 W2 f2 _ => ⟨W2.1, ?_⟩)
      have F2 : MF h2 := fun q hq => (f2.I (by unfold AG; omega)).trans (F q hq)
      refine wX10_comes_32 _ _ _ _ W2.1 ⟨fun _ => fin _ _ _ W2 F2 hx2, fun _ => ⟨fun z => ?_, fun _ => fin _ _ _ W2 F2 hx2⟩⟩
      have hn : (itN ρ t i).1 4 < 2 ^ 31 := by rw [itN_4]; omega
      have := nI_pos hn
      rw [z] at this
      exact absurd (by decide) this
    · rw [if_neg q] at hx2
      refine m_goesW W (F.mu T.1) (by rw [itN_4]; omega) (fun h2 W2 f2 _ => ⟨W2.1, ih () h2 ⟨W2, fun q hq => (f2.I (by unfold AG; omega)).trans (F q hq), hx2⟩⟩)
theorem m_best {n w : Int32} {Q : Int32 → HP → Prop} (O : MZ h ρ t) (hb : t.1 4 ≤ 2000) (hQ : ∀ h', RM h h' → Q (aBest ρ t n w) h') : CallI g mX10_best (d + 10) [.ref 252, .int n, .int w] h Q := by
  have no : ¬ (¬ t.1 0 = 0 ∧ IN n 1 60 ∧ IN w 0 1) → Q (-1) h := fun c => by
    have := hQ h (RM.rf O.2.2.2.2)
    unfold aBest at this
    rwa [if_neg c] at this
  refine wX10_best_0 _ _ O.1 (m_city O (fun c => ⟨O.1, fun q => absurd q (by decide), fun _ => m_in O.1 (a := 1) (b := 60) rfl rfl (by decide) (by decide) (fun j h1 h2 en => ⟨O.1, fun q => absurd q (by decide), fun _ => m_in O.1 (a := 0) (b := 1) rfl rfl (by decide) (by decide) (fun v h3 h4 ew => ⟨O.1, fun q => absurd q (by decide), fun _ => ?_⟩) (fun z => ⟨O.1, fun _ => no (fun y => z y.2.2), fun q => absurd rfl q⟩)⟩) (fun z => ⟨O.1, fun _ => no (fun y => z y.2.1), fun q => absurd rfl q⟩)⟩) (fun z => ⟨O.1, fun _ => no (fun y => y.1 z), fun q => absurd rfl q⟩))
  subst en ew
  have hB := O.2.1.1
  unfold TB at hB
  have yes : ∀ h', RM h h' → Q (if v = 0 then (beB ρ t j 60).1 else (beB ρ t j 60).2) h' := fun h' r => by
    have := hQ h' r
    unfold aBest at this
    rw [if_pos ⟨c, IN_j h1 h2 (by decide), IN_j h3 h4 (by decide)⟩, nI_clamp (by omega)] at this
    rcases (show v = 0 ∨ v = 1 by omega) with rfl | rfl <;> exact this
  refine m_keepW O c (fun h1 W1 F1 r1 => ⟨W1.1, ?_⟩)
  refine loopN (σ := Unit) (P := fun i _ h' => Sat g mX10_best (d + 10) (0, 0) (qI Q) 45 [.ref 252, .int (nI j), .int (nI v), .int (beB ρ t j i).1, .int (beB ρ t j i).2, .int (nI (i + 1)), .double 0] [] h') (I := fun i _ h' => MW h ρ t h' ∧ RM h h') 60 (fun _ h' e => ?_) (fun i _ h' hi e ih => ?_) 0 () h1 (by omega) ⟨W1, r1⟩
  · refine wX10_best_45 _ _ _ _ _ e.1.1 ⟨fun _ => ?_, fun q => absurd (by decide) q⟩
    have := yes h' e.2
    rcases (show v = 0 ∨ v = 1 by omega) with rfl | rfl
    · exact ⟨fun _ => this, fun q => absurd rfl q⟩
    · exact ⟨fun q => absurd q (by decide), fun _ => this⟩
  · refine wX10_best_45 _ _ _ _ _ e.1.1 ⟨fun q => absurd q (nI_nlt (a := 60) (b := i + 1) (by omega) (by omega)), fun _ => ?_⟩
    have T := e.1.2.2.2.1
    have f3 : FrC (fun x k => x = 253 ∧ k = 0) h' (setI h' 253 0 (nI (i + 1))) := FrC.stI (by omega)
    have W3 := e.1.set (t' := cardS t (i + 1)) f3 (fun x k hx => by unfold AU AF AT; omega) (T.card (by omega)) (cardS_ok T.1 e.1.2.2.2.2.1 (by omega) (by omega)).2 (show ¬ i + 1 = 0 by omega)
    have F3 : MF (setI h' 253 0 (nI (i + 1))) := fun q hq => (f3.I (by omega)).trans (e.2.2 q hq)
    refine m_farIn W3 F3 O c (show t.1 4 + j ≤ 5000 by omega) (fun h4 W4 r4 => ⟨W4.1, fun q => ?_, fun q => ?_⟩)
    · rw [nI_1]
      have := ih () h4 ⟨W4, r4⟩
      rw [beB, if_neg (fun w => Int32.not_lt.mpr q w)] at this
      exact this
    · rw [nI_1]
      have := ih () h4 ⟨W4, r4⟩
      rw [beB, if_pos (Int32.not_le.mp q)] at this
      exact this
theorem m_twins {n w : Int32} {Q : Int32 → HP → Prop} (O : MZ h ρ t) (hb : t.1 4 ≤ 2000) (hQ : ∀ h', RM h h' → Q (aTwins ρ t n w) h') : CallI g mX10_twins (d + 9) [.ref 252, .int n, .int w] h Q := by
  have no : ¬ (¬ t.1 0 = 0 ∧ IN n 0 100 ∧ IN w 0 2) → Q (-1) h := fun c => by
    have := hQ h (RM.rf O.2.2.2.2)
    unfold aTwins at this
    rwa [if_neg c] at this
  refine wX10_twins_0 _ _ O.1 (m_city O (fun c => ⟨O.1, fun q => absurd q (by decide), fun _ => m_in O.1 (a := 0) (b := 100) rfl rfl (by decide) (by decide) (fun j h1 h2 en => ⟨O.1, fun q => absurd q (by decide), fun _ => m_in O.1 (a := 0) (b := 2) rfl rfl (by decide) (by decide) (fun v h3 h4 ew => ⟨O.1, fun q => absurd q (by decide), fun _ => ?_⟩) (fun z => ⟨O.1, fun _ => no (fun y => z y.2.2), fun q => absurd rfl q⟩)⟩) (fun z => ⟨O.1, fun _ => no (fun y => z y.2.1), fun q => absurd rfl q⟩)⟩) (fun z => ⟨O.1, fun _ => no (fun y => y.1 z), fun q => absurd rfl q⟩))
  subst en ew
  have hB := O.2.1.1
  unfold TB at hB
  have hin : ¬ t.1 0 = 0 ∧ IN (nI j) 0 100 ∧ IN (nI v) 0 2 := ⟨c, IN_j h1 h2 (by decide), IN_j h3 h4 (by decide)⟩
  refine m_keepW O c (fun h1 W1 F1 r1 => ⟨W1.1, m_goForW W1 F1 (by omega) (fun h2 W2 F2 _ => ⟨W2.1, ?_⟩)⟩)
  have T2 := W2.2.2.2.1
  have e3 : (itN ρ t j).1 3 = t.1 3 := itN_k ρ t j (by decide)
  generalize es : (itN ρ t j).2 4 = s at *
  have rS : ∀ i, i < t.1 3 → hI h2 257 i = s i := fun i hi => by rw [mSh T2 (by rw [e3]; exact hi), es]
  have r3 : hI h2 253 3 = nI (t.1 3) := by rw [mS T2 3 (by omega), e3]
  have yes : ∀ h', RM h h' → Q (if nI v = 0 then nI (twO s (t.1 3) (t.1 3)).1 else if nI v = 1 then (twO s (t.1 3) (t.1 3)).2.1 else (twO s (t.1 3) (t.1 3)).2.2) h' := fun h' r => by
    have := hQ h' r
    unfold aTwins at this
    rwa [if_pos hin, nI_clamp (n := j) (by omega), es] at this
  refine loopN (σ := Unit) (P := fun i _ h' => Sat g mX10_twins (d + 9) (0, 0) (qI Q) 55 [.ref 252, .double 0, .int (nI v), .int (nI (twO s (t.1 3) i).1), .int (twO s (t.1 3) i).2.1, .int (twO s (t.1 3) i).2.2, .int (nI i), .double 0] [] h') (I := fun i _ h' => h' = h2) (t.1 3) (fun _ h' e => ?_) (fun i _ h' hi e ih => ?_) 0 () h2 (by omega) rfl
  · subst e
    refine wX10_twins_55 _ _ _ _ _ W2.1 ?_
    rw [r3]
    refine ⟨fun _ => m_backW W2 O c (fun h3 W3 f3 e3 _ => ⟨W3.1, ?_⟩), fun q => absurd (nI_le (Nat.le_refl _) (by omega)) q⟩
    have := yes h3 ⟨f3, fun q hq => (e3 q).trans (F2 q hq)⟩
    exact ⟨fun q => by rwa [if_pos q] at this, fun q => ⟨fun q2 => by rwa [if_neg q, if_pos q2] at this, fun q2 => by rwa [if_neg q, if_neg q2] at this⟩⟩
  · subst e
    refine wX10_twins_55 _ _ _ _ _ W2.1 ?_
    rw [r3]
    refine ⟨fun q => absurd q (nI_ge hi (by omega)), fun _ => ?_⟩
    rw [nI_1]
    have hp0 := twO_le s (t.1 3) (by omega) i
    refine loopN (σ := Unit) (P := fun k _ h'' => Sat g mX10_twins (d + 9) (0, 0) (qI Q) 72 [.ref 252, .double 0, .int (nI v), .int (nI (twI s i (twO s (t.1 3) i) k).1), .int (twI s i (twO s (t.1 3) i) k).2.1, .int (twI s i (twO s (t.1 3) i) k).2.2, .int (nI i), .int (nI (i + 1 + k))] [] h'') (I := fun k _ h'' => h'' = h') (t.1 3 - (i + 1)) (fun _ h'' e => ?_) (fun k _ h'' hk e ih2 => ?_) 0 () h' (by omega) rfl
    · subst e
      refine wX10_twins_72 _ _ _ _ _ _ W2.1 ?_
      rw [r3, nI_1, show i + 1 + (t.1 3 - (i + 1)) = t.1 3 by omega]
      exact ⟨fun _ => ih () h'' rfl, fun q => absurd (nI_le (Nat.le_refl _) (by omega)) q⟩
    · subst e
      have hp := twI_le s i (twO s (t.1 3) i) k
      have nx := ih2 () h'' rfl
      rw [show twI s i (twO s (t.1 3) i) (k + 1) = twA s i (i + 1 + k) (twI s i (twO s (t.1 3) i) k) from rfl] at nx
      generalize twI s i (twO s (t.1 3) i) k = p at *
      unfold twA at nx
      refine wX10_twins_72 _ _ _ _ _ _ W2.1 ?_
      rw [r3, nI_clamp (n := i) (by omega), nI_clamp (n := i + 1 + k) (by omega), rS i hi, rS (i + 1 + k) (by omega), nI_1 p.1, nI_1 (i + 1 + k)]
      refine ⟨fun q => absurd q (nI_ge (by omega) (by omega)), fun _ => ⟨vn (by omega) (by omega), vn (by omega) (by omega), fun q => ?_, fun q => ?_⟩⟩
      · rw [if_pos q] at nx
        refine ⟨fun z => ?_, fun z => ?_⟩
        · have z1 : p.1 = 0 := (nI_eq (by omega) (by omega)).mp z
          rw [if_pos z1, if_pos z1] at nx
          exact ⟨fun _ => nx, fun q => absurd z q⟩
        · have z1 : ¬ p.1 = 0 := fun y => z (by rw [y]; rfl)
          rw [if_neg z1, if_neg z1] at nx
          exact ⟨fun q => absurd q z, fun _ => nx⟩
      · rw [if_neg q] at nx
        exact nx
end MP2
