/-! the reference's town: the same picture at 253; frames by cells; loops -/
/-- the cells of longs -/
def JC (x : Nat) : Prop := x = 284 ∨ x = 285 ∨ x = 45 ∨ x = 46
def FrC (A : Nat → Nat → Prop) (h h' : HP) : Prop := h'.1 = h.1 ∧ hR h' = hR h ∧ ∀ x k, (¬ A x k → hI h' x k = hI h x k) ∧ (¬ (A x k ∧ JC x) → hJ h' x k = hJ h x k)
theorem FrC.rf {A : Nat → Nat → Prop} (h : HP) : FrC A h h := ⟨rfl, rfl, fun _ _ => ⟨fun _ => rfl, fun _ => rfl⟩⟩
theorem FrC.tr {A : Nat → Nat → Prop} {h h1 h2 : HP} (p : FrC A h h1) (q : FrC A h1 h2) : FrC A h h2 := ⟨q.1.trans p.1, q.2.1.trans p.2.1, fun x k => ⟨fun hx => ((q.2.2 x k).1 hx).trans ((p.2.2 x k).1 hx), fun hx => ((q.2.2 x k).2 hx).trans ((p.2.2 x k).2 hx)⟩⟩
theorem FrC.wd {A B : Nat → Nat → Prop} {h h' : HP} (p : FrC A h h') (hAB : ∀ x k, A x k → B x k) : FrC B h h' := ⟨p.1, p.2.1, fun x k => ⟨fun hx => (p.2.2 x k).1 (fun q => hx (hAB x k q)), fun hx => (p.2.2 x k).2 (fun q => hx ⟨hAB x k q.1, q.2⟩)⟩⟩
theorem FrC.stI {A : Nat → Nat → Prop} {h : HP} {x k : Nat} {v : Int32} (ha : A x k) : FrC A h (setI h x k v) := ⟨rfl, rfl, fun _ _ => ⟨fun hy => up2_ne _ _ (fun e => hy (by rw [e.1, e.2]; exact ha)), fun _ => rfl⟩⟩
theorem FrC.stJ {A : Nat → Nat → Prop} {h : HP} {x k : Nat} {v : Int64} (ha : A x k) (hj : JC x := by unfold JC; decide) : FrC A h (setJ h x k v) := ⟨rfl, rfl, fun _ _ => ⟨fun _ => rfl, fun hy => up2_ne _ _ (fun e => hy (by rw [e.1, e.2]; exact ⟨ha, hj⟩))⟩⟩
theorem FrC.K {A : Nat → Nat → Prop} {h h' : HP} (p : FrC A h h') : hK h' = hK h := by show h'.1.2.1 = h.1.2.1; rw [p.1]
theorem FrC.N {A : Nat → Nat → Prop} {h h' : HP} (p : FrC A h h') : hN h' = hN h := by show h'.1.2.2 = h.1.2.2; rw [p.1]
theorem FrC.I {A : Nat → Nat → Prop} {h h' : HP} (p : FrC A h h') {x k : Nat} (hx : ¬ A x k) : hI h' x k = hI h x k := (p.2.2 x k).1 hx
theorem FrC.J {A : Nat → Nat → Prop} {h h' : HP} (p : FrC A h h') {x k : Nat} (hx : ¬ A x k) : hJ h' x k = hJ h x k := (p.2.2 x k).2 (fun q => hx q.1)
theorem FrC.Jn {A : Nat → Nat → Prop} {h h' : HP} (p : FrC A h h') {x k : Nat} (hx : ¬ JC x) : hJ h' x k = hJ h x k := (p.2.2 x k).2 (fun q => hx q.2)
theorem FrC.lay {A : Nat → Nat → Prop} {h h' : HP} (p : FrC A h h') (L : Lay h) : Lay h' := L.to p.K p.N p.2.1
theorem rdI {h : HP} {a k : Nat} {v : Int32} : hI (setI h a k v) a k = v := up2_eq _ _ _ _
theorem rdJ {h : HP} {a k : Nat} {v : Int64} : hJ (setJ h a k v) a k = v := up2_eq _ _ _ _
theorem rdn {h : HP} {a k x y : Nat} {v : Int32} (e : ¬ (x = a ∧ y = k)) : hI (setI h a k v) x y = hI h x y := up2_ne _ _ e
theorem rdnJ {h : HP} {a k x y : Nat} {v : Int64} (e : ¬ (x = a ∧ y = k)) : hJ (setJ h a k v) x y = hJ h x y := up2_ne _ _ e
theorem rdI_ite {h : HP} {a k x y : Nat} {v : Int32} : hI (setI h a k v) x y = if x = a ∧ y = k then v else hI h x y := rfl
/-- a loop that counts from 0 to n -/
theorem loopN {σ : Type} {P I : Nat → σ → HP → Prop} (n : Nat) (last : ∀ s h, I n s h → P n s h) (step : ∀ i s h, i < n → I i s h → (∀ s' h', I (i + 1) s' h' → P (i + 1) s' h') → P i s h) : ∀ i s h, i ≤ n → I i s h → P i s h := by
  have : ∀ k i s h, i + k = n → I i s h → P i s h := by
    intro k
    induction k with
    | zero => intro i s h e hi; have : i = n := by omega
              subst this; exact last s h hi
    | succ k ih => intro i s h e hi; exact step i s h (by omega) hi (fun s' h' hi' => ih (i + 1) s' h' (by omega) hi')
  intro i s h hi hI
  exact this (n - i) i s h (by omega) hI
def TD (h : HP) (a : Nat) (t : Tw) : Prop := TB t ∧ (∀ k, k < 5 → hI h a k = nI (t.1 k)) ∧ ∀ r j, rowOK t r j → hI h (a + r) j = t.2 r j
theorem TD.congr {h : HP} {a : Nat} {t t' : Tw} (hT : TD h a t) (h1 : ∀ k, k < 5 → t'.1 k = t.1 k) (h2 : ∀ r j, rowOK t r j → t'.2 r j = t.2 r j) : TD h a t' := by
  have e2 := h1 2 (by omega)
  have e3 := h1 3 (by omega)
  refine ⟨?_, fun k hk => by rw [h1 k hk]; exact hT.2.1 k hk, fun r j hr => ?_⟩
  · have := hT.1
    unfold TB at this ⊢
    rw [h1 0 (by omega), h1 1 (by omega), e2, e3, h1 4 (by omega)]
    exact this
  · have hr' : rowOK t r j := by unfold rowOK at hr ⊢; rw [e2, e3] at hr; exact hr
    rw [h2 r j hr']
    exact hT.2.2 r j hr'
theorem TD.set {h : HP} {a : Nat} {t : Tw} (hT : TD h a t) (r j : Nat) (v : Int32) (h1 : 1 ≤ r) (h2 : r ≤ 8) : TD (setI h (a + r) j v) a (setT t r j v) := by
  refine ⟨hT.1, fun k hk => ?_, fun r2 j2 hr => ?_⟩
  · rw [rdn (by omega)]
    exact hT.2.1 k hk
  · have e := hT.2.2 r2 j2 hr
    show up2 (hI h) (a + r) j v (a + r2) j2 = up2 t.2 r j v r2 j2
    by_cases c : r2 = r ∧ j2 = j
    · obtain ⟨rfl, rfl⟩ := c
      rw [up2_eq, up2_eq]
    · rw [up2_ne _ _ (by omega), up2_ne _ _ c]
      exact e
theorem TD.fr {A : Nat → Nat → Prop} {h h' : HP} {a : Nat} {t : Tw} (hT : TD h a t) (p : FrC A h h') (h1 : ∀ k, k < 5 → ¬ A a k) (h2 : ∀ r j, 1 ≤ r → r ≤ 8 → ¬ A (a + r) j) : TD h' a t := by
  refine ⟨hT.1, fun k hk => ?_, fun r j hr => ?_⟩
  · rw [p.I (h1 k hk)]; exact hT.2.1 k hk
  · rw [p.I (h2 r j (by unfold rowOK at hr; omega) (by unfold rowOK at hr; omega))]; exact hT.2.2 r j hr
theorem TD.to {h h' : HP} {a : Nat} {t : Tw} (hT : TD h a t) (h1 : ∀ k, k < 5 → hI h' a k = hI h a k) (h2 : ∀ r j, 1 ≤ r → r ≤ 8 → hI h' (a + r) j = hI h (a + r) j) : TD h' a t := by
  refine ⟨hT.1, fun k hk => ?_, fun r j hr => ?_⟩
  · rw [h1 k hk]; exact hT.2.1 k hk
  · rw [h2 r j (by unfold rowOK at hr; omega) (by unfold rowOK at hr; omega)]; exact hT.2.2 r j hr
theorem TD.next {h : HP} {a : Nat} {t : Tw} (hT : TD h a t) (hb : t.1 4 + 1 ≤ 5000) : TD (setI h a 4 (hI h a 4 + 1)) a (nextT t) := by
  have e4 := hT.2.1 4 (by omega)
  rw [e4, nI_1]
  have hB := hT.1
  unfold TB at hB
  refine ⟨?_, fun k hk => ?_, fun r j hr => ?_⟩
  · show TB (up1 t.1 4 (t.1 4 + 1), t.2)
    unfold TB
    simp only [up1]
    simp
    omega
  · show up2 (hI h) a 4 _ a k = nI (up1 t.1 4 (t.1 4 + 1) k)
    by_cases c : k = 4
    · subst c; rw [up2_eq, up1_at]
    · rw [up2_ne _ _ (by omega)]
      simp only [up1, if_neg c]
      exact hT.2.1 k hk
  · have hr' : rowOK t r j := by
      unfold rowOK nextT at hr
      simp [up1] at hr
      unfold rowOK
      omega
    rw [rdn (by unfold rowOK at hr'; omega)]
    exact hT.2.2 r j hr'
section MB
variable {h : HP} {t : Tw} {j : Nat}
theorem mS (T : TD h 253 t) (k : Nat) (hk : k < 5) : hI h 253 k = nI (t.1 k) := T.2.1 k hk
theorem mHo (T : TD h 253 t) (hj : j < t.1 2) : hI h 254 j = t.2 1 j := T.2.2 1 j (Or.inl ⟨by omega, by omega, hj⟩)
theorem mUn (T : TD h 253 t) (hj : j < t.1 2) : hI h 255 j = t.2 2 j := T.2.2 2 j (Or.inl ⟨by omega, by omega, hj⟩)
theorem mSt (T : TD h 253 t) (hj : j < t.1 2) : hI h 256 j = t.2 3 j := T.2.2 3 j (Or.inl ⟨by omega, by omega, hj⟩)
theorem mSh (T : TD h 253 t) (hj : j < t.1 3) : hI h 257 j = t.2 4 j := T.2.2 4 j (Or.inr ⟨by omega, by omega, hj⟩)
theorem mBo (T : TD h 253 t) (hj : j < t.1 3) : hI h 258 j = t.2 5 j := T.2.2 5 j (Or.inr ⟨by omega, by omega, hj⟩)
theorem mWa (T : TD h 253 t) (hj : j < t.1 3) : hI h 259 j = t.2 6 j := T.2.2 6 j (Or.inr ⟨by omega, by omega, hj⟩)
theorem mLa (T : TD h 253 t) (hj : j < t.1 3) : hI h 260 j = t.2 7 j := T.2.2 7 j (Or.inr ⟨by omega, by omega, hj⟩)
theorem mNi (T : TD h 253 t) (hj : j < t.1 3) : hI h 261 j = t.2 8 j := T.2.2 8 j (Or.inr ⟨by omega, by omega, hj⟩)
end MB
theorem vn {j n : Nat} (hj : j < n) (hn : n ≤ 6000) : vp_in (nI j) n := vp_in_nI hj (by omega)
section MT
variable {g : GT} {d : Nat} {h : HP} {t : Tw}
theorem m_isCity {Q : Int32 → HP → Prop} (L : Lay h) (T : TD h 253 t) (hQ : Q (if t.1 0 = 0 then 0 else 1) h) : CallI g mX10_isCity d [.ref 252] h Q := by
  have hB := T.1
  unfold TB at hB
  refine wX10_isCity_0 L ?_
  rw [mS T 0 (by omega)]
  by_cases c : t.1 0 = 0
  · rw [if_pos c] at hQ
    rw [c]
    exact ⟨fun _ => hQ, fun q => absurd (show nI 0 ≤ 0 from by decide) q⟩
  · rw [if_neg c] at hQ
    exact ⟨fun q => absurd q (nI_nle (by omega) (by omega)), fun _ => hQ⟩
theorem in64 {x : Int32} {n : Nat} {Q : Int32 → HP → Prop} (L : Lay h) (hn : n < 2 ^ 31) (hy : ∀ j, j < n → x = nI j → Q 1 h) (hno : (∀ j, j < n → ¬ x = nI j) → Q 0 h) : CallI g mX10_in d [.long x.toInt64, .long 0, .long (nI n - 1).toInt64] h Q := by
  have e0 : (0 : Int64).toInt = 0 := rfl
  have en : (nI n - 1).toInt = (n : Int) - 1 := by
    rcases Nat.eq_zero_or_pos n with c | c
    · subst c; decide
    · obtain ⟨p, rfl⟩ : ∃ p, n = p + 1 := ⟨n - 1, by omega⟩
      rw [nI_pred, nI_toInt (by omega)]
      omega
  refine wX10_in_0 _ _ _ L ?_
  rw [lg_cmp_lt, Int64.lt_iff_toInt_lt, lg_cmp_gt, Int64.lt_iff_toInt_lt, Int32.toInt_toInt64, Int32.toInt_toInt64, e0, en]
  rcases pk_ix x hn with c | c | ⟨j, hj, rfl⟩
  · refine ⟨fun _ => hno (no_idx hn (Or.inl c)), fun q => absurd ?_ q⟩
    rw [Int32.lt_iff_toInt_lt] at c
    exact c
  · rw [Int32.le_iff_toInt_le, nI_toInt hn] at c
    refine ⟨fun q => ?_, fun _ => ⟨fun _ => hno (no_idx hn (Or.inr (by rw [Int32.le_iff_toInt_le, nI_toInt hn]; exact c))), fun q => absurd (show (n : Int) - 1 < x.toInt by omega) q⟩⟩
    omega
  · rw [nI_toInt (by omega)]
    exact ⟨fun q => by omega, fun _ => ⟨fun q => by omega, fun _ => hy j hj rfl⟩⟩
theorem m_isBed {x : Int32} {Q : Int32 → HP → Prop} (L : Lay h) (T : TD h 253 t) (hy : ∀ j, j < t.1 2 → x = nI j → Q 1 h) (hn : (∀ j, j < t.1 2 → ¬ x = nI j) → Q 0 h) : CallI g mX10_isBed (d + 1) [.ref 252, .int x] h Q := by
  have hB := T.1
  unfold TB at hB
  refine wX10_isBed_0 x L ?_
  rw [mS T 2 (by omega)]
  exact in64 L (by omega) (fun j hj e => ⟨L, rfl, hy j hj e⟩) (fun q => ⟨L, rfl, hn q⟩)
theorem m_isLodger {x : Int32} {Q : Int32 → HP → Prop} (L : Lay h) (T : TD h 253 t) (hy : ∀ j, j < t.1 3 → x = nI j → Q 1 h) (hn : (∀ j, j < t.1 3 → ¬ x = nI j) → Q 0 h) : CallI g mX10_isLodger (d + 1) [.ref 252, .int x] h Q := by
  have hB := T.1
  unfold TB at hB
  refine wX10_isLodger_0 x L ?_
  rw [mS T 3 (by omega)]
  exact in64 L (by omega) (fun j hj e => ⟨L, rfl, hy j hj e⟩) (fun q => ⟨L, rfl, hn q⟩)
theorem dist_eq {x y : Int32} (hx : RG x) (hy : RG y) : (if x ≤ y then y - x else x - y) = distI x y := by
  obtain ⟨a, ha, rfl⟩ := hx
  obtain ⟨b, hb, rfl⟩ := hy
  unfold distI
  rcases Nat.lt_or_ge a b with c | c
  · rw [if_pos (nI_le (by omega) (by omega)), if_neg, Int32.neg_sub]
    rw [Int32.not_le]
    exact pk_sneg (by omega) c
  · by_cases e : a = b
    · subst e
      rw [if_pos (nI_le (by omega) (by omega)), if_pos] <;> rw [pk_sub (Nat.le_refl _)] <;> simp
      exact nI_pos' (by omega)
    · rw [if_neg (nI_ge (by omega) (by omega)), if_pos]
      rw [pk_sub c]
      exact nI_pos' (by omega)
theorem m_differ {x y : Int32} {Q : Int32 → HP → Prop} (L : Lay h) (hx : RG x) (hy : RG y) (hQ : Q (distI x y) h) : CallI g mX10_differ d [.int x, .int y] h Q := by
  rw [← dist_eq hx hy] at hQ
  refine wX10_differ_0 x y L ⟨fun c => ?_, fun c => ?_⟩
  · rw [if_pos c] at hQ; exact hQ
  · rw [if_neg c] at hQ; exact hQ
theorem m_farOf {i : Nat} {Q : Int32 → HP → Prop} (L : Lay h) (T : TD h 253 t) (R : TR t) (hi : i < t.1 3) (hQ : Q (farT t i) h) : CallI g mX10_farOf (d + 1) [.ref 252, .int (nI i)] h Q := by
  have hB := T.1
  unfold TB at hB
  refine wX10_farOf_0 (nI i) L ⟨vn (by omega) (by omega), ?_⟩
  rw [nI_clamp (by omega), mSh T hi, mWa T hi]
  exact m_differ L (R.2.2 i hi).1 (R.2.2 i hi).2.2.1 ⟨L, hQ⟩
theorem m_allFar {Q : Int32 → HP → Prop} (L : Lay h) (T : TD h 253 t) (R : TR t) (hQ : Q (sumI (farT t) (t.1 3)) h) : CallI g mX10_allFar (d + 2) [.ref 252] h Q := by
  have hB := T.1
  unfold TB at hB
  refine wX10_allFar_0 L ?_
  refine loopN (σ := Unit) (P := fun i _ h' => Sat g mX10_allFar (d + 2) (0, 0) _ 4 [.ref 252, .int (sumI (farT t) i), .int (nI i)] [] h') (I := fun _ _ h' => h' = h) (t.1 3) (fun _ h' e => ?_) (fun i _ h' hi e ih => ?_) 0 () h (by omega) rfl
  · subst e
    refine wX10_allFar_4 _ _ L ?_
    rw [mS T 3 (by omega)]
    exact ⟨fun _ => hQ, fun q => absurd (nI_le (Nat.le_refl _) (by omega)) q⟩
  · subst e
    refine wX10_allFar_4 _ _ L ?_
    rw [mS T 3 (by omega)]
    refine ⟨fun q => absurd q (nI_ge hi (by omega)), fun _ => m_farOf L T R hi ⟨L, ?_⟩⟩
    rw [nI_1]
    exact ih () h' rfl
theorem m_allHollows {Q : Int32 → HP → Prop} (L : Lay h) (T : TD h 253 t) (hQ : Q (sumI (t.2 1) (t.1 2)) h) : CallI g mX10_allHollows d [.ref 252] h Q := by
  have hB := T.1
  unfold TB at hB
  refine wX10_allHollows_0 L ?_
  refine loopN (σ := Unit) (P := fun i _ h' => Sat g mX10_allHollows d (0, 0) _ 4 [.ref 252, .int (sumI (t.2 1) i), .int (nI i)] [] h') (I := fun _ _ h' => h' = h) (t.1 2) (fun _ h' e => ?_) (fun i _ h' hi e ih => ?_) 0 () h (by omega) rfl
  · subst e
    refine wX10_allHollows_4 _ _ L ?_
    rw [mS T 2 (by omega)]
    exact ⟨fun _ => hQ, fun q => absurd (nI_le (Nat.le_refl _) (by omega)) q⟩
  · subst e
    refine wX10_allHollows_4 _ _ L ?_
    rw [mS T 2 (by omega)]
    refine ⟨fun q => absurd q (nI_ge hi (by omega)), fun _ => ⟨vn (by omega) (by omega), ?_⟩⟩
    rw [nI_1, nI_clamp (by omega), mHo T hi]
    exact ih () h' rfl
theorem m_allNights {Q : Int32 → HP → Prop} (L : Lay h) (T : TD h 253 t) (hQ : Q (sumI (t.2 8) (t.1 3)) h) : CallI g mX10_allNights d [.ref 252] h Q := by
  have hB := T.1
  unfold TB at hB
  refine wX10_allNights_0 L ?_
  refine loopN (σ := Unit) (P := fun i _ h' => Sat g mX10_allNights d (0, 0) _ 4 [.ref 252, .int (sumI (t.2 8) i), .int (nI i)] [] h') (I := fun _ _ h' => h' = h) (t.1 3) (fun _ h' e => ?_) (fun i _ h' hi e ih => ?_) 0 () h (by omega) rfl
  · subst e
    refine wX10_allNights_4 _ _ L ?_
    rw [mS T 3 (by omega)]
    exact ⟨fun _ => hQ, fun q => absurd (nI_le (Nat.le_refl _) (by omega)) q⟩
  · subst e
    refine wX10_allNights_4 _ _ L ?_
    rw [mS T 3 (by omega)]
    refine ⟨fun q => absurd q (nI_ge hi (by omega)), fun _ => ⟨vn (by omega) (by omega), ?_⟩⟩
    rw [nI_1, nI_clamp (by omega), mNi T hi]
    exact ih () h' rfl
theorem m_layOn {x : Int32} {Q : Int32 → HP → Prop} (L : Lay h) (T : TD h 253 t) (hQ : Q (bitsT (t.2 7) x (t.1 3)) h) : CallI g mX10_layOn d [.ref 252, .int x] h Q := by
  have hB := T.1
  unfold TB at hB
  refine wX10_layOn_0 x L ?_
  refine loopN (σ := Unit) (P := fun i _ h' => Sat g mX10_layOn d (0, 0) _ 4 [.ref 252, .int x, .int (bitsT (t.2 7) x i), .int (nI i)] [] h') (I := fun _ _ h' => h' = h) (t.1 3) (fun _ h' e => ?_) (fun i _ h' hi e ih => ?_) 0 () h (by omega) rfl
  · subst e
    refine wX10_layOn_4 _ _ _ L ?_
    rw [mS T 3 (by omega)]
    exact ⟨fun _ => hQ, fun q => absurd (nI_le (Nat.le_refl _) (by omega)) q⟩
  · subst e
    have ih := ih () h' rfl
    rw [bitsT_s] at ih
    refine wX10_layOn_4 _ _ _ L ?_
    rw [mS T 3 (by omega)]
    refine ⟨fun q => absurd q (nI_ge hi (by omega)), fun _ => ⟨vn (by omega) (by omega), ?_⟩⟩
    rw [nI_1, nI_clamp (by omega), mLa T hi]
    refine ⟨fun q => ?_, fun q => ?_⟩
    · rw [if_pos q] at ih; exact ih
    · rw [if_neg q] at ih; simp only [Int32.or_zero]; exact ih
end MT
