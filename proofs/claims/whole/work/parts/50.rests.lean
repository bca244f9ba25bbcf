/-! games of two lodgers -/
noncomputable def itH (ρ : Option Rl) (hd : Hd) (t : Tw) : Nat → Tw
  | 0 => t
  | i + 1 => nightT (itH ρ hd t i) ρ hd
theorem itH_1 (ρ : Option Rl) (hd : Hd) (t : Tw) : ∀ n k, (itH ρ hd t n).1 k = if k = 4 then t.1 4 + n else t.1 k
  | 0, k => by
    show t.1 k = _
    by_cases c : k = 4
    · subst c; simp
    · rw [if_neg c]
  | n + 1, k => by
    show (nightT (itH ρ hd t n) ρ hd).1 k = _
    rw [night_1, itH_1 ρ hd t n, itH_1 ρ hd t n]
    by_cases c : k = 4
    · subst c; simp; omega
    · simp [c]
theorem itH_k (ρ : Option Rl) (hd : Hd) (t : Tw) (n : Nat) {k : Nat} (hk : ¬ k = 4) : (itH ρ hd t n).1 k = t.1 k := by rw [itH_1, if_neg hk]
theorem itH_4 (ρ : Option Rl) (hd : Hd) (t : Tw) (n : Nat) : (itH ρ hd t n).1 4 = t.1 4 + n := by rw [itH_1, if_pos rfl]
theorem itH_ok {ρ : Option Rl} {hd : Hd} {t : Tw} (hB : TB t) (hR : TR t) : ∀ n, t.1 4 + n ≤ 5000 → TB (itH ρ hd t n) ∧ TR (itH ρ hd t n)
  | 0, _ => ⟨hB, hR⟩
  | n + 1, h => by
    obtain ⟨h1, h2⟩ := itH_ok (ρ := ρ) (hd := hd) hB hR n (by omega)
    exact ⟨h1.night (by rw [itH_4]; omega), h2.night h1⟩
def hd2 (one other a b : Nat) : Hd := fun i => if i = other then some (nI b) else if i = one then some (nI a) else none
def rsK (A B : Nat → Nat → Int32) (a b : Nat) : Nat → Bool
  | 0 => true
  | k + 1 => rsK A B a b k && decide (¬ A k b < A a b) && decide (¬ B a k < B a b)
theorem rsK_f {A B : Nat → Nat → Int32} {a b k n : Nat} (hk : k < n) (h : A k b < A a b ∨ B a k < B a b) : rsK A B a b n = false := by
  induction n with
  | zero => omega
  | succ n ih =>
    rw [rsK]
    by_cases c : k = n
    · subst c
      rcases h with h | h <;> simp [h]
    · rw [ih (by omega)]; rfl
def reI (A B : Nat → Nat → Int32) (n a : Nat) (p : Tp) : Nat → Tp
  | 0 => p
  | b + 1 => if rsK A B a b n = true then ((reI A B n a p b).1 + 1, if (reI A B n a p b).1 = 0 then nI a else (reI A B n a p b).2.1, if (reI A B n a p b).1 = 0 then nI b else (reI A B n a p b).2.2) else reI A B n a p b
def reO (A B : Nat → Nat → Int32) (n : Nat) : Nat → Tp
  | 0 => (0, -2, -2)
  | a + 1 => reI A B n a (reO A B n a) n
theorem reI_le (A B : Nat → Nat → Int32) (n a : Nat) (p : Tp) : ∀ k, (reI A B n a p k).1 ≤ p.1 + k
  | 0 => Nat.le_refl _
  | k + 1 => by
    have := reI_le A B n a p k
    rw [reI]
    by_cases c : rsK A B a k n = true
    · rw [if_pos c]; show (reI A B n a p k).1 + 1 ≤ _; omega
    · rw [if_neg c]; omega
theorem reO_le (A B : Nat → Nat → Int32) (n : Nat) (hn : n ≤ 5) : ∀ a, (reO A B n a).1 ≤ 5 * a
  | 0 => Nat.le_refl _
  | a + 1 => by
    have h1 := reO_le A B n hn a
    have h2 := reI_le A B n a (reO A B n a) n
    show (reI A B n a (reO A B n a) n).1 ≤ _
    omega
noncomputable def foA (ρ : Option Rl) (t : Tw) (one other n a b : Nat) : Int32 := farT (itH ρ (hd2 one other a b) t n) one
noncomputable def foB (ρ : Option Rl) (t : Tw) (one other n a b : Nat) : Int32 := farT (itH ρ (hd2 one other a b) t n) other
noncomputable def reT (ρ : Option Rl) (t : Tw) (one other n : Nat) : Tp := reO (foA ρ t one other n) (foB ρ t one other n) (t.1 2) (t.1 2)
noncomputable def aRests (ρ : Option Rl) (t : Tw) (one other n w : Int32) : Int32 := if IX one (t.1 3) ∧ IX other (t.1 3) ∧ ¬ one = other ∧ IN n 1 20 ∧ IN w 0 2 then (if w = 0 then nI (reT ρ t one.toNatClampNeg other.toNatClampNeg n.toNatClampNeg).1 else if w = 1 then (reT ρ t one.toNatClampNeg other.toNatClampNeg n.toNatClampNeg).2.1 else (reT ρ t one.toNatClampNeg other.toNatClampNeg n.toNatClampNeg).2.2) else -1
section RES
variable {g : GT} {d : Nat} {h h0 : HP} {t t' : Tw} {ρ : Option Rl} {hd : Hd}
theorem MuIs.to {h' : HP} (M : MuIs h t hd) (e : ∀ q, hI h' 286 q = hI h 286 q) (h2 : t'.1 2 = t.1 2) (h3 : t'.1 3 = t.1 3) : MuIs h' t' hd := fun q hq => by
  rw [e q, h2]
  exact M q (by omega)
theorem m_goForH {n : Nat} {Q : HP → Prop} (W : MW h0 ρ t h) (hM : MuIs h t hd) (hb : t.1 4 + n ≤ 5000) (hQ : ∀ h', MW h0 ρ (itH ρ hd t n) h' → (∀ x k, x = 286 ∨ (290 ≤ x ∧ x ≤ 298) → hI h' x k = hI h x k) → Q h') : CallV g mX10_goFor (d + 8) (0, 0) [.ref 252, .int (nI n)] h Q := by
  refine wX10_goFor_0 _ W.1 ?_
  refine loopN (σ := Unit) (P := fun i _ h' => Sat g mX10_goFor (d + 8) (0, 0) (qV Q) 2 [.ref 252, .int (nI n), .int (nI i)] [] h') (I := fun i _ h' => MW h0 ρ (itH ρ hd t i) h' ∧ ∀ x k, x = 286 ∨ (290 ≤ x ∧ x ≤ 298) → hI h' x k = hI h x k) n (fun _ h' e => ?_) (fun i _ h' hi e ih => ?_) 0 () h (by omega) ⟨W, fun _ _ _ => rfl⟩
  · exact wX10_goFor_2 _ _ e.1.1 ⟨fun _ => hQ h' e.1 e.2, fun c => absurd (nI_le (Nat.le_refl _) (by omega)) c⟩
  · refine wX10_goFor_2 _ _ e.1.1 ⟨fun c => absurd c (nI_ge hi (by omega)), fun _ => ?_⟩
    rw [nI_1]
    refine m_goesW e.1 (hM.to (t' := itH ρ hd t i) (fun q => e.2 286 q (Or.inl rfl)) (itH_k ρ hd t i (by decide)) (itH_k ρ hd t i (by decide))) (by rw [itH_4]; omega) (fun h2 W2 f2 _ => ⟨W2.1, ih () h2 ⟨W2, fun x k hx => (f2.I (by unfold AG; omega)).trans (e.2 x k hx)⟩⟩)
theorem m_freesAll {Q : HP → Prop} (L : Lay h) (hQ : ∀ h', FrC (fun x _ => x = 286) h h' → MF h' → Q h') : CallV g mX10_freesAll d (0, 0) [.ref 252] h Q := by
  refine wX10_freesAll_0 L ?_
  refine loopN (σ := Unit) (P := fun i _ h' => Sat g mX10_freesAll d (0, 0) (qV Q) 2 [.ref 252, .int (nI i)] [] h') (I := fun i _ h' => FrC (fun x _ => x = 286) h h' ∧ ∀ q, q < i → hI h' 286 q = -5) 6 (fun _ h' e => ?_) (fun i _ h' hi e ih => ?_) 0 () h (by omega) ⟨FrC.rf h, fun q hq => by omega⟩
  · exact wX10_freesAll_2 _ (e.1.lay L) ⟨fun _ => hQ h' e.1 e.2, fun c => absurd (by decide) c⟩
  · refine wX10_freesAll_2 _ (e.1.lay L) ⟨fun c => absurd c (nI_ge (a := i) (b := 6) hi (by omega)), fun _ => ⟨vn (by omega) (by omega), ?_⟩⟩
    rw [nI_clamp (n := i) (by omega), nI_1]
    refine ih () _ ⟨e.1.tr (FrC.stI rfl), fun q hq => ?_⟩
    by_cases c : q = i
    · subst c; exact rdI
    · rw [rdn (by omega)]; exact e.2 q (by omega)
theorem n5 (i b : Nat) : (5 : Int32) * nI i + nI b = nI (5 * i + b) := by rw [show (5 : Int32) = nI 5 from rfl, pk_mul, nI_add]
theorem n5' (i b : Nat) : nI i * 5 + nI b = nI (5 * i + b) := by rw [show (5 : Int32) = nI 5 from rfl, pk_mul, nI_add, Nat.mul_comm]
/-- the two tables stand -/
def tbl (h : HP) (c1 c2 n m : Nat) (A B : Nat → Nat → Int32) : Prop := ∀ a b, a < 5 → b < m → (a < n) → hI h c1 (5 * a + b) = A a b ∧ hI h c2 (5 * a + b) = B a b
theorem m_laysBeds {one other n : Nat} {Q : HP → Prop} (O : MZ h ρ t) (c : ¬ t.1 0 = 0) (hb : t.1 4 ≤ 2000) (h1 : one < t.1 3) (h2 : other < t.1 3) (hne : ¬ one = other) (hn : n ≤ 20) (hQ : ∀ h', RM h h' → tbl h' 295 296 (t.1 2) (t.1 2) (foA ρ t one other n) (foB ρ t one other n) → Q h') : CallV g mX10_laysBeds (d + 9) (0, 0) [.ref 252, .int (nI one), .int (nI other), .int (nI n)] h Q := by
  have hB := O.2.1.1
  have R0 := O.2.2.1
  unfold TB at hB
  refine wX10_laysBeds_0 _ _ _ O.1 (m_keepW O c (fun k1 W1 F1 r1 => ⟨W1.1, ?_⟩))
  refine loopN (σ := Unit) (P := fun a _ h' => Sat g mX10_laysBeds (d + 9) (0, 0) (qV Q) 7 [.ref 252, .int (nI one), .int (nI other), .int (nI n), .int (nI a), .double 0] [] h') (I := fun a _ h' => MW h ρ t h' ∧ FrC AF h h' ∧ (∀ q, q < 6 → ¬ q = one → ¬ q = other → hI h' 286 q = -5) ∧ tbl h' 295 296 a (t.1 2) (foA ρ t one other n) (foB ρ t one other n)) (t.1 2) (fun _ h' e => ?_) (fun a _ h' ha e ih => ?_) 0 () k1 (by omega) ⟨W1, r1.1, fun q hq _ _ => F1 q hq, fun a b _ _ z => by omega⟩
  · obtain ⟨W, f, mu, tb⟩ := e
    refine wX10_laysBeds_7 _ _ _ _ W.1 ?_
    rw [mS W.2.2.2.1 2 (by omega)]
    refine ⟨fun _ => m_freesAll W.1 (fun h2 f2 F2 => ⟨f2.lay W.1, hQ h2 ⟨f.tr (f2.wd (fun x k hx => by unfold AF; omega)), F2⟩ (fun a b ha hb hc => ?_)⟩), fun q => absurd (nI_le (Nat.le_refl _) (by omega)) q⟩
    rw [f2.I (by omega), f2.I (by omega)]
    exact tb a b ha hb hc
  · obtain ⟨W, f, mu, tb⟩ := e
    refine wX10_laysBeds_7 _ _ _ _ W.1 ?_
    rw [mS W.2.2.2.1 2 (by omega)]
    refine ⟨fun q => absurd q (nI_ge ha (by omega)), fun _ => ?_⟩
    refine loopN (σ := Unit) (P := fun b _ h' => Sat g mX10_laysBeds (d + 9) (0, 0) (qV Q) 21 [.ref 252, .int (nI one), .int (nI other), .int (nI n), .int (nI a), .int (nI b)] [] h') (I := fun b _ h' => MW h ρ t h' ∧ FrC AF h h' ∧ (∀ q, q < 6 → ¬ q = one → ¬ q = other → hI h' 286 q = -5) ∧ tbl h' 295 296 a (t.1 2) (foA ρ t one other n) (foB ρ t one other n) ∧ ∀ b', b' < b → hI h' 295 (5 * a + b') = foA ρ t one other n a b' ∧ hI h' 296 (5 * a + b') = foB ρ t one other n a b') (t.1 2) (fun _ h' e => ?_) (fun b _ h' hb2 e ih2 => ?_) 0 () h' (by omega) ⟨W, f, mu, tb, fun b' z => by omega⟩
    · obtain ⟨W, f, mu, tb, tr⟩ := e
      refine wX10_laysBeds_21 _ _ _ _ _ W.1 ?_
      rw [mS W.2.2.2.1 2 (by omega), nI_1]
      refine ⟨fun _ => ih () h' ⟨W, f, mu, fun a' b' ha' hb' hc => ?_⟩, fun q => absurd (nI_le (Nat.le_refl _) (by omega)) q⟩
      by_cases z : a' = a
      · subst z; exact tr b' hb'
      · exact tb a' b' ha' hb' (by omega)
    · obtain ⟨W, f, mu, tb, tr⟩ := e
      have T := W.2.2.2.1
      refine wX10_laysBeds_21 _ _ _ _ _ W.1 ?_
      rw [mS T 2 (by omega), nI_clamp (n := one) (by omega), nI_clamp (n := other) (by omega), n5, nI_clamp (n := 5 * a + b) (by omega), nI_1 b]
      refine ⟨fun q => absurd q (nI_ge hb2 (by omega)), fun _ => ⟨vn (by omega) (by omega), vn (by omega) (by omega), ?_⟩⟩
      have f3 : FrC (fun x k => x = 286 ∧ (k = one ∨ k = other)) h' (setI (setI h' 286 one (nI a)) 286 other (nI b)) := (FrC.stI (by omega)).tr (FrC.stI (by omega))
      have v1 : hI (setI (setI h' 286 one (nI a)) 286 other (nI b)) 286 one = nI a := (rdn (by omega)).trans rdI
      have v2 : hI (setI (setI h' 286 one (nI a)) 286 other (nI b)) 286 other = nI b := rdI
      generalize setI (setI h' 286 one (nI a)) 286 other (nI b) = h3 at *
      have T3 : TD h3 253 t := T.to (fun k hk => f3.I (by omega)) (fun r j _ _ => f3.I (by omega))
      have W3 := W.set f3 (fun x k hx => by unfold AU AF AT; omega) T3 W.2.2.2.2.1 c
      have M3 : MuIs h3 t (hd2 one other a b) := fun q hq => by
        unfold hd2
        by_cases c2 : q = other
        · subst c2
          rw [v2, if_pos rfl]
          exact Or.inr ⟨fun z => absurd (nI_pos (n := b) (by omega)) (by rw [z]; decide), rfl, Or.inr ⟨b, hb2, rfl⟩⟩
        · rw [if_neg c2]
          by_cases c1 : q = one
          · subst c1
            rw [v1, if_pos rfl]
            exact Or.inr ⟨fun z => absurd (nI_pos (n := a) (by omega)) (by rw [z]; decide), rfl, Or.inr ⟨a, ha, rfl⟩⟩
          · rw [if_neg c1]
            exact Or.inl ⟨(f3.I (by omega)).trans (mu q (by omega) c1 c2), rfl⟩
      refine m_goForH W3 M3 (by omega) (fun h4 W4 e4 => ⟨W4.1, ?_⟩)
      have e43 : (itH ρ (hd2 one other a b) t n).1 3 = t.1 3 := itH_k ρ _ t n (by decide)
      have R4 := W4.2.2.2.2.1
      have ea : farT (itH ρ (hd2 one other a b) t n) one = foA ρ t one other n a b := rfl
      have eb : farT (itH ρ (hd2 one other a b) t n) other = foB ρ t one other n a b := rfl
      refine m_farOf W4.1 W4.2.2.2.1 R4 (by rw [e43]; exact h1) ?_
      rw [ea]
      refine ⟨W4.1, vn (by omega) (by omega), ?_⟩
      have f5 : FrC (fun x k => x = 295 ∧ k = 5 * a + b) h4 (setI h4 295 (5 * a + b) (foA ρ t one other n a b)) := FrC.stI ⟨rfl, rfl⟩
      have T5 : TD (setI h4 295 (5 * a + b) (foA ρ t one other n a b)) 253 (itH ρ (hd2 one other a b) t n) := W4.2.2.2.1.to (fun k hk => f5.I (by omega)) (fun r j _ _ => f5.I (by omega))
      have L5 := f5.lay W4.1
      refine m_farOf L5 T5 R4 (by rw [e43]; exact h2) ?_
      rw [eb]
      refine ⟨L5, ?_⟩
      have f6 : FrC (fun x k => (x = 295 ∨ x = 296) ∧ k = 5 * a + b) h4 (setI (setI h4 295 (5 * a + b) (foA ρ t one other n a b)) 296 (5 * a + b) (foB ρ t one other n a b)) := (FrC.stI (by omega)).tr (FrC.stI (by omega))
      have T6 : TD (setI (setI h4 295 (5 * a + b) (foA ρ t one other n a b)) 296 (5 * a + b) (foB ρ t one other n a b)) 253 (itH ρ (hd2 one other a b) t n) := W4.2.2.2.1.to (fun k hk => f6.I (by omega)) (fun r j _ _ => f6.I (by omega))
      have W6 := W4.set f6 (fun x k hx => by unfold AU AF AT; omega) T6 R4 W4.2.2.2.2.2.2
      refine m_backW W6 O c (fun h7 W7 f7 e7 e8 => ⟨W7.1, ih2 () h7 ⟨W7, f7, fun q hq c1 c2 => ?_, fun a' b' ha' hb' hc => ?_, fun b' hb' => ?_⟩⟩)
      · rw [e7, f6.I (by omega), e4 286 q (Or.inl rfl), f3.I (by omega)]
        exact mu q hq c1 c2
      · rw [e8 _ _ (by decide) (by decide), e8 _ _ (by decide) (by decide), f6.I (by omega), f6.I (by omega), e4 _ _ (by omega), e4 _ _ (by omega), f3.I (by omega), f3.I (by omega)]
        exact tb a' b' ha' hb' hc
      · rw [e8 _ _ (by decide) (by decide), e8 _ _ (by decide) (by decide)]
        by_cases z : b' = b
        · subst z
          exact ⟨(rdn (by omega)).trans rdI, rdI⟩
        · rw [f6.I (by omega), f6.I (by omega), e4 _ _ (by omega), e4 _ _ (by omega), f3.I (by omega), f3.I (by omega)]
          exact tr b' (by omega)
theorem m_isRest {a b : Nat} {A B : Nat → Nat → Int32} {Q : Int32 → HP → Prop} (L : Lay h) (T : TD h 253 t) (ha : a < t.1 2) (hb : b < t.1 2) (tb : tbl h 295 296 (t.1 2) (t.1 2) A B) (hQ : Q (if rsK A B a b (t.1 2) = true then 1 else 0) h) : CallI g mX10_isRest d [.ref 252, .int (nI a), .int (nI b)] h Q := by
  have hB := T.1
  unfold TB at hB
  refine wX10_isRest_0 _ _ L ?_
  refine loopN (σ := Unit) (P := fun k _ h' => Sat g mX10_isRest d (0, 0) (qI Q) 2 [.ref 252, .int (nI a), .int (nI b), .int (nI k)] [] h') (I := fun k _ h' => h' = h ∧ rsK A B a b k = true) (t.1 2) (fun _ h' e => ?_) (fun k _ h' hk e ih => ?_) 0 () h (by omega) ⟨rfl, rfl⟩
  · obtain ⟨rfl, e⟩ := e
    refine wX10_isRest_2 _ _ _ L ?_
    rw [mS T 2 (by omega)]
    rw [if_pos e] at hQ
    exact ⟨fun _ => hQ, fun q => absurd (nI_le (Nat.le_refl _) (by omega)) q⟩
  · obtain ⟨rfl, e⟩ := e
    refine wX10_isRest_2 _ _ _ L ?_
    rw [mS T 2 (by omega), n5, n5, n5, nI_clamp (n := 5 * k + b) (by omega), nI_clamp (n := 5 * a + b) (by omega), nI_clamp (n := 5 * a + k) (by omega), (tb k b (by omega) hb hk).1, (tb a b (by omega) hb ha).1, (tb a b (by omega) hb ha).2, (tb a k (by omega) hk ha).2, nI_1]
    refine ⟨fun q => absurd q (nI_ge hk (by omega)), fun _ => ⟨vn (by omega) (by omega), vn (by omega) (by omega), fun q => ?_, fun q => ⟨vn (by omega) (by omega), fun q2 => ih () h' ⟨rfl, ?_⟩, fun q2 => ?_⟩⟩⟩
    · rw [rsK_f hk (Or.inl q)] at hQ; exact hQ
    · rw [rsK, e]
      simp [Int32.not_lt.mp q, q2]
    · rw [rsK_f hk (Or.inr (Int32.not_le.mp q2))] at hQ; exact hQ
theorem m_rests {one other n w : Int32} {Q : Int32 → HP → Prop} (O : MZ h ρ t) (hb : t.1 4 ≤ 2000) (hQ : ∀ h', RM h h' → Q (aRests ρ t one other n w) h') : CallI g mX10_rests (d + 10) [.ref 252, .int one, .int other, .int n, .int w] h Q := by
  have no : ¬ (IX one (t.1 3) ∧ IX other (t.1 3) ∧ ¬ one = other ∧ IN n 1 20 ∧ IN w 0 2) → Q (-1) h := fun c => by
    have := hQ h (RM.rf O.2.2.2.2)
    unfold aRests at this
    rwa [if_neg c] at this
  have hB := O.2.1.1
  unfold TB at hB
  have L := O.1
  refine wX10_rests_0 _ _ _ _ L (m_isLodger L O.2.1 (fun i hi ei => ⟨L, fun q => absurd q (by decide), fun _ => m_isLodger L O.2.1 (fun j hj ej => ⟨L, fun q => absurd q (by decide), fun _ => ⟨fun z => no (fun y => y.2.2.1 z), fun cne => m_in L (a := 1) (b := 20) rfl rfl (by decide) (by decide) (fun k k1 k2 ek => ⟨L, fun q => absurd q (by decide), fun _ => m_in L (a := 0) (b := 2) rfl rfl (by decide) (by decide) (fun v v1 v2 ev => ⟨L, fun q => absurd q (by decide), fun _ => ?_⟩) (fun z => ⟨L, fun _ => no (fun y => z y.2.2.2.2), fun q => absurd rfl q⟩)⟩) (fun z => ⟨L, fun _ => no (fun y => z y.2.2.2.1), fun q => absurd rfl q⟩)⟩⟩) (fun z => ⟨L, fun _ => no (fun y => IX_no z y.2.1), fun q => absurd rfl q⟩)⟩) (fun z => ⟨L, fun _ => no (fun y => IX_no z y.1), fun q => absurd rfl q⟩))
  subst ei ej ek ev
  have hne : ¬ i = j := fun e => cne (by rw [e])
  have c : ¬ t.1 0 = 0 := fun z => by have := (O.2.2.1.1 z).2; omega
  refine m_laysBeds O c hb hi hj hne k2 (fun h1 r1 tb => ⟨r1.1.lay L, ?_⟩)
  have yes := hQ h1 r1
  unfold aRests reT at yes
  rw [if_pos ⟨IX_j hi (by omega), IX_j hj (by omega), cne, IN_j k1 k2 (by decide), IN_j v1 v2 (by decide)⟩, nI_clamp (n := i) (by omega), nI_clamp (n := j) (by omega), nI_clamp (n := k) (by omega)] at yes
  generalize foA ρ t i j k = A at *
  generalize foB ρ t i j k = B at *
  have O1 := O.fr r1
  have L1 := O1.1
  have T1 := O1.2.1
  refine loopN (σ := Unit) (P := fun a _ h' => Sat g mX10_rests (d + 10) (0, 0) (qI Q) 69 [.ref 252, .double 0, .double 0, .double 0, .int (nI v), .int (nI (reO A B (t.1 2) a).1), .int (reO A B (t.1 2) a).2.1, .int (reO A B (t.1 2) a).2.2, .int (nI a), .double 0] [] h') (I := fun i _ h' => h' = h1) (t.1 2) (fun _ h' e => ?_) (fun a _ h' ha e ih => ?_) 0 () h1 (by omega) rfl
  · subst e
    refine wX10_rests_69 _ _ _ _ _ L1 ?_
    rw [mS T1 2 (by omega)]
    refine ⟨fun _ => ⟨fun q => by rwa [if_pos q] at yes, fun q => ⟨fun q2 => by rwa [if_neg q, if_pos q2] at yes, fun q2 => by rwa [if_neg q, if_neg q2] at yes⟩⟩, fun q => absurd (nI_le (Nat.le_refl _) (by omega)) q⟩
  · subst e
    refine wX10_rests_69 _ _ _ _ _ L1 ?_
    rw [mS T1 2 (by omega)]
    refine ⟨fun q => absurd q (nI_ge ha (by omega)), fun _ => ?_⟩
    have hp0 := reO_le A B (t.1 2) (by omega) a
    refine loopN (σ := Unit) (P := fun b _ h'' => Sat g mX10_rests (d + 10) (0, 0) (qI Q) 83 [.ref 252, .double 0, .double 0, .double 0, .int (nI v), .int (nI (reI A B (t.1 2) a (reO A B (t.1 2) a) b).1), .int (reI A B (t.1 2) a (reO A B (t.1 2) a) b).2.1, .int (reI A B (t.1 2) a (reO A B (t.1 2) a) b).2.2, .int (nI a), .int (nI b)] [] h'') (I := fun k _ h'' => h'' = h') (t.1 2) (fun _ h'' e => ?_) (fun b _ h'' hb2 e ih2 => ?_) 0 () h' (by omega) rfl
    · subst e
      refine wX10_rests_83 _ _ _ _ _ _ L1 ?_
      rw [mS T1 2 (by omega), nI_1 a]
      exact ⟨fun _ => ih () h'' rfl, fun q => absurd (nI_le (Nat.le_refl _) (by omega)) q⟩
    · subst e
      have hp := reI_le A B (t.1 2) a (reO A B (t.1 2) a) b
      have nx := ih2 () h'' rfl
      rw [reI] at nx
      generalize reI A B (t.1 2) a (reO A B (t.1 2) a) b = p at *
      refine wX10_rests_83 _ _ _ _ _ _ L1 ?_
      rw [mS T1 2 (by omega)]
      refine ⟨fun q => absurd q (nI_ge hb2 (by omega)), fun _ => m_isRest L1 T1 ha hb2 tb ?_⟩
      rw [nI_1 p.1, nI_1 b]
      by_cases cr : rsK A B a b (t.1 2) = true
      · rw [if_pos cr] at nx ⊢
        refine ⟨L1, fun q => absurd q (by decide), fun _ => ⟨fun z => ?_, fun z => ?_⟩⟩
        · have z1 : p.1 = 0 := (nI_eq (by omega) (by omega)).mp z
          rw [if_pos z1, if_pos z1] at nx
          exact ⟨fun _ => nx, fun q => absurd z q⟩
        · have z1 : ¬ p.1 = 0 := fun y => z (by rw [y]; rfl)
          rw [if_neg z1, if_neg z1] at nx
          exact ⟨fun q => absurd q z, fun _ => nx⟩
      · rw [if_neg cr] at nx ⊢
        exact ⟨L1, fun _ => nx, fun q => absurd rfl q⟩
end RES
