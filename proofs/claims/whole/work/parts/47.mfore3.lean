/-! the reference looks ahead, on: settled, Mays -/
def crV (z1 z2 : Nat → Int32) (t : Tw) (j : Nat) : Int32 := if j < 5 then (if j < t.1 2 then t.2 1 j else z1 j) else (if j - 5 < t.1 3 then t.2 4 (j - 5) else z2 (j - 5))
theorem crV_h {z1 z2 : Nat → Int32} {t : Tw} {j : Nat} (hj : j < 5) (h : j < t.1 2) : crV z1 z2 t j = t.2 1 j := by unfold crV; rw [if_pos hj, if_pos h]
theorem crV_s {z1 z2 : Nat → Int32} {t : Tw} {j : Nat} (h : j < t.1 3) : crV z1 z2 t (j + 5) = t.2 4 j := by unfold crV; rw [if_neg (by omega), Nat.add_sub_cancel, if_pos h]
theorem bgV_s {t : Tw} {j : Nat} (hj : j < 6) (h : j < t.1 3) : bgV t j = t.2 4 j := by unfold bgV; rw [if_pos hj, if_pos h]
theorem bgV_h {t : Tw} {j : Nat} (h : j < t.1 2) : bgV t (j + 6) = t.2 1 j := by unfold bgV; rw [if_neg (by omega), Nat.add_sub_cancel, if_pos h]
theorem crV_h2 {z1 z2 : Nat → Int32} {t : Tw} {j : Nat} (hj : j < 5) (h : ¬ j < t.1 2) : crV z1 z2 t j = z1 j := by unfold crV; rw [if_pos hj, if_neg h]
theorem crV_s2 {z1 z2 : Nat → Int32} {t : Tw} {j : Nat} (h : ¬ j < t.1 3) : crV z1 z2 t (j + 5) = z2 j := by unfold crV; rw [if_neg (by omega), Nat.add_sub_cancel, if_neg h]
theorem bgV_s2 {t : Tw} {j : Nat} (hj : j < 6) (h : ¬ j < t.1 3) : bgV t j = 0 := by unfold bgV; rw [if_pos hj, if_neg h]
theorem bgV_h2 {t : Tw} {j : Nat} (h : ¬ j < t.1 2) : bgV t (j + 6) = 0 := by unfold bgV; rw [if_neg (by omega), Nat.add_sub_cancel, if_neg h]
theorem cr_sam {z1 z2 : Nat → Int32} {t t' : Tw} (h2 : t'.1 2 = t.1 2) (h3 : t'.1 3 = t.1 3) (hB : TB t) : (∀ j, j < 11 → crV z1 z2 t j = crV z1 z2 t' j) ↔ samT t t' := by
  unfold TB at hB
  constructor
  · intro e j hj
    by_cases c : j < 6
    · by_cases c2 : j < t.1 3
      · have := e (j + 5) (by omega)
        rw [crV_s c2, crV_s (by omega)] at this
        rw [bgV_s c c2, bgV_s c (by omega), this]
      · rw [bgV_s2 c c2, bgV_s2 c (by omega)]
    · obtain ⟨i, rfl⟩ : ∃ i, j = i + 6 := ⟨j - 6, by omega⟩
      by_cases c2 : i < t.1 2
      · have := e i (by omega)
        rw [crV_h (by omega) c2, crV_h (by omega) (by omega)] at this
        rw [bgV_h c2, bgV_h (by omega), this]
      · rw [bgV_h2 c2, bgV_h2 (by omega)]
  · intro e j hj
    by_cases c : j < 5
    · by_cases c2 : j < t.1 2
      · have := e (j + 6) (by omega)
        rw [bgV_h c2, bgV_h (by omega)] at this
        rw [crV_h c c2, crV_h c (by omega), this]
      · rw [crV_h2 c c2, crV_h2 c (by omega)]
    · obtain ⟨i, rfl⟩ : ∃ i, j = i + 5 := ⟨j - 5, by omega⟩
      by_cases c2 : i < t.1 3
      · have := e i (by omega)
        rw [bgV_s (by omega) c2, bgV_s (by omega) (by omega)] at this
        rw [crV_s c2, crV_s (by omega), this]
      · rw [crV_s2 c2, crV_s2 (by omega)]
section MP3
variable {g : GT} {d : Nat} {h h0 : HP} {t : Tw} {ρ : Option Rl}
theorem n11 (i b : Nat) : (11 : Int32) * nI i + nI b = nI (11 * i + b) := by rw [show (11 : Int32) = nI 11 from rfl, pk_mul, nI_add]
theorem m_laysCourse {z1 z2 : Nat → Int32} {Q : HP → Prop} (W : MW h0 ρ t h) (F : MF h) (hb : t.1 4 ≤ 2000) (d1 : ∀ j, t.1 2 ≤ j → hI h 254 j = z1 j) (d2 : ∀ j, t.1 3 ≤ j → hI h 257 j = z2 j) (hQ : ∀ h', MW h0 ρ (itN ρ t 61) h' → MF h' → (∀ k, k ≤ 60 → ∀ j, j < 11 → hI h' 294 (11 * k + j) = crV z1 z2 (itN ρ t k) j) → Q h') : CallV g mX10_laysCourse (d + 8) (0, 0) [.ref 252] h Q := by
  have hB := W.2.2.2.1.1
  unfold TB at hB
  refine wX10_laysCourse_0 W.1 ?_
  refine loopN (σ := Unit) (P := fun i _ h' => Sat g mX10_laysCourse (d + 8) (0, 0) (qV Q) 2 [.ref 252, .int (nI i), .double 0] [] h') (I := fun i _ h' => MW h0 ρ (itN ρ t i) h' ∧ MF h' ∧ (∀ j, t.1 2 ≤ j → hI h' 254 j = z1 j) ∧ (∀ j, t.1 3 ≤ j → hI h' 257 j = z2 j) ∧ ∀ k, k < i → ∀ j, j < 11 → hI h' 294 (11 * k + j) = crV z1 z2 (itN ρ t k) j) 61 (fun _ h' e => ?_) (fun i _ h' hi e ih => ?_) 0 () h (by omega) ⟨W, F, d1, d2, fun k hk => by omega⟩
  · obtain ⟨W', F', -, -, cr⟩ := e
    exact wX10_laysCourse_2 _ W'.1 ⟨fun _ => hQ h' W' F' (fun k hk => cr k (by omega)), fun c => absurd (by decide) c⟩
  · obtain ⟨W', F', d1', d2', cr⟩ := e
    have e2 : (itN ρ t i).1 2 = t.1 2 := itN_k ρ t i (by decide)
    have e3 : (itN ρ t i).1 3 = t.1 3 := itN_k ρ t i (by decide)
    have T' := W'.2.2.2.1
    refine wX10_laysCourse_2 _ W'.1 ⟨fun c => absurd c (nI_nlt (a := 60) (b := i) (by omega) (by omega)), fun _ => ?_⟩
    refine loopN (σ := Unit) (P := fun b _ h2 => Sat g mX10_laysCourse (d + 8) (0, 0) (qV Q) 10 [.ref 252, .int (nI i), .int (nI b)] [] h2) (I := fun b _ h2 => FrC (fun x k => x = 294 ∧ 11 * i ≤ k) h' h2 ∧ ∀ j, j < b → hI h2 294 (11 * i + j) = hI h' 254 j) 5 (fun _ h2 e => ?_) (fun b _ h2 hb2 e ih2 => ?_) 0 () h' (by omega) ⟨FrC.rf h', fun j hj => by omega⟩
    · obtain ⟨f, v1⟩ := e
      refine wX10_laysCourse_10 _ _ (f.lay W'.1) ⟨fun _ => ?_, fun c => absurd (by decide) c⟩
      refine loopN (σ := Unit) (P := fun q _ h3 => Sat g mX10_laysCourse (d + 8) (0, 0) (qV Q) 40 [.ref 252, .int (nI i), .int (nI q)] [] h3) (I := fun q _ h3 => FrC (fun x k => x = 294 ∧ 11 * i ≤ k) h' h3 ∧ (∀ j, j < 5 → hI h3 294 (11 * i + j) = hI h' 254 j) ∧ ∀ j, j < q → hI h3 294 (11 * i + 5 + j) = hI h' 257 j) 6 (fun _ h3 e => ?_) (fun q _ h3 hq e ih3 => ?_) 0 () h2 (by omega) ⟨f, v1, fun j hj => by omega⟩
      · obtain ⟨f3, v2, v3⟩ := e
        refine wX10_laysCourse_40 _ _ (f3.lay W'.1) ⟨fun _ => ?_, fun c => absurd (by decide) c⟩
        have T3 : TD h3 253 (itN ρ t i) := T'.to (fun k hk => f3.I (by omega)) (fun r j _ _ => f3.I (by omega))
        have W3 := W'.set f3 (fun x k hx => by unfold AU AF AT; omega) T3 W'.2.2.2.2.1 W'.2.2.2.2.2.2
        have F3 : MF h3 := fun q hq => (f3.I (by omega)).trans (F' q hq)
        refine m_goesW W3 (F3.mu T3.1) (by rw [itN_4]; omega) (fun h4 W4 f4 _ => ⟨W4.1, ?_⟩)
        rw [nI_1]
        refine ih () h4 ⟨W4, fun q hq => (f4.I (by unfold AG; omega)).trans (F3 q hq), fun j hj => ?_, fun j hj => ?_, fun k hk j hj => ?_⟩
        · rw [f4.I (by unfold AG; rw [e2]; omega), f3.I (by omega)]; exact d1' j hj
        · rw [f4.I (by unfold AG; rw [e3]; omega), f3.I (by omega)]; exact d2' j hj
        · rw [f4.I (by unfold AG; omega)]
          by_cases ck : k = i
          · subst ck
            unfold crV
            rw [e2, e3]
            by_cases c5 : j < 5
            · rw [if_pos c5, v2 j c5]
              by_cases c6 : j < t.1 2
              · rw [if_pos c6]; exact mHo T' (by rw [e2]; exact c6)
              · rw [if_neg c6]; exact d1' j (by omega)
            · rw [if_neg c5, show 11 * k + j = 11 * k + 5 + (j - 5) by omega, v3 (j - 5) (by omega)]
              by_cases c6 : j - 5 < t.1 3
              · rw [if_pos c6]; exact mSh T' (by rw [e3]; exact c6)
              · rw [if_neg c6]; exact d2' (j - 5) (by omega)
          · rw [f3.I (by omega)]; exact cr k (by omega) j hj
      · obtain ⟨f3, v2, v3⟩ := e
        refine wX10_laysCourse_40 _ _ (f3.lay W'.1) ⟨fun c => absurd c (nI_ge (a := q) (b := 6) hq (by omega)), fun _ => ?_⟩
        rw [show (11 : Int32) * nI i + 5 + nI q = nI (11 * i + 5 + q) by rw [show (5 : Int32) = nI 5 from rfl, n11, nI_add], nI_clamp (n := 11 * i + 5 + q) (by omega), nI_clamp (n := q) (by omega), nI_1]
        refine ⟨vn (by omega) (by omega), vn (by omega) (by omega), ih3 () _ ⟨f3.tr (FrC.stI (by omega)), fun j hj => ?_, fun j hj => ?_⟩⟩
        · rw [rdn (by omega)]; exact v2 j hj
        · by_cases c : j = q
          · subst c; rw [rdI]; exact f3.I (by omega)
          · rw [rdn (by omega)]; exact v3 j (by omega)
    · obtain ⟨f, v1⟩ := e
      refine wX10_laysCourse_10 _ _ (f.lay W'.1) ⟨fun c => absurd c (nI_ge (a := b) (b := 5) hb2 (by omega)), fun _ => ?_⟩
      rw [n11, nI_clamp (n := 11 * i + b) (by omega), nI_clamp (n := b) (by omega), nI_1]
      refine ⟨vn (by omega) (by omega), vn (by omega) (by omega), ih2 () _ ⟨f.tr (FrC.stI (by omega)), fun j hj => ?_⟩⟩
      by_cases c : j = b
      · subst c; rw [rdI]; exact f.I (by omega)
      · rw [rdn (by omega)]; exact v1 j (by omega)
theorem m_areAlike {z1 z2 : Nat → Int32} {a b : Nat} {Q : Int32 → HP → Prop} (L : Lay h) (hB : TB t) (ha : a ≤ 60) (hb : b ≤ 60) (cr : ∀ k, k ≤ 60 → ∀ j, j < 11 → hI h 294 (11 * k + j) = crV z1 z2 (itN ρ t k) j) (hT : ∀ k, k ≤ 60 → TB (itN ρ t k)) (hy : samT (itN ρ t a) (itN ρ t b) → Q 1 h) (hn : ¬ samT (itN ρ t a) (itN ρ t b) → Q 0 h) : CallI g mX10_areAlike d [.ref 252, .int (nI a), .int (nI b)] h Q := by
  have key := cr_sam (z1 := z1) (z2 := z2) (t := itN ρ t a) (t' := itN ρ t b) (by rw [itN_k ρ t a (by decide), itN_k ρ t b (by decide)]) (by rw [itN_k ρ t a (by decide), itN_k ρ t b (by decide)]) (hT a ha)
  refine wX10_areAlike_0 _ _ L ?_
  refine loopN (σ := Unit) (P := fun k _ h' => Sat g mX10_areAlike d (0, 0) (qI Q) 2 [.ref 252, .int (nI a), .int (nI b), .int (nI k)] [] h') (I := fun k _ h' => h' = h ∧ ∀ j, j < k → crV z1 z2 (itN ρ t a) j = crV z1 z2 (itN ρ t b) j) 11 (fun _ h' e => ?_) (fun k _ h' hk e ih => ?_) 0 () h (by omega) ⟨rfl, fun j hj => by omega⟩
  · obtain ⟨rfl, e⟩ := e
    exact wX10_areAlike_2 _ _ _ L ⟨fun _ => hy (key.mp e), fun c => absurd (by decide) c⟩
  · obtain ⟨rfl, e⟩ := e
    refine wX10_areAlike_2 _ _ _ L ⟨fun c => absurd c (nI_ge (a := k) (b := 11) hk (by omega)), fun _ => ?_⟩
    rw [n11, n11, nI_clamp (n := 11 * a + k) (by omega), nI_clamp (n := 11 * b + k) (by omega), cr a ha k hk, cr b hb k hk, nI_1]
    refine ⟨vn (by omega) (by omega), vn (by omega) (by omega), fun c => ih () h' ⟨rfl, fun j hj => ?_⟩, fun c => hn (fun w => c (key.mpr w k hk))⟩
    by_cases z : j = k
    · subst z; exact c
    · exact e j (by omega)
theorem m_settled {w : Int32} {Q : Int32 → HP → Prop} (O : MZ h ρ t) (hb : t.1 4 ≤ 2000) (hQ : ∀ h', RM h h' → Q (aSettled ρ t w) h') : CallI g mX10_settled (d + 9) [.ref 252, .int w] h Q := by
  have no : ¬ (¬ t.1 0 = 0 ∧ IN w 0 1) → Q (-1) h := fun c => by
    have := hQ h (RM.rf O.2.2.2.2)
    unfold aSettled at this
    rwa [if_neg c] at this
  refine wX10_settled_0 _ O.1 (m_city O (fun c => ⟨O.1, fun q => absurd q (by decide), fun _ => m_in O.1 (a := 0) (b := 1) rfl rfl (by decide) (by decide) (fun v h3 h4 ew => ⟨O.1, fun q => absurd q (by decide), fun _ => ?_⟩) (fun z => ⟨O.1, fun _ => no (fun y => z y.2), fun q => absurd rfl q⟩)⟩) (fun z => ⟨O.1, fun _ => no (fun y => y.1 z), fun q => absurd rfl q⟩))
  subst ew
  have hB := O.2.1.1
  have R0 := O.2.2.1
  have yes : ∀ h', RM h h' → Q (if nI v = 0 then (seV t (seO ρ t 60 0)).1 else (seV t (seO ρ t 60 0)).2) h' := fun h' r => by
    have := hQ h' r
    unfold aSettled at this
    rwa [if_pos ⟨c, IN_j h3 h4 (by decide)⟩] at this
  refine m_keepW O c (fun h1 W1 F1 r1 => ⟨W1.1, m_laysCourse (z1 := hI h1 254) (z2 := hI h1 257) W1 F1 hb (fun _ _ => rfl) (fun _ _ => rfl) (fun h2 W2 F2 cr => ⟨W2.1, m_backW W2 O c (fun h3 W3 f3 e3 eE => ⟨W3.1, ?_⟩)⟩)⟩)
  have r3 : RM h h3 := ⟨f3, fun q hq => (e3 q).trans (F2 q hq)⟩
  have yes := yes h3 r3
  have cr3 : ∀ k, k ≤ 60 → ∀ j, j < 11 → hI h3 294 (11 * k + j) = crV (hI h1 254) (hI h1 257) (itN ρ t k) j := fun k hk j hj => (eE 294 _ (by decide) (by decide)).trans (cr k hk j hj)
  have hTB : ∀ k, k ≤ 60 → TB (itN ρ t k) := fun k hk => (itN_ok hB R0 k (by omega)).1
  have T3 := W3.2.2.2.1
  unfold TB at hB
  refine loopN (σ := Unit) (P := fun a _ h' => Sat g mX10_settled (d + 9) (0, 0) (qI Q) 33 [.ref 252, .int (nI v), .int (nI a), .double 0] [] h') (I := fun a _ h' => h' = h3 ∧ seO ρ t 60 0 = seO ρ t (60 - a) a) 60 (fun _ h' e => ?_) (fun a _ h' ha e ih => ?_) 0 () h3 (by omega) ⟨rfl, rfl⟩
  · obtain ⟨rfl, e⟩ := e
    have e : seO ρ t 60 0 = none := e
    refine wX10_settled_33 _ _ W3.1 ⟨fun _ => ?_, fun c => absurd (by decide) c⟩
    rw [e] at yes
    simp only [seV, ite_self] at yes
    exact yes
  · obtain ⟨rfl, e⟩ := e
    refine wX10_settled_33 _ _ W3.1 ⟨fun c => absurd c (nI_ge (a := a) (b := 60) ha (by omega)), fun _ => ?_⟩
    rw [nI_1]
    have eo : seO ρ t (60 - a) a = match seI ρ t a (60 - a) (a + 1) with
        | some b => some (a, b)
        | none => seO ρ t (60 - (a + 1)) (a + 1) := by
      rw [show 60 - a = (60 - (a + 1)) + 1 by omega]
      conv => lhs; rw [seO]
      rw [show 60 - (a + 1) + 1 = 60 - a by omega]
      cases seI ρ t a (60 - a) (a + 1) <;> rfl
    rw [eo] at e
    refine loopN (σ := Unit) (P := fun k _ h4 => Sat g mX10_settled (d + 9) (0, 0) (qI Q) 43 [.ref 252, .int (nI v), .int (nI a), .int (nI (a + 1 + k))] [] h4) (I := fun k _ h4 => h4 = h' ∧ seI ρ t a (60 - a) (a + 1) = seI ρ t a (60 - a - k) (a + 1 + k)) (60 - a) (fun _ h4 e4 => ?_) (fun k _ h4 hk e4 ih2 => ?_) 0 () h' (by omega) ⟨rfl, rfl⟩
    · obtain ⟨rfl, e4⟩ := e4
      rw [show 60 - a - (60 - a) = 0 by omega] at e4
      have e4 : seI ρ t a (60 - a) (a + 1) = none := e4
      rw [e4] at e
      refine wX10_settled_43 _ _ _ W3.1 ⟨fun _ => ?_, fun c => absurd ?_ c⟩
      · rw [nI_1]; exact ih () h4 ⟨rfl, e⟩
      · rw [show a + 1 + (60 - a) = 61 by omega]; decide
    · obtain ⟨rfl, e4⟩ := e4
      refine wX10_settled_43 _ _ _ W3.1 ⟨fun c => absurd c (nI_nlt (a := 60) (b := a + 1 + k) (by omega) (by omega)), fun _ => m_areAlike (ρ := ρ) (t := t) W3.1 T3.1 (by omega) (by omega) cr3 hTB (fun w => ⟨W3.1, fun c => absurd c (by decide), fun _ => ?_⟩) (fun w => ⟨W3.1, fun _ => ?_, fun c => absurd rfl c⟩)⟩
      · rw [show 60 - a - k = (60 - a - k - 1) + 1 by omega, seI_y w] at e4
        rw [e4] at e
        rw [e] at yes
        rw [mS T3 4 (by omega), nI_add, pk_sub (by omega)]
        exact ⟨fun z => by rwa [if_pos z] at yes, fun z => by rwa [if_neg z] at yes⟩
      · rw [show 60 - a - k = (60 - a - (k + 1)) + 1 by omega, seI_n w] at e4
        rw [nI_1]
        exact ih2 () h4 ⟨rfl, e4⟩
theorem m_draws {x n : Nat} {Q : Int32 → HP → Prop} (L : Lay h) (hx : x < 2147483648) (hn : 0 < n) (hn2 : n ≤ 100) (hX : hI h 253 6 = nI x) (hQ : Q (nI (drw x / 65536 % n)) (setI h 253 6 (nI (drw x)))) : CallI g mX10_draws d [.ref 252, .int (nI n)] h Q := by
  refine wX10_draws_0 _ L ⟨nI_ne0 hn (by omega), ?_⟩
  have := drw_lt x
  rw [hX, nI_l hx, drw_l hx, lN_i, show (65536 : Int32) = nI 65536 from rfl, pk_div (by omega) (by omega) (by omega), pk_rem (by omega) (by omega) (by omega)]
  exact hQ
theorem FrC.sm {A : Nat → Nat → Prop} {h h' : HP} (f : FrC A h h') {a k : Nat} {v : Int32} (e : v = hI h a k) : FrC A h (setI h' a k v) := by
  refine ⟨f.1, f.2.1, fun x y => ⟨fun hx => ?_, fun hx => (f.2.2 x y).2 hx⟩⟩
  rw [rdI_ite]
  by_cases c : x = a ∧ y = k
  · rw [if_pos c, c.1, c.2, e]
  · rw [if_neg c]; exact f.I hx
theorem m_mays {x0 : Nat} {m n p w : Int32} {Q : Int32 → HP → Prop} (O : MZ h ρ t) (hb : t.1 4 ≤ 2000) (hx0 : x0 < 2147483648) (hX0 : hI h 253 6 = nI x0) (hQ : ∀ h', RM h h' → Q (aMays ρ t x0 m n p w) h') : CallI g mX10_mays (d + 8) [.ref 252, .int m, .int n, .int p, .int w] h Q := by
  have no : ¬ (¬ t.1 0 = 0 ∧ IN m 1 10 ∧ IN n 1 60 ∧ IN p 0 100 ∧ IN w 0 1) → Q (-1) h := fun c => by
    have := hQ h (RM.rf O.2.2.2.2)
    unfold aMays at this
    rwa [if_neg c] at this
  refine wX10_mays_0 _ _ _ _ O.1 (m_city O (fun c => ⟨O.1, fun q => absurd q (by decide), fun _ => m_in O.1 (a := 1) (b := 10) rfl rfl (by decide) (by decide) (fun m m1 m2 em => ⟨O.1, fun q => absurd q (by decide), fun _ => m_in O.1 (a := 1) (b := 60) rfl rfl (by decide) (by decide) (fun n n1 n2 en => ⟨O.1, fun q => absurd q (by decide), fun _ => m_in O.1 (a := 0) (b := 100) rfl rfl (by decide) (by decide) (fun p p1 p2 ep => ⟨O.1, fun q => absurd q (by decide), fun _ => m_in O.1 (a := 0) (b := 1) rfl rfl (by decide) (by decide) (fun v v1 v2 ev => ⟨O.1, fun q => absurd q (by decide), fun _ => ?_⟩) (fun z => ⟨O.1, fun _ => no (fun y => z y.2.2.2.2), fun q => absurd rfl q⟩)⟩) (fun z => ⟨O.1, fun _ => no (fun y => z y.2.2.2.1), fun q => absurd rfl q⟩)⟩) (fun z => ⟨O.1, fun _ => no (fun y => z y.2.2.1), fun q => absurd rfl q⟩)⟩) (fun z => ⟨O.1, fun _ => no (fun y => z y.2.1), fun q => absurd rfl q⟩)⟩) (fun z => ⟨O.1, fun _ => no (fun y => y.1 z), fun q => absurd rfl q⟩))
  subst em en ep ev
  have hB := O.2.1.1
  have R0 := O.2.2.1
  have yes : ∀ h', RM h h' → Q (if nI v = 0 then (maS ρ t x0 n p m).2.1 else (maS ρ t x0 n p m).2.2) h' := fun h' r => by
    have := hQ h' r
    unfold aMays at this
    rwa [if_pos ⟨c, IN_j m1 m2 (by decide), IN_j n1 n2 (by decide), IN_j p1 p2 (by decide), IN_j v1 v2 (by decide)⟩, nI_clamp (n := n) (by omega), nI_clamp (n := p) (by omega), nI_clamp (n := m) (by omega)] at this
  refine m_keepW O c (fun h1 W1 F1 r1 => ⟨W1.1, ?_⟩)
  rw [hX0]
  refine loopN (σ := Unit) (P := fun i _ h' => Sat g mX10_mays (d + 8) (0, 0) (qI Q) 82 [.ref 252, .int (nI m), .int (nI n), .int (nI p), .int (nI v), .int (nI x0), .int (nI (maS ρ t x0 n p i).1), .int (maS ρ t x0 n p i).2.1, .int (maS ρ t x0 n p i).2.2, .int (nI i), .double 0] [] h') (I := fun i _ h' => MW h ρ t h' ∧ RM h h') m (fun _ h' e => ?_) (fun i _ h' hi e ih => ?_) 0 () h1 (by omega) ⟨W1, r1⟩
  · refine wX10_mays_82 _ _ _ _ _ _ _ _ _ e.1.1 ⟨fun _ => ?_, fun q => absurd (nI_le (Nat.le_refl _) (by omega)) q⟩
    have := yes (setI h' 253 6 (nI x0)) ⟨e.2.1.sm hX0.symm, fun q hq => (rdn (by omega)).trans (e.2.2 q hq)⟩
    exact ⟨fun z => by rwa [if_pos z] at this, fun z => by rwa [if_neg z] at this⟩
  · obtain ⟨W, r⟩ := e
    have hlt := maS_lt (ρ := ρ) (p := p) (n := n) hx0 hB R0 (by omega) i
    refine wX10_mays_82 _ _ _ _ _ _ _ _ _ W.1 ⟨fun q => absurd q (nI_ge hi (by omega)), fun _ => ?_⟩
    have fs : ∀ (h2 : HP) y, FrC (fun x k => x = 253 ∧ k = 6) h2 (setI h2 253 6 y) := fun h2 y => FrC.stI ⟨rfl, rfl⟩
    have Ts : ∀ {t2 : Tw} (h2 : HP) y, TD h2 253 t2 → TD (setI h2 253 6 y) 253 t2 := fun h2 y T => T.to (fun k hk => rdn (by omega)) (fun a b _ _ => rdn (by omega))
    have Ws : ∀ {t2 : Tw} (h2 : HP) y, MW h ρ t2 h2 → MW h ρ t2 (setI h2 253 6 y) := fun h2 y W => W.set (fs h2 y) (fun x k hx => by unfold AU AF AT; omega) (Ts h2 y W.2.2.2.1) W.2.2.2.2.1 W.2.2.2.2.2.2
    have Fs : ∀ (h2 : HP) y, MF h2 → MF (setI h2 253 6 y) := fun h2 y F q hq => (rdn (by omega)).trans (F q hq)
    refine loopN (σ := Unit) (P := fun k _ h2 => Sat g mX10_mays (d + 8) (0, 0) (qI Q) 100 [.ref 252, .int (nI m), .int (nI n), .int (nI p), .int (nI v), .int (nI x0), .double 0, .int (maS ρ t x0 n p i).2.1, .int (maS ρ t x0 n p i).2.2, .int (nI i), .int (nI k)] [] h2) (I := fun k _ h2 => MW h ρ (mayI ρ p ((maS ρ t x0 n p i).1, t) k).2 h2 ∧ MF h2 ∧ hI h2 253 6 = nI (mayI ρ p ((maS ρ t x0 n p i).1, t) k).1) n (fun _ h2 e => ?_) (fun k _ h2 hk e ih2 => ?_) 0 () _ (by omega) ⟨Ws h' _ W, Fs h' _ r.2, rdI⟩
    · obtain ⟨W2, F2, X2⟩ := e
      obtain ⟨-, -, -, -, e2⟩ := mayI_ok (ρ := ρ) (p := p) (s := ((maS ρ t x0 n p i).1, t)) hlt hB R0 n (show t.1 4 + n ≤ 5000 by omega)
      have T2 := W2.2.2.2.1
      refine wX10_mays_100 _ _ _ _ _ _ _ _ _ W2.1 ⟨fun _ => m_allFar W2.1 T2 W2.2.2.2.2.1 ⟨W2.1, m_allHollows W2.1 T2 ⟨W2.1, m_backW W2 O c (fun h3 W3 f3 e3 _ => ⟨W3.1, ?_⟩)⟩⟩, fun q => absurd (nI_le (Nat.le_refl _) (by omega)) q⟩
      have := ih () h3 ⟨W3, f3, fun q hq => (e3 q).trans (F2 q hq)⟩
      have e22 : (mayI ρ p ((maS ρ t x0 n p i).1, t) n).2.1 2 = t.1 2 := e2 2 (by omega)
      rw [X2, nI_1, e22]
      exact this
    · obtain ⟨W2, F2, X2⟩ := e
      obtain ⟨g1, g2, g3, g4, g5⟩ := mayI_ok (ρ := ρ) (p := p) (s := ((maS ρ t x0 n p i).1, t)) hlt hB R0 k (show t.1 4 + k ≤ 5000 by omega)
      have ih2 := ih2 ()
      have es : mayI ρ p ((maS ρ t x0 n p i).1, t) (k + 1) = mayN ρ p (mayI ρ p ((maS ρ t x0 n p i).1, t) k) := rfl
      rw [es] at ih2
      have g4 : (mayI ρ p ((maS ρ t x0 n p i).1, t) k).2.1 4 = t.1 4 + k := g4
      generalize mayI ρ p ((maS ρ t x0 n p i).1, t) k = u at *
      have dl := drw_lt u.1
      have dl2 := drw_lt (drw u.1)
      have hB2 := g2
      unfold TB at hB2
      refine wX10_mays_100 _ _ _ _ _ _ _ _ _ W2.1 ⟨fun q => absurd q (nI_ge hk (by omega)), fun _ => m_draws (n := 100) W2.1 g1 (by decide) (by decide) X2 ?_⟩
      have W3 := Ws h2 (nI (drw u.1)) W2
      have F3 := Fs h2 (nI (drw u.1)) F2
      have X3 : hI (setI h2 253 6 (nI (drw u.1))) 253 6 = nI (drw u.1) := rdI
      generalize setI h2 253 6 (nI (drw u.1)) = h4 at *
      refine ⟨W3.1, ?_⟩
      rw [nI_leI (by omega) (by omega), nI_1, show hI h4 253 2 = nI (u.2.1 2) from mS W3.2.2.2.1 2 (by omega)]
      have go : ∀ (t5 : Tw) h5 y, MW h ρ t5 h5 → MF h5 → hI h5 253 6 = nI y → t5.1 4 + 1 ≤ 5000 → mayN ρ p u = (y, nightT t5 ρ frH) → CallI g mX10_goes (d + 7) [.ref 252] h5 (fun _ h6 => Lay h6 ∧ Sat g mX10_mays (d + 8) (0, 0) (qI Q) 100 [.ref 252, .int (nI m), .int (nI n), .int (nI p), .int (nI v), .int (nI x0), .double 0, .int (maS ρ t x0 n p i).2.1, .int (maS ρ t x0 n p i).2.2, .int (nI i), .int (nI (k + 1))] [] h6) := fun t5 h5 y W5 F5 X5 b5 ey => by
        refine m_goesW W5 (F5.mu W5.2.2.2.1.1) b5 (fun h6 W6 f6 _ => ⟨W6.1, ih2 h6 ?_⟩)
        rw [ey]
        exact ⟨W6, fun q hq => (f6.I (by unfold AG; omega)).trans (F5 q hq), (f6.I (by unfold AG; omega)).trans X5⟩
      refine ⟨fun q => ?_, fun q => ⟨fun z => ?_, fun z => ?_⟩⟩
      · exact go u.2 h4 _ W3 F3 X3 (by omega) (by unfold mayN; rw [if_neg (by omega)])
      · exact go u.2 h4 _ W3 F3 X3 (by omega) (by unfold mayN; rw [if_neg (fun w => absurd z (nI_nle w.2 (by omega)))])
      · have hb0 : 0 < u.2.1 2 := by
          rcases Nat.eq_zero_or_pos (u.2.1 2) with y | y
          · exact absurd (by rw [y]; decide) z
          · exact y
        have hm := Nat.mod_lt (drw (drw u.1) / 65536) hb0
        refine m_draws W3.1 dl hb0 (by omega) X3 ?_
        have W5 := Ws h4 (nI (drw (drw u.1))) W3
        have F5 := Fs h4 (nI (drw (drw u.1))) F3
        have X5 : hI (setI h4 253 6 (nI (drw (drw u.1)))) 253 6 = nI (drw (drw u.1)) := rdI
        generalize setI h4 253 6 (nI (drw (drw u.1))) = h5 at *
        have emn : mayN ρ p u = (drw (drw u.1), nightT (swapT u.2 (drw (drw u.1) / 65536 % u.2.1 2)) ρ frH) := by unfold mayN; rw [if_pos ⟨by omega, hb0⟩]
        generalize drw (drw u.1) / 65536 % u.2.1 2 = j at *
        have T5 := W5.2.2.2.1
        refine ⟨W5.1, wX10_turns_0 _ W5.1 ⟨vn (by omega) (by omega), ?_⟩⟩
        rw [nI_clamp (n := j) (by omega), mUn T5 hm, mHo T5 hm]
        have f6 : FrC (fun x k => (x = 254 ∨ x = 255) ∧ k = j) h5 (setI (setI h5 254 j (u.2.2 2 j)) 255 j (u.2.2 1 j)) := (FrC.stI (by omega)).tr (FrC.stI (by omega))
        have T6 : TD (setI (setI h5 254 j (u.2.2 2 j)) 255 j (u.2.2 1 j)) 253 (swapT u.2 j) := (T5.set 1 j (u.2.2 2 j) (by omega) (by omega)).set 2 j (u.2.2 1 j) (by omega) (by omega)
        have W6 := W5.set (t' := swapT u.2 j) f6 (fun x k hx => by unfold AU AF AT; omega) T6 (swap_ok g2 g3 hm).2 W5.2.2.2.2.2.2
        have F6 : MF (setI (setI h5 254 j (u.2.2 2 j)) 255 j (u.2.2 1 j)) := fun q hq => (f6.I (by omega)).trans (F5 q hq)
        exact ⟨W6.1, go _ _ _ W6 F6 ((f6.I (by omega)).trans X5) (show u.2.1 4 + 1 ≤ 5000 by omega) emn⟩
end MP3
