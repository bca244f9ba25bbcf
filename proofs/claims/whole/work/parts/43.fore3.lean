/-! Foresight, on: settled, Mays -/
def bgV (t : Tw) (j : Nat) : Int32 := if j < 6 then (if j < t.1 3 then t.2 4 j else 0) else (if j - 6 < t.1 2 then t.2 1 (j - 6) else 0)
def samT (t t' : Tw) : Prop := ∀ j, j < 11 → bgV t j = bgV t' j
noncomputable def seI (ρ : Option Rl) (t : Tw) (a : Nat) : Nat → Nat → Option Nat
  | 0, _ => none
  | k + 1, b => have := Classical.propDecidable (samT (itN ρ t a) (itN ρ t b)); if samT (itN ρ t a) (itN ρ t b) then some b else seI ρ t a k (b + 1)
noncomputable def seO (ρ : Option Rl) (t : Tw) : Nat → Nat → Option (Nat × Nat)
  | 0, _ => none
  | k + 1, a => match seI ρ t a (60 - a) (a + 1) with
    | some b => some (a, b)
    | none => seO ρ t k (a + 1)
theorem seI_y {ρ : Option Rl} {t : Tw} {a k b : Nat} (h : samT (itN ρ t a) (itN ρ t b)) : seI ρ t a (k + 1) b = some b := by
  rw [seI]
  exact if_pos h
theorem seI_n {ρ : Option Rl} {t : Tw} {a k b : Nat} (h : ¬ samT (itN ρ t a) (itN ρ t b)) : seI ρ t a (k + 1) b = seI ρ t a k (b + 1) := by
  rw [seI]
  exact if_neg h
def seV (t : Tw) (o : Option (Nat × Nat)) : Int32 × Int32 := match o with
  | none => (-2, -2)
  | some (a, b) => (nI (t.1 4 + a), nI (b - a))
section F4
variable {g : GT} {d : Nat} {h : HP} {t : Tw} {ρ : Option Rl} {r2 : Option Nat}
theorem c_writeBegin {i : Nat} {Q : HP → Prop} (L : Lay h) (hT : TownIs h 47 t) (hi : i ≤ 60) (hQ : ∀ h', Fr (fun x => x = 56) h h' → (∀ j, j < 11 → hI h' 56 (i * 11 + j) = bgV t j) → (∀ j, j < i * 11 → hI h' 56 j = hI h 56 j) → Q h') : CallV g mX1_writeBegin d (0, 0) [.ref 46, .int (nI i)] h Q := by
  have hB := hT.2.1
  unfold TB at hB
  have e11 : nI i * 11 = nI (i * 11) := by rw [show (11 : Int32) = nI 11 from rfl, pk_mul]
  have e22 : nI (i * 11) + 11 = nI (i * 11 + 11) := by rw [show (11 : Int32) = nI 11 from rfl, nI_add]
  refine wX1_writeBegin_0 _ L ?_
  rw [e11, e22, Ln L N_56]
  refine ⟨fun c => absurd c (nI_pos (by omega)), fun _ => ⟨fun _ => ?_, fun c => absurd (nI_le (a := i * 11 + 11) (b := 671) (by omega) (by omega)) c⟩⟩
  refine loopN (σ := Unit) (P := fun k _ h' => Sat g mX1_writeBegin d (0, 0) (qV Q) 24 [.ref 46, .double 0, .int (nI (i * 11)), .int (nI k)] [] h') (I := fun k _ h' => Fr (fun x => x = 56) h h' ∧ (∀ j, j < k → hI h' 56 (i * 11 + j) = bgV t j) ∧ ∀ j, j < i * 11 → hI h' 56 j = hI h 56 j) 6 (fun _ h' e => ?_) (fun k _ h' hk e ih => ?_) 0 () h (by omega) ⟨Fr.rf h, fun j hj => by omega, fun _ _ => rfl⟩
  · refine wX1_writeBegin_24 _ _ (L.fr e.1) ⟨fun _ => ?_, fun c => absurd (show (6 : Int32) ≤ nI 6 by decide) c⟩
    refine loopN (σ := Unit) (P := fun k _ h' => Sat g mX1_writeBegin d (0, 0) (qV Q) 70 [.ref 46, .double 0, .int (nI (i * 11)), .int (nI k)] [] h') (I := fun k _ h' => Fr (fun x => x = 56) h h' ∧ (∀ j, j < 6 + k → hI h' 56 (i * 11 + j) = bgV t j) ∧ ∀ j, j < i * 11 → hI h' 56 j = hI h 56 j) 5 (fun _ h' e => ?_) (fun k _ h' hk e ih => ?_) 0 () h' (by omega) e
    · exact wX1_writeBegin_70 _ _ (L.fr e.1) ⟨fun _ => hQ h' e.1 e.2.1 e.2.2, fun c => absurd (show (5 : Int32) ≤ nI 5 by decide) c⟩
    · obtain ⟨f, b1, b2⟩ := e
      have T' := hT.fr f (fun x h1 h2 => by omega)
      have ei : nI (i * 11) + 6 + nI k = nI (i * 11 + (6 + k)) := by rw [show (6 : Int32) = nI 6 from rfl, nI_add, nI_add, Nat.add_assoc]
      refine wX1_writeBegin_70 _ _ (L.fr f) ⟨fun c => absurd c (nI_ge (a := k) (b := 5) hk (by omega)), fun _ => ?_⟩
      rw [ei, nI_clamp (n := i * 11 + (6 + k)) (by omega), nI_1, show hI h' 47 2 = nI (t.1 2) from T'.2.2.1 2 (by omega), nI_leI (by omega) (by omega), nI_clamp (n := k) (by omega)]
      have fin : ∀ v, v = bgV t (6 + k) → Sat g mX1_writeBegin d (0, 0) (qV Q) 70 [.ref 46, .double 0, .int (nI (i * 11)), .int (nI (k + 1))] [] (setI h' 56 (i * 11 + (6 + k)) v) := by
        intro v ev
        refine ih () _ ⟨f.tr (Fr.stI rfl), fun j hj => ?_, fun j hj => ?_⟩
        · by_cases c : j = 6 + k
          · subst c; rw [rdI, ev]
          · rw [rdn (by omega)]; exact b1 j (by omega)
        · rw [rdn (by omega)]; exact b2 j hj
      refine ⟨fun c => ⟨vn (by omega) (by omega), fin _ ?_⟩, fun c => ⟨vn (by omega) (by omega), vn (by omega) (by omega), fin _ ?_⟩⟩
      · unfold bgV; rw [if_neg (by omega), if_neg (by omega)]
      · unfold bgV; rw [if_neg (by omega), if_pos (by omega), show 6 + k - 6 = k by omega]
        exact T'.bed 1 (by omega) (by omega) (by omega)
  · obtain ⟨f, b1, b2⟩ := e
    have T' := hT.fr f (fun x h1 h2 => by omega)
    have ei : nI (i * 11) + nI k = nI (i * 11 + k) := nI_add _ _
    refine wX1_writeBegin_24 _ _ (L.fr f) ⟨fun c => absurd c (nI_ge (a := k) (b := 6) hk (by omega)), fun _ => ?_⟩
    rw [ei, nI_clamp (n := i * 11 + k) (by omega), nI_1, show hI h' 47 3 = nI (t.1 3) from T'.2.2.1 3 (by omega), nI_leI (by omega) (by omega), nI_clamp (n := k) (by omega)]
    have fin : ∀ v, v = bgV t k → Sat g mX1_writeBegin d (0, 0) (qV Q) 24 [.ref 46, .double 0, .int (nI (i * 11)), .int (nI (k + 1))] [] (setI h' 56 (i * 11 + k) v) := by
      intro v ev
      refine ih () _ ⟨f.tr (Fr.stI rfl), fun j hj => ?_, fun j hj => ?_⟩
      · by_cases c : j = k
        · subst c; rw [rdI, ev]
        · rw [rdn (by omega)]; exact b1 j (by omega)
      · rw [rdn (by omega)]; exact b2 j hj
    refine ⟨fun c => ⟨vn (by omega) (by omega), fin _ ?_⟩, fun c => ⟨vn (by omega) (by omega), vn (by omega) (by omega), fin _ ?_⟩⟩
    · unfold bgV; rw [if_pos hk, if_neg (by omega)]
    · unfold bgV; rw [if_pos hk, if_pos (by omega)]
      exact T'.lod 4 (by omega) (by omega) (by omega)
theorem c_sameBegins {a b : Nat} {Q : Int32 → HP → Prop} (L : Lay h) (ha : a ≤ 60) (hb : b ≤ 60) (hA : ∀ k, k ≤ 60 → ∀ j, j < 11 → hI h 56 (k * 11 + j) = bgV (itN ρ t k) j) (hy : samT (itN ρ t a) (itN ρ t b) → Q 1 h) (hn : ¬ samT (itN ρ t a) (itN ρ t b) → Q 0 h) : CallI g mX1_sameBegins (d + 1) [.ref 46, .int (nI a), .int (nI b)] h Q := by
  have e11 : ∀ a, nI a * 11 = nI (a * 11) := fun a => by rw [show (11 : Int32) = nI 11 from rfl, pk_mul]
  refine wX1_sameBegins_0 _ _ L ⟨fun c => absurd c (nI_pos (by omega)), fun _ => ⟨fun c => absurd c (nI_pos (by omega)), fun _ => c_max ⟨L, fun _ => ?_, fun c => absurd ?_ c⟩⟩⟩
  · refine loopN (σ := Unit) (P := fun k _ h' => Sat g mX1_sameBegins (d + 1) (0, 0) (qI Q) 22 [.ref 46, .int (nI a), .int (nI b), .int (nI k)] [] h') (I := fun k _ h' => h' = h ∧ ∀ j, j < k → bgV (itN ρ t a) j = bgV (itN ρ t b) j) 11 (fun _ h' e => ?_) (fun k _ h' hk e ih => ?_) 0 () h (by omega) ⟨rfl, fun j hj => by omega⟩
    · obtain ⟨rfl, e⟩ := e
      exact wX1_sameBegins_22 _ _ _ L ⟨fun _ => hy e, fun c => absurd (show (11 : Int32) ≤ nI 11 by decide) c⟩
    · obtain ⟨rfl, e⟩ := e
      refine wX1_sameBegins_22 _ _ _ L ⟨fun c => absurd c (nI_ge (a := k) (b := 11) hk (by omega)), fun _ => ?_⟩
      rw [e11, e11, nI_add, nI_add, nI_clamp (n := a * 11 + k) (by omega), nI_clamp (n := b * 11 + k) (by omega), hA a ha k hk, hA b hb k hk, nI_1]
      refine ⟨vn (by omega) (by omega), vn (by omega) (by omega), fun c => ih () h' ⟨rfl, fun j hj => ?_⟩, fun c => hn (fun w => c (w k hk))⟩
      by_cases z : j = k
      · subst z; exact c
      · exact e j (by omega)
  · rw [show (60 : Int32) = nI 60 from rfl]
    split
    · exact nI_le hb (by omega)
    · exact nI_le ha (by omega)
theorem c_findSettled {Q : HP → Prop} (L : Lay h) (hT : TownIs h 4 t) (R : TR t) (hC : CRho h r2 ρ) (hb : t.1 4 ≤ 2000) (hQ : ∀ h', Fr (fun x => 40 ≤ x ∧ x < 58) h h' → hI h' 57 0 = (seV t (seO ρ t 60 0)).1 → hI h' 57 1 = (seV t (seO ρ t 60 0)).2 → Q h') : CallV g mX1_findSettled (d + 5) (0, 0) [.ref 46, .ref 4, ov r2] h Q := by
  have hB := hT.2.1
  unfold TB at hB
  have key := wX1_findSettled_0 (g := g) (d := d + 4) (b := (0, 0)) (Q := qV Q) r2 L (c_copyFrom (Ltw_47 L) hT (by omega) (fun h2 o2 T2 => by
    have f2 : Fr (fun x => 40 ≤ x ∧ x < 58) h h2 := o2.fr.wd (fun x hx => by omega)
    refine ⟨L.fr f2, ?_⟩
    refine loopN (σ := Unit) (P := fun i _ h' => Sat g mX1_findSettled (d + 5) (0, 0) (qV Q) 10 [.ref 46, .ref 4, ov r2, .int (nI i), .double 0] [] h') (I := fun i _ h' => Fr (fun x => 40 ≤ x ∧ x < 58) h h' ∧ TownIs h' 47 (itN ρ t i) ∧ ∀ k, k < i → ∀ j, j < 11 → hI h' 56 (k * 11 + j) = bgV (itN ρ t k) j) 61 (fun _ h' e => ?_) (fun i _ h' hi e ih => ?_) 0 () h2 (by omega) ⟨f2, T2, fun k hk => by omega⟩
    · obtain ⟨f, T', bg⟩ := e
      have L' := L.fr f
      refine wX1_findSettled_10 _ _ L' ⟨fun _ => c_tell L' ⟨L', ?_⟩, fun c => absurd (show (60 : Int32) < nI 61 by decide) c⟩
      have f3 : Fr (fun x => 40 ≤ x ∧ x < 58) h (setI (setI (setI h' 57 0 (-2)) 57 1 (-2)) 57 2 (-1)) := f.tr (((Fr.stI (by omega)).tr (Fr.stI (by omega))).tr (Fr.stI (by omega)))
      have bg3 : ∀ k, k ≤ 60 → ∀ j, j < 11 → hI (setI (setI (setI h' 57 0 (-2)) 57 1 (-2)) 57 2 (-1)) 56 (k * 11 + j) = bgV (itN ρ t k) j := fun k hk j hj => by
        rw [rdn (by omega), rdn (by omega), rdn (by omega)]; exact bg k (by omega) j hj
      have w0 : hI (setI (setI (setI h' 57 0 (-2)) 57 1 (-2)) 57 2 (-1)) 57 0 = -2 := rfl
      have w1 : hI (setI (setI (setI h' 57 0 (-2)) 57 1 (-2)) 57 2 (-1)) 57 1 = -2 := rfl
      generalize setI (setI (setI h' 57 0 (-2)) 57 1 (-2)) 57 2 (-1) = h3 at *
      have L3 := L.fr f3
      have T3 := hT.fr f3 (fun x h1 h2 => by omega)
      refine loopN (σ := Unit) (P := fun a _ h' => Sat g mX1_findSettled (d + 5) (0, 0) (qV Q) 52 [.ref 46, .ref 4, .double 0, .int (nI a), .double 0] [] h') (I := fun a _ h' => h' = h3 ∧ seO ρ t 60 0 = seO ρ t (60 - a) a) 60 (fun _ h' e => ?_) (fun a _ h' ha e ih => ?_) 0 () h3 (by omega) ⟨rfl, rfl⟩
      · obtain ⟨rfl, e⟩ := e
        have e : seO ρ t 60 0 = none := e
        refine wX1_findSettled_52 _ L3 ⟨fun _ => hQ _ f3 (by rw [e]; exact w0) (by rw [e]; exact w1), fun c => absurd (show (60 : Int32) ≤ nI 60 by decide) c⟩
      · obtain ⟨rfl, e⟩ := e
        refine wX1_findSettled_52 _ L3 ⟨fun c => absurd c (nI_ge (a := a) (b := 60) ha (by omega)), fun _ => ?_⟩
        rw [nI_1]
        have eo : seO ρ t (60 - a) a = match seI ρ t a (60 - a) (a + 1) with
            | some b => some (a, b)
            | none => seO ρ t (60 - (a + 1)) (a + 1) := by
          rw [show 60 - a = (60 - (a + 1)) + 1 by omega]
          conv => lhs; rw [seO]
          rw [show 60 - (a + 1) + 1 = 60 - a by omega]
        rw [eo] at e
        refine loopN (σ := Unit) (P := fun k _ h4 => Sat g mX1_findSettled (d + 5) (0, 0) (qV Q) 63 [.ref 46, .ref 4, .double 0, .int (nI a), .int (nI (a + 1 + k))] [] h4) (I := fun k _ h4 => h4 = h' ∧ seI ρ t a (60 - a) (a + 1) = seI ρ t a (60 - a - k) (a + 1 + k)) (60 - a) (fun _ h4 e4 => ?_) (fun k _ h4 hk e4 ih2 => ?_) 0 () h' (by omega) ⟨rfl, rfl⟩
        · obtain ⟨rfl, e4⟩ := e4
          rw [show 60 - a - (60 - a) = 0 by omega] at e4
          have e4 : seI ρ t a (60 - a) (a + 1) = none := e4
          rw [e4] at e
          refine wX1_findSettled_63 _ _ L3 ⟨fun _ => ?_, fun c => absurd ?_ c⟩
          · rw [nI_1]; exact ih () h4 ⟨rfl, e⟩
          · rw [show a + 1 + (60 - a) = 61 by omega]; decide
        · obtain ⟨rfl, e4⟩ := e4
          refine wX1_findSettled_63 _ _ L3 ⟨fun c => absurd c (nI_nlt (a := 60) (b := a + 1 + k) (by omega) (by omega)), fun _ => c_sameBegins (ρ := ρ) (t := t) L3 (by omega) (by omega) bg3 (fun w => ⟨L3, fun c => absurd c (by decide), fun _ => c_tell L3 ⟨L3, hQ _ (f3.tr (((Fr.stI (by omega)).tr (Fr.stI (by omega))).tr (Fr.stI (by omega)))) ?_ ?_⟩⟩) (fun w => ⟨L3, fun _ => ?_, fun c => absurd rfl c⟩)⟩
          · rw [show 60 - a - k = (60 - a - k - 1) + 1 by omega, seI_y w] at e4
            rw [e4] at e
            rw [e]
            show hI h4 4 4 + nI a = nI (t.1 4 + a)
            rw [show hI h4 4 4 = nI (t.1 4) from T3.2.2.1 4 (by omega), nI_add]
          · rw [show 60 - a - k = (60 - a - k - 1) + 1 by omega, seI_y w] at e4
            rw [e4] at e
            rw [e]
            show nI (a + 1 + k) - nI a = nI (a + 1 + k - a)
            rw [pk_sub (by omega)]
          · rw [show 60 - a - k = (60 - a - (k + 1)) + 1 by omega, seI_n w] at e4
            rw [nI_1]
            exact ih2 () h4 ⟨rfl, e4⟩
    · obtain ⟨f, T', bg⟩ := e
      have L' := L.fr f
      refine wX1_findSettled_10 _ _ L' ⟨fun c => absurd c (nI_nlt (a := 60) (b := i) (by omega) (by omega)), fun _ => c_writeBegin L' T' (by omega) (fun h3 f3 b1 b2 => ⟨L'.fr f3, ?_⟩)⟩
      have f13 : Fr (fun x => 40 ≤ x ∧ x < 58) h h3 := f.tr (f3.wd (fun x hx => by omega))
      have T3 := T'.fr f3 (fun x h1 h2 => by omega)
      refine c_pass1 (L.fr f13) T3 (itN_ok hT.2.1 R i (by omega)).2 (by omega) (hC.to (fun x k hx => by rw [(f13.2.2 x (by omega)).1])) (by rw [itN_4]; omega) (fun h4 f4 T4 => ⟨(L.fr f13).fr f4, ?_⟩)
      rw [nI_1]
      refine ih () h4 ⟨f13.tr (f4.wd (fun x hx => by omega)), T4, fun k hk j hj => ?_⟩
      rw [(f4.2.2 56 (by omega)).1]
      by_cases c : k = i
      · subst c; exact b1 j hj
      · rw [b2 (k * 11 + j) (by omega)]; exact bg k (by omega) j hj))
  cases r2 <;> exact key
end F4
/-- Mays: a DRAW -/
theorem drw_ex : ∃ f : Nat → Nat, ∀ x, f x = (x * 1103515245 + 12345) % 2147483648 := ⟨fun x => (x * 1103515245 + 12345) % 2147483648, fun _ => rfl⟩
noncomputable def drw : Nat → Nat := Classical.choose drw_ex
theorem drw_e (x : Nat) : drw x = (x * 1103515245 + 12345) % 2147483648 := Classical.choose_spec drw_ex x
theorem drw_lt (x : Nat) : drw x < 2147483648 := by
  rw [drw_e]
  exact Nat.mod_lt _ (by decide)
noncomputable def mayN (ρ : Option Rl) (p : Nat) (s : Nat × Tw) : Nat × Tw := if drw s.1 / 65536 % 100 < p ∧ 0 < s.2.1 2 then (drw (drw s.1), nightT (swapT s.2 (drw (drw s.1) / 65536 % s.2.1 2)) ρ frH) else (drw s.1, nightT s.2 ρ frH)
noncomputable def mayI (ρ : Option Rl) (p : Nat) (s : Nat × Tw) : Nat → Nat × Tw
  | 0 => s
  | n + 1 => mayN ρ p (mayI ρ p s n)
noncomputable def maS (ρ : Option Rl) (t : Tw) (x n p : Nat) : Nat → Nat × Int32 × Int32
  | 0 => (x, 0, 0)
  | i + 1 => ((mayI ρ p ((maS ρ t x n p i).1, t) n).1, (maS ρ t x n p i).2.1 + farA (mayI ρ p ((maS ρ t x n p i).1, t) n).2, (maS ρ t x n p i).2.2 + sumI ((mayI ρ p ((maS ρ t x n p i).1, t) n).2.2 1) (t.1 2))
theorem mayN_ok {ρ : Option Rl} {p : Nat} {u : Nat × Tw} (h2 : TB u.2) (h3 : TR u.2) (h4 : u.2.1 4 + 1 ≤ 5000) : (mayN ρ p u).1 < 2147483648 ∧ TB (mayN ρ p u).2 ∧ TR (mayN ρ p u).2 ∧ (mayN ρ p u).2.1 4 = u.2.1 4 + 1 ∧ ∀ k, k < 4 → (mayN ρ p u).2.1 k = u.2.1 k := by
  unfold mayN
  by_cases c : drw u.1 / 65536 % 100 < p ∧ 0 < u.2.1 2
  · rw [if_pos c]
    obtain ⟨g1, g2⟩ := swap_ok h2 h3 (Nat.mod_lt (drw (drw u.1) / 65536) c.2)
    refine ⟨drw_lt _, g1.night h4, g2.night g1, night_1 _ _ _ 4, fun k hk => ?_⟩
    have := night_1 (swapT u.2 (drw (drw u.1) / 65536 % u.2.1 2)) ρ frH k
    rw [if_neg (by omega)] at this
    exact this
  · rw [if_neg c]
    refine ⟨drw_lt _, h2.night h4, h3.night h2, night_1 _ _ _ 4, fun k hk => ?_⟩
    have := night_1 u.2 ρ frH k
    rw [if_neg (by omega)] at this
    exact this
theorem mayI_ok {ρ : Option Rl} {p : Nat} {s : Nat × Tw} (hx : s.1 < 2147483648) (hB : TB s.2) (hR : TR s.2) (n : Nat) (h : s.2.1 4 + n ≤ 5000) : (mayI ρ p s n).1 < 2147483648 ∧ TB (mayI ρ p s n).2 ∧ TR (mayI ρ p s n).2 ∧ (mayI ρ p s n).2.1 4 = s.2.1 4 + n ∧ ∀ k, k < 4 → (mayI ρ p s n).2.1 k = s.2.1 k := by
  induction n with
  | zero => exact ⟨hx, hB, hR, rfl, fun _ _ => rfl⟩
  | succ n ih =>
    obtain ⟨h1, h2, h3, h4, h5⟩ := ih (by omega)
    obtain ⟨g1, g2, g3, g4, g5⟩ := mayN_ok (ρ := ρ) (p := p) h2 h3 (by omega)
    exact ⟨g1, g2, g3, by rw [show mayI ρ p s (n + 1) = mayN ρ p (mayI ρ p s n) from rfl, g4, h4]; omega, fun k hk => (g5 k hk).trans (h5 k hk)⟩
theorem drw_l {x : Nat} (hx : x < 2147483648) : (lN x * 1103515245 + 12345) - (lN x * 1103515245 + 12345) / 2147483648 * 2147483648 = lN (drw x) := by
  have e : lN x * 1103515245 + 12345 = lN (x * 1103515245 + 12345) := by
    rw [show (1103515245 : Int64) = lN 1103515245 from rfl, lN_mul, show (12345 : Int64) = lN 12345 from rfl, lN_add]
  rw [e, show (2147483648 : Int64) = lN 2147483648 from rfl, pk_lRem (by omega) (by omega) (by omega), drw_e]
section F5
variable {g : GT} {d : Nat} {h : HP} {t : Tw} {ρ : Option Rl} {r2 : Option Nat}
theorem c_draw {x : Nat} {Q : Int32 → HP → Prop} (L : Lay h) (hx : x < 2147483648) (hX : hJ h 46 4 = lN x) (hQ : Q (nI (drw x / 65536)) (setJ h 46 4 (lN (drw x)))) : CallI g mX1_draw d [.ref 46] h Q := by
  refine wX1_draw_0 L ?_
  have := drw_lt x
  rw [hX, drw_l hx, show (65536 : Int64) = lN 65536 from rfl, pk_lDiv (by omega) (by omega) (by omega), lN_i]
  exact hQ
theorem c_goOnTurning {n p : Nat} {s : Nat × Tw} {Q : HP → Prop} (L : Lay h) (hT : TownIs h 47 s.2) (R : TR s.2) (hC : CRho h r2 ρ) (hb : s.2.1 4 + n ≤ 5000) (hx : s.1 < 2147483648) (hX : hJ h 46 4 = lN s.1) (hp : p ≤ 100) (hQ : ∀ h', Fr (fun x => 40 ≤ x ∧ x < 56) h h' → TownIs h' 47 (mayI ρ p s n).2 → hJ h' 46 4 = lN (mayI ρ p s n).1 → Q h') : CallV g mX1_goOnTurning (d + 5) (0, 0) [.ref 46, ov r2, .int (nI n), .int (nI p)] h Q := by
  have key := wX1_goOnTurning_0 (g := g) (d := d + 4) (b := (0, 0)) (Q := qV Q) r2 (nI n) (nI p) L (by
    refine loopN (σ := Unit) (P := fun i _ h' => Sat g mX1_goOnTurning (d + 5) (0, 0) (qV Q) 3 [.ref 46, ov r2, .int (nI n), .int (nI p), .int (nI i)] [] h') (I := fun i _ h' => Fr (fun x => 40 ≤ x ∧ x < 56) h h' ∧ TownIs h' 47 (mayI ρ p s i).2 ∧ hJ h' 46 4 = lN (mayI ρ p s i).1) n (fun _ h' e => ?_) (fun i _ h' hi e ih => ?_) 0 () h (by omega) ⟨Fr.rf h, hT, hX⟩
    · exact wX1_goOnTurning_3 _ _ _ _ (L.fr e.1) ⟨fun _ => hQ h' e.1 e.2.1 e.2.2, fun c => absurd (nI_le (Nat.le_refl _) (by omega)) c⟩
    · obtain ⟨f, T', X'⟩ := e
      obtain ⟨h1, h2, h3, h4, h5⟩ := mayI_ok (ρ := ρ) (p := p) hx hT.2.1 R i (by omega)
      have ih := ih ()
      have es : mayI ρ p s (i + 1) = mayN ρ p (mayI ρ p s i) := rfl
      rw [es] at ih
      generalize mayI ρ p s i = u at *
      have L' := L.fr f
      have hB := h2
      unfold TB at hB
      have dl := drw_lt u.1
      have dl2 := drw_lt (drw u.1)
      refine wX1_goOnTurning_3 _ _ _ _ L' ⟨fun c => absurd c (nI_ge hi (by omega)), fun _ => c_draw L' h1 X' ⟨L', ?_⟩⟩
      have f2 : Fr (fun x => 40 ≤ x ∧ x < 56) h (setJ h' 46 4 (lN (drw u.1))) := f.tr (Fr.stJ (by omega))
      have T2 : TownIs (setJ h' 46 4 (lN (drw u.1))) 47 u.2 := T'.fr (Fr.stJ (A := fun x => x = 46) rfl) (fun x h1 h2 => by omega)
      have hC2 : CRho (setJ h' 46 4 (lN (drw u.1))) r2 ρ := hC.to (fun x k hx => by rw [(f2.2.2 x (by omega)).1])
      rw [show (100 : Int32) = nI 100 from rfl, pk_rem (by omega) (by omega) (by omega), nI_leI (by omega) (by omega), nI_1, show hI (setJ h' 46 4 (lN (drw u.1))) 47 2 = nI (u.2.1 2) from T2.2.2.1 2 (by omega)]
      have no : ¬ (drw u.1 / 65536 % 100 < p ∧ 0 < u.2.1 2) → CallI g mX4_pass (d + 4) [Value.ref 40, .ref 47, ov r2, .null] (setJ h' 46 4 (lN (drw u.1))) (fun i6 h5 => Lay h5 ∧ Sat g mX1_goOnTurning (d + 5) (0, 0) (qV Q) 3 [Value.ref 46, ov r2, .int (nI n), .int (nI p), .int (nI (i + 1))] [] h5) := by
        intro c
        unfold mayN at ih
        rw [if_neg c] at ih
        refine c_pass1 (L.fr f2) T2 h3 (by omega) hC2 (by omega) (fun h3 f3 T3 => ⟨(L.fr f2).fr f3, ih h3 ⟨f2.tr (f3.wd (fun x hx => by omega)), T3, ?_⟩⟩)
        rw [(f3.2.2 46 (by omega)).2]
        exact rdJ
      refine ⟨fun c => no (by omega), fun c => ⟨fun z => no (fun w => ?_), fun z => ?_⟩⟩
      · exact absurd z (nI_nle w.2 (by omega))
      · have hb0 : 0 < u.2.1 2 := by
          rcases Nat.eq_zero_or_pos (u.2.1 2) with y | y
          · exact absurd (by rw [y]; decide) z
          · exact y
        have cc : drw u.1 / 65536 % 100 < p ∧ 0 < u.2.1 2 := ⟨by omega, hb0⟩
        unfold mayN at ih
        rw [if_pos cc] at ih
        have L2 := L.fr f2
        refine c_draw L2 dl rdJ ⟨L2, ?_⟩
        have f3 : Fr (fun x => 40 ≤ x ∧ x < 56) h (setJ (setJ h' 46 4 (lN (drw u.1))) 46 4 (lN (drw (drw u.1)))) := f2.tr (Fr.stJ (by omega))
        have T3 : TownIs (setJ (setJ h' 46 4 (lN (drw u.1))) 46 4 (lN (drw (drw u.1)))) 47 u.2 := T2.fr (Fr.stJ (A := fun x => x = 46) rfl) (fun x h1 h2 => by omega)
        have X3 : hJ (setJ (setJ h' 46 4 (lN (drw u.1))) 46 4 (lN (drw (drw u.1)))) 46 4 = lN (drw (drw u.1)) := rdJ
        generalize setJ (setJ h' 46 4 (lN (drw u.1))) 46 4 (lN (drw (drw u.1))) = h6 at *
        rw [show hI h6 47 2 = nI (u.2.1 2) from T3.2.2.1 2 (by omega), pk_rem (by omega) hb0 (by omega)]
        have hm := Nat.mod_lt (drw (drw u.1) / 65536) hb0
        refine ⟨nI_ne0 hb0 (by omega), c_swapSides T3 hm (fun h7 o7 T7 => ⟨(L.fr f3).fr o7.fr, ?_⟩)⟩
        have f7 : Fr (fun x => 40 ≤ x ∧ x < 56) h h7 := f3.tr (o7.fr.wd (fun x hx => by omega))
        refine c_pass1 (L.fr f7) T7 (swap_ok h2 h3 hm).2 (by omega) (hC.to (fun x k hx => by rw [(f7.2.2 x (by omega)).1])) (by show u.2.1 4 + 1 ≤ _; omega) (fun h8 f8 T8 => ⟨(L.fr f7).fr f8, ih h8 ⟨f7.tr (f8.wd (fun x hx => by omega)), T8, ?_⟩⟩)
        rw [(f8.2.2 46 (by omega)).2, o7.J]
        exact X3)
  cases r2 <;> exact key
theorem maS_lt {x n p : Nat} (hx : x < 2147483648) (hB : TB t) (hR : TR t) (hb : t.1 4 + n ≤ 5000) : ∀ i, (maS ρ t x n p i).1 < 2147483648
  | 0 => hx
  | i + 1 => (mayI_ok (s := ((maS ρ t x n p i).1, t)) (maS_lt hx hB hR hb i) hB hR n hb).1
theorem c_findMays {m n p x : Nat} {Q : HP → Prop} (L : Lay h) (hT : TownIs h 4 t) (R : TR t) (hC : CRho h r2 ρ) (hb : t.1 4 + n ≤ 5000) (hm : m ≤ 10) (hp : p ≤ 100) (hx : x < 2147483648) (hX : hI h 3 8 = nI x) (hQ : ∀ h', Fr (fun x => 40 ≤ x ∧ x < 58) h h' → hI h' 57 0 = (maS ρ t x n p m).2.1 → hI h' 57 1 = (maS ρ t x n p m).2.2 → Q h') : CallV g mX1_findMays (d + 6) (0, 0) [.ref 46, .ref 3, ov r2, .int (nI m), .int (nI n), .int (nI p)] h Q := by
  have hB := hT.2.1
  unfold TB at hB
  have key := wX1_findMays_0 (g := g) (d := d + 5) (b := (0, 0)) (Q := qV Q) r2 (nI m) (nI n) (nI p) L (by
    rw [hX, nI_l hx]
    refine loopN (σ := Unit) (P := fun i _ h' => Sat g mX1_findMays (d + 6) (0, 0) (qV Q) 18 [.ref 46, .ref 3, ov r2, .int (nI m), .int (nI n), .int (nI p), .int (maS ρ t x n p i).2.1, .int (maS ρ t x n p i).2.2, .int (nI i)] [] h') (I := fun i _ h' => Fr (fun x => 40 ≤ x ∧ x < 58) h h' ∧ hJ h' 46 4 = lN (maS ρ t x n p i).1) m (fun _ h' e => ?_) (fun i _ h' hi e ih => ?_) 0 () _ (by omega) ⟨Fr.stJ (by omega), rdJ⟩
    · obtain ⟨f, X'⟩ := e
      have L' := L.fr f
      refine wX1_findMays_18 _ _ _ _ _ _ _ L' ⟨fun _ => c_tell L' ⟨L', hQ _ (f.tr (((Fr.stI (by omega)).tr (Fr.stI (by omega))).tr (Fr.stI (by omega)))) ?_ ?_⟩, fun c => absurd (nI_le (Nat.le_refl _) (by omega)) c⟩
      · rw [rdn (by omega), rdn (by omega), rdI]
      · rw [rdn (by omega), rdI]
    · obtain ⟨f, X'⟩ := e
      have L' := L.fr f
      have T' := hT.fr f (fun x h1 h2 => by omega)
      have hlt := maS_lt (ρ := ρ) (p := p) hx hT.2.1 R hb i
      obtain ⟨-, -, -, -, e2⟩ := mayI_ok (ρ := ρ) (p := p) (s := ((maS ρ t x n p i).1, t)) hlt hT.2.1 R n hb
      refine wX1_findMays_18 _ _ _ _ _ _ _ L' ⟨fun c => absurd c (nI_ge hi (by omega)), fun _ => c_copyFrom (Ltw_47 L') T' (by omega) (fun h2 o2 T2 => ⟨L'.fr o2.fr, ?_⟩)⟩
      have f2 : Fr (fun x => 40 ≤ x ∧ x < 58) h h2 := f.tr (o2.fr.wd (fun x hx => by omega))
      refine c_goOnTurning (s := ((maS ρ t x n p i).1, t)) (L.fr f2) T2 R (hC.to (fun x k hx => by rw [(f2.2.2 x (by omega)).1])) hb hlt (by rw [o2.J]; exact X') hp (fun h3 f3 T3 X3 => ⟨(L.fr f2).fr f3, ?_⟩)
      have f23 : Fr (fun x => 40 ≤ x ∧ x < 58) h h3 := f2.tr (f3.wd (fun x hx => by omega))
      refine c_farOfAll T3 ⟨L.fr f23, c_hollowOfAll T3 ⟨L.fr f23, ?_⟩⟩
      have e22 := e2 2 (by omega)
      rw [nI_1, e22]
      exact ih () h3 ⟨f23, X3⟩)
  cases r2 <;> exact key
end F5
