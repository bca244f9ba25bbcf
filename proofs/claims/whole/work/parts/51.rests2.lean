/-! games of two lodgers, of the class -/
def HdC (h : HP) (hd : Hd) : Prop := ∀ i, i < 6 → (hI h 60 i = -2 ∧ hd i = none) ∨ (¬ hI h 60 i = -2 ∧ hd i = some (hI h 60 i))
section RE2
variable {g : GT} {d : Nat} {h : HP} {t : Tw} {ρ : Option Rl} {r2 : Option Nat} {hd : Hd}
theorem HdC.to {h' : HP} (H : HdC h hd) (e : ∀ i, hI h' 60 i = hI h 60 i) : HdC h' hd := fun i hi => by rw [e i]; exact H i hi
theorem c_passH {a : Nat} {Q : Int32 → HP → Prop} (L : Lay h) (hT : TownIs h a t) (R : TR t) (ha : 68 ≤ a) (hC : CRho h r2 ρ) (hH : HdC h hd) (hb : t.1 4 + 1 ≤ 5000) (hQ : ∀ h', Fr (fun x => (40 ≤ x ∧ x < 46) ∨ (a ≤ x ∧ x < a + 9)) h h' → TownIs h' a (nightT t ρ hd) → Q (nI (cntL (lieS t ρ hd (t.1 3)).1 (t.1 3))) h') : CallI g mX4_pass (d + 4) [.ref 40, .ref a, ov r2, .ref 60] h Q :=
  c_night (r3 := some 60) (Lng L) hT R (by omega) ⟨Lk L K_60, Ln L N_60, by omega, by omega, hH⟩ (hC.rl L (fun r hr => Lru L hr) hT (by omega)) hb (fun h' f T => hQ h' (f.wd (fun x hx => by omega)) T)
theorem c_holdNobody {Q : HP → Prop} (L : Lay h) (hQ : ∀ h', Fr (fun x => x = 60) h h' → (∀ i, i < 6 → hI h' 60 i = -2) → Q h') : CallV g mX0_holdNobody d (0, 0) [.ref 58] h Q := by
  refine wX0_holdNobody_0 L ?_
  refine loopN (σ := Unit) (P := fun i _ h' => Sat g mX0_holdNobody d (0, 0) (qV Q) 2 [.ref 58, .int (nI i)] [] h') (I := fun i _ h' => Fr (fun x => x = 60) h h' ∧ ∀ q, q < i → hI h' 60 q = -2) 6 (fun _ h' e => ?_) (fun i _ h' hi e ih => ?_) 0 () h (by omega) ⟨Fr.rf h, fun q hq => by omega⟩
  · exact wX0_holdNobody_2 _ (L.fr e.1) ⟨fun _ => hQ h' e.1 e.2, fun c => absurd (by decide) c⟩
  · refine wX0_holdNobody_2 _ (L.fr e.1) ⟨fun c => absurd c (nI_ge (a := i) (b := 6) hi (by omega)), fun _ => ⟨vn (by omega) (by omega), ?_⟩⟩
    rw [nI_clamp (n := i) (by omega), nI_1]
    refine ih () _ ⟨e.1.tr (Fr.stI rfl), fun q hq => ?_⟩
    by_cases c : q = i
    · subst c; exact rdI
    · rw [rdn (by omega)]; exact e.2 q (by omega)
theorem c_playAllTwos {one other n : Nat} {Q : HP → Prop} (L : Lay h) (hT : TownIs h 4 t) (R : TR t) (hC : CRho h r2 ρ) (hb : t.1 4 ≤ 2000) (h1 : one < t.1 3) (h2 : other < t.1 3) (hne : ¬ one = other) (hn : n ≤ 20) (hQ : ∀ h', Fr (fun x => 40 ≤ x ∧ x < 126 ∧ ¬ x = 62) h h' → tbl h' 66 67 (t.1 2) (t.1 2) (foA ρ t one other n) (foB ρ t one other n) → Q h') : CallV g mX0_playAllTwos (d + 5) (0, 0) [.ref 58, .ref 4, ov r2, .int (nI one), .int (nI other), .int (nI n)] h Q := by
  have hB := hT.2.1
  unfold TB at hB
  have key := wX0_playAllTwos_0 (g := g) (d := d + 4) (b := (0, 0)) (Q := qV Q) r2 (nI one) (nI other) (nI n) L (c_holdNobody L (fun k1 f1 z1 => ⟨L.fr f1, by
    refine loopN (σ := Unit) (P := fun a _ h' => Sat g mX0_playAllTwos (d + 5) (0, 0) (qV Q) 15 [.ref 58, .ref 4, ov r2, .int (nI one), .int (nI other), .int (nI n), .ref 68, .int (nI a), .double 0, .double 0] [] h') (I := fun a _ h' => Fr (fun x => 40 ≤ x ∧ x < 126 ∧ ¬ x = 62) h h' ∧ (∀ q, q < 6 → ¬ q = one → ¬ q = other → hI h' 60 q = -2) ∧ tbl h' 66 67 a (t.1 2) (foA ρ t one other n) (foB ρ t one other n)) (t.1 2) (fun _ h' e => ?_) (fun a _ h' ha e ih => ?_) 0 () k1 (by omega) ⟨f1.wd (fun x hx => by omega), fun q hq _ _ => z1 q hq, fun a b _ _ z => by omega⟩
    · obtain ⟨f, mu, tb⟩ := e
      have L' := L.fr f
      have T' := hT.fr f (fun x h1 h2 => by omega)
      refine wX0_playAllTwos_15 _ _ _ _ _ _ L' ?_
      rw [show hI h' 4 2 = nI (t.1 2) from T'.2.2.1 2 (by omega)]
      exact ⟨fun _ => hQ h' f tb, fun q => absurd (nI_le (Nat.le_refl _) (by omega)) q⟩
    · obtain ⟨f, mu, tb⟩ := e
      have L' := L.fr f
      have T' := hT.fr f (fun x h1 h2 => by omega)
      refine wX0_playAllTwos_15 _ _ _ _ _ _ L' ?_
      rw [show hI h' 4 2 = nI (t.1 2) from T'.2.2.1 2 (by omega)]
      refine ⟨fun q => absurd q (nI_ge ha (by omega)), fun _ => ⟨fun q => absurd q (nI_ge (a := a) (b := 5) (by omega) (by omega)), fun _ => ?_⟩⟩
      refine loopN (σ := Unit) (P := fun b _ h' => Sat g mX0_playAllTwos (d + 5) (0, 0) (qV Q) 33 [.ref 58, .ref 4, ov r2, .int (nI one), .int (nI other), .int (nI n), .ref 68, .int (nI a), .int (nI b), .double 0] [] h') (I := fun b _ h' => Fr (fun x => 40 ≤ x ∧ x < 126 ∧ ¬ x = 62) h h' ∧ (∀ q, q < 6 → ¬ q = one → ¬ q = other → hI h' 60 q = -2) ∧ tbl h' 66 67 a (t.1 2) (foA ρ t one other n) (foB ρ t one other n) ∧ ∀ b', b' < b → hI h' 66 (5 * a + b') = foA ρ t one other n a b' ∧ hI h' 67 (5 * a + b') = foB ρ t one other n a b') (t.1 2) (fun _ h' e => ?_) (fun b _ h' hb2 e ih2 => ?_) 0 () h' (by omega) ⟨f, mu, tb, fun b' z => by omega⟩
      · obtain ⟨f, mu, tb, tr⟩ := e
        have L' := L.fr f
        have T' := hT.fr f (fun x h1 h2 => by omega)
        refine wX0_playAllTwos_33 _ _ _ _ _ _ _ L' ?_
        rw [show hI h' 4 2 = nI (t.1 2) from T'.2.2.1 2 (by omega), nI_1]
        refine ⟨fun _ => ih () h' ⟨f, mu, fun a' b' ha' hb' hc => ?_⟩, fun q => absurd (nI_le (Nat.le_refl _) (by omega)) q⟩
        by_cases z : a' = a
        · subst z; exact tr b' hb'
        · exact tb a' b' ha' hb' (by omega)
      · obtain ⟨f, mu, tb, tr⟩ := e
        have L' := L.fr f
        have T' := hT.fr f (fun x h1 h2 => by omega)
        refine wX0_playAllTwos_33 _ _ _ _ _ _ _ L' ?_
        rw [show hI h' 4 2 = nI (t.1 2) from T'.2.2.1 2 (by omega), nI_clamp (n := one) (by omega), nI_clamp (n := other) (by omega)]
        refine ⟨fun q => absurd q (nI_ge hb2 (by omega)), fun _ => ⟨fun q => absurd q (nI_ge (a := b) (b := 5) (by omega) (by omega)), fun _ => ⟨vn (by omega) (by omega), vn (by omega) (by omega), Lk L' K_68, ?_⟩⟩⟩
        have f3 : Fr (fun x => x = 60) h' (setI (setI h' 60 one (nI a)) 60 other (nI b)) := (Fr.stI (by omega)).tr (Fr.stI (by omega))
        have v1 : hI (setI (setI h' 60 one (nI a)) 60 other (nI b)) 60 one = nI a := (rdn (by omega)).trans rdI
        have v2 : hI (setI (setI h' 60 one (nI a)) 60 other (nI b)) 60 other = nI b := rdI
        have v3 : ∀ q, ¬ q = one → ¬ q = other → hI (setI (setI h' 60 one (nI a)) 60 other (nI b)) 60 q = hI h' 60 q := fun q c1 c2 => by rw [rdn (by omega), rdn (by omega)]
        generalize setI (setI h' 60 one (nI a)) 60 other (nI b) = h3 at *
        have L3 := L'.fr f3
        have T3 := T'.fr f3 (fun x h1 h2 => by omega)
        refine c_copyFrom (Ltw_68 L3) T3 (by omega) (fun h4 o4 T4 => ⟨L3.fr o4.fr, ?_⟩)
        have f4 : Fr (fun x => 40 ≤ x ∧ x < 126 ∧ ¬ x = 62) h h4 := (f.tr (f3.wd (fun x hx => by omega))).tr (o4.fr.wd (fun x hx => by omega))
        have H4 : HdC h4 (hd2 one other a b) := fun q hq => by
          rw [(o4.fr.2.2 60 (by omega)).1]
          unfold hd2
          by_cases c2 : q = other
          · subst c2
            rw [v2, if_pos rfl]
            exact Or.inr ⟨fun z => absurd (nI_pos (n := b) (by omega)) (by rw [z]; decide), rfl⟩
          · rw [if_neg c2]
            by_cases c1 : q = one
            · subst c1
              rw [v1, if_pos rfl]
              exact Or.inr ⟨fun z => absurd (nI_pos (n := a) (by omega)) (by rw [z]; decide), rfl⟩
            · rw [if_neg c1]
              exact Or.inl ⟨(v3 q c1 c2).trans (mu q (by omega) c1 c2), rfl⟩
        have mu4 : ∀ q, q < 6 → ¬ q = one → ¬ q = other → hI h4 60 q = -2 := fun q hq c1 c2 => by
          rw [(o4.fr.2.2 60 (by omega)).1, v3 q c1 c2]; exact mu q hq c1 c2
        have e66 : ∀ x k, x = 66 ∨ x = 67 → hI h4 x k = hI h' x k := fun x k hx => by
          rw [(o4.fr.2.2 x (by omega)).1, (f3.2.2 x (by omega)).1]
        refine loopN (σ := Unit) (P := fun i _ h' => Sat g mX0_playAllTwos (d + 5) (0, 0) (qV Q) 74 [.ref 58, .ref 4, ov r2, .int (nI one), .int (nI other), .int (nI n), .ref 68, .int (nI a), .int (nI b), .int (nI i)] [] h') (I := fun i _ h' => Fr (fun x => (40 ≤ x ∧ x < 46) ∨ (68 ≤ x ∧ x < 77)) h4 h' ∧ TownIs h' 68 (itH ρ (hd2 one other a b) t i)) n (fun _ h5 e => ?_) (fun i _ h5 hi e ih3 => ?_) 0 () h4 (by omega) ⟨Fr.rf h4, T4⟩
        · obtain ⟨f5, T5⟩ := e
          have f45 := f4.tr (f5.wd (B := fun x => 40 ≤ x ∧ x < 126 ∧ ¬ x = 62) (fun x hx => by omega))
          have L5 := L.fr f45
          have e53 : (itH ρ (hd2 one other a b) t n).1 3 = t.1 3 := itH_k ρ _ t n (by decide)
          refine wX0_playAllTwos_74 _ _ _ _ _ _ _ _ L5 ⟨fun _ => ⟨Lk L5 K_68, c_far T5 (by rw [e53]; exact h1) ?_⟩, fun q => absurd (nI_le (Nat.le_refl _) (by omega)) q⟩
          rw [n5', nI_clamp (n := 5 * a + b) (by omega)]
          refine ⟨L5, vn (by omega) (by omega), ?_⟩
          have ea : farT (itH ρ (hd2 one other a b) t n) one = foA ρ t one other n a b := rfl
          have eb : farT (itH ρ (hd2 one other a b) t n) other = foB ρ t one other n a b := rfl
          rw [ea]
          have f6 : Fr (fun x => x = 66) h5 (setI h5 66 (5 * a + b) (foA ρ t one other n a b)) := Fr.stI rfl
          have L6 := L5.fr f6
          refine ⟨Lk L6 K_68, c_far (T5.fr f6 (fun x h1 h2 => by omega)) (by rw [e53]; exact h2) ?_⟩
          rw [eb, nI_1 b]
          have e5 : ∀ x k, x = 66 ∨ x = 67 → hI h5 x k = hI h' x k := fun x k hx => by rw [(f5.2.2 x (by omega)).1, e66 x k hx]
          have f7 : Fr (fun x => x = 66 ∨ x = 67) h5 (setI (setI h5 66 (5 * a + b) (foA ρ t one other n a b)) 67 (5 * a + b) (foB ρ t one other n a b)) := (Fr.stI (by omega)).tr (Fr.stI (by omega))
          refine ⟨L6, ih2 () _ ⟨f45.tr (f7.wd (fun x hx => by omega)), fun q hq c1 c2 => ?_, fun a' b' ha' hb' hc => ?_, fun b' hb' => ?_⟩⟩
          · rw [(f7.2.2 60 (by omega)).1, (f5.2.2 60 (by omega)).1]; exact mu4 q hq c1 c2
          · rw [rdn (by omega), rdn (by omega), rdn (by omega), rdn (by omega), e5 _ _ (by omega), e5 _ _ (by omega)]
            exact tb a' b' ha' hb' hc
          · by_cases z : b' = b
            · subst z
              exact ⟨(rdn (by omega)).trans rdI, rdI⟩
            · rw [rdn (by omega), rdn (by omega), rdn (by omega), rdn (by omega), e5 _ _ (by omega), e5 _ _ (by omega)]
              exact tr b' (by omega)
        · obtain ⟨f5, T5⟩ := e
          have f45 := f4.tr (f5.wd (B := fun x => 40 ≤ x ∧ x < 126 ∧ ¬ x = 62) (fun x hx => by omega))
          have L5 := L.fr f45
          refine wX0_playAllTwos_74 _ _ _ _ _ _ _ _ L5 ⟨fun q => absurd q (nI_ge hi (by omega)), fun _ => ?_⟩
          rw [nI_1]
          refine c_passH L5 T5 (itH_ok hT.2.1 R i (by omega)).2 (by omega) (hC.to (fun x k hx => by rw [(f45.2.2 x (by omega)).1])) (H4.to (fun i => by rw [(f5.2.2 60 (by omega)).1])) (by rw [itH_4]; omega) (fun h6 f6 T6 => ⟨L5.fr f6, ih3 () h6 ⟨f5.tr (f6.wd (fun x hx => by omega)), T6⟩⟩)⟩))
  cases r2 <;> exact key
theorem c_isRest {a b n : Nat} {A B : Nat → Nat → Int32} {Q : Int32 → HP → Prop} (L : Lay h) (hn : n ≤ 5) (ha : a < n) (hb : b < n) (tb : tbl h 66 67 n n A B) (hQ : Q (if rsK A B a b n = true then 1 else 0) h) : CallI g mX0_isRest d [.ref 58, .int (nI a), .int (nI b), .int (nI n)] h Q := by
  refine wX0_isRest_0 _ _ _ L ⟨fun q => absurd q (nI_pos (by omega)), fun _ => ⟨fun q => absurd q (nI_ge (a := a) (b := 5) (by omega) (by omega)), fun _ => ⟨fun q => absurd q (nI_pos (by omega)), fun _ => ⟨fun _ => ?_, fun q => absurd (nI_lt (a := b) (b := 5) (by omega) (by omega)) q⟩⟩⟩⟩
  rw [n5']
  refine loopN (σ := Unit) (P := fun k _ h' => Sat g mX0_isRest d (0, 0) (qI Q) 30 [.ref 58, .int (nI a), .int (nI b), .int (nI n), .int (nI (5 * a + b)), .int (nI k)] [] h') (I := fun k _ h' => h' = h ∧ rsK A B a b k = true) n (fun _ h' e => ?_) (fun k _ h' hk e ih => ?_) 0 () h (by omega) ⟨rfl, rfl⟩
  · obtain ⟨rfl, e⟩ := e
    rw [if_pos e] at hQ
    exact wX0_isRest_30 _ _ _ _ _ L ⟨fun _ => hQ, fun q => absurd (nI_le (Nat.le_refl _) (by omega)) q⟩
  · obtain ⟨rfl, e⟩ := e
    refine wX0_isRest_30 _ _ _ _ _ L ?_
    rw [n5', n5', nI_clamp (n := 5 * k + b) (by omega), nI_clamp (n := 5 * a + b) (by omega), nI_clamp (n := 5 * a + k) (by omega), (tb k b (by omega) hb hk).1, (tb a b (by omega) hb ha).1, (tb a b (by omega) hb ha).2, (tb a k (by omega) hk ha).2, nI_1]
    refine ⟨fun q => absurd q (nI_ge hk (by omega)), fun _ => ⟨fun q => absurd q (nI_ge (a := k) (b := 5) (by omega) (by omega)), fun _ => ⟨vn (by omega) (by omega), vn (by omega) (by omega), fun q => ?_, fun q => ⟨vn (by omega) (by omega), fun q2 => ih () h' ⟨rfl, ?_⟩, fun q2 => ?_⟩⟩⟩⟩
    · rw [rsK_f hk (Or.inl q)] at hQ; exact hQ
    · rw [rsK, e]
      simp [Int32.not_lt.mp q, q2]
    · rw [rsK_f hk (Or.inr (Int32.not_le.mp q2))] at hQ; exact hQ
def T3Is (h : HP) (p : Tp) : Prop := hI h 62 0 = nI p.1 ∧ hI h 62 1 = p.2.1 ∧ hI h 62 2 = p.2.2
theorem c_findRests {one other n : Nat} {Q : HP → Prop} (L : Lay h) (hT : TownIs h 4 t) (R : TR t) (hC : CRho h r2 ρ) (hb : t.1 4 ≤ 2000) (h1 : one < t.1 3) (h2 : other < t.1 3) (hne : ¬ one = other) (hn : n ≤ 20) (hQ : ∀ h', RC h h' → T3Is h' (reT ρ t one other n) → Q h') : CallV g mX0_findRests (d + 6) (0, 0) [.ref 58, .ref 4, ov r2, .int (nI one), .int (nI other), .int (nI n)] h Q := by
  have hB := hT.2.1
  unfold TB at hB
  have key := wX0_findRests_0 (g := g) (d := d + 5) (b := (0, 0)) (Q := qV Q) r2 (nI one) (nI other) (nI n) L (by
    have f0 : Fr (fun x => x = 62) h (setI (setI (setI h 62 0 0) 62 1 (-2)) 62 2 (-2)) := ((Fr.stI (by omega)).tr (Fr.stI (by omega))).tr (Fr.stI (by omega))
    have t0 : T3Is (setI (setI (setI h 62 0 0) 62 1 (-2)) 62 2 (-2)) (0, -2, -2) := ⟨rfl, rfl, rfl⟩
    generalize setI (setI (setI h 62 0 0) 62 1 (-2)) 62 2 (-2) = k0 at *
    have L0 := L.fr f0
    have T0 := hT.fr f0 (fun x h1 h2 => by omega)
    refine c_hasLodger T0 (fun _ _ _ => ⟨L0, fun q => absurd q (by decide), fun _ => c_hasLodger T0 (fun _ _ _ => ⟨L0, fun q => absurd q (by decide), fun _ => c_playAllTwos L0 T0 R (hC.to (fun x k hx => by rw [(f0.2.2 x (by omega)).1])) hb h1 h2 hne hn (fun k1 f1 tb => ⟨L0.fr f1, ?_⟩)⟩) (fun z => absurd rfl (z other h2))⟩) (fun z => absurd rfl (z one h1))
    have L1 := L0.fr f1
    have f01 : RC h k1 := (f0.wd (fun x hx => by omega)).tr (f1.wd (fun x hx => by omega))
    have t1 : T3Is k1 (0, -2, -2) := by
      unfold T3Is
      rw [(f1.2.2 62 (by omega)).1]
      exact t0
    unfold reT at hQ
    generalize foA ρ t one other n = A at *
    generalize foB ρ t one other n = B at *
    refine loopN (σ := Unit) (P := fun a _ h' => Sat g mX0_findRests (d + 6) (0, 0) (qV Q) 55 [.ref 58, .ref 4, .double 0, .double 0, .double 0, .double 0, .int (nI a), .double 0] [] h') (I := fun a _ h' => Fr (fun x => x = 62) k1 h' ∧ T3Is h' (reO A B (t.1 2) a)) (t.1 2) (fun _ h' e => ?_) (fun a _ h' ha e ih => ?_) 0 () k1 (by omega) ⟨Fr.rf k1, t1⟩
    · obtain ⟨f, p⟩ := e
      have f' : RC h h' := f01.tr (f.wd (fun x hx => by omega))
      have T' := hT.fr f' (fun x h1 h2 => by omega)
      refine wX0_findRests_55 _ (L.fr f') ?_
      rw [show hI h' 4 2 = nI (t.1 2) from T'.2.2.1 2 (by omega)]
      exact ⟨fun _ => hQ h' f' p, fun q => absurd (nI_le (Nat.le_refl _) (by omega)) q⟩
    · obtain ⟨f, p⟩ := e
      have f' : RC h h' := f01.tr (f.wd (fun x hx => by omega))
      have T' := hT.fr f' (fun x h1 h2 => by omega)
      refine wX0_findRests_55 _ (L.fr f') ?_
      rw [show hI h' 4 2 = nI (t.1 2) from T'.2.2.1 2 (by omega)]
      refine ⟨fun q => absurd q (nI_ge ha (by omega)), fun _ => ?_⟩
      have hp0 := reO_le A B (t.1 2) (by omega) a
      refine loopN (σ := Unit) (P := fun b _ h' => Sat g mX0_findRests (d + 6) (0, 0) (qV Q) 67 [.ref 58, .ref 4, .double 0, .double 0, .double 0, .double 0, .int (nI a), .int (nI b)] [] h') (I := fun b _ h' => Fr (fun x => x = 62) k1 h' ∧ T3Is h' (reI A B (t.1 2) a (reO A B (t.1 2) a) b)) (t.1 2) (fun _ h' e => ?_) (fun b _ h' hb2 e ih2 => ?_) 0 () h' (by omega) ⟨f, p⟩
      · obtain ⟨f, p⟩ := e
        have f' : RC h h' := f01.tr (f.wd (fun x hx => by omega))
        have T' := hT.fr f' (fun x h1 h2 => by omega)
        refine wX0_findRests_67 _ _ (L.fr f') ?_
        rw [show hI h' 4 2 = nI (t.1 2) from T'.2.2.1 2 (by omega), nI_1 a]
        exact ⟨fun _ => ih () h' ⟨f, p⟩, fun q => absurd (nI_le (Nat.le_refl _) (by omega)) q⟩
      · obtain ⟨f, p⟩ := e
        have f' : RC h h' := f01.tr (f.wd (fun x hx => by omega))
        have L' := L.fr f'
        have T' := hT.fr f' (fun x h1 h2 => by omega)
        have hp := reI_le A B (t.1 2) a (reO A B (t.1 2) a) b
        have nx := ih2 ()
        rw [reI] at nx
        generalize reI A B (t.1 2) a (reO A B (t.1 2) a) b = p0 at *
        obtain ⟨p1, p2, p3⟩ := p
        refine wX0_findRests_67 _ _ L' ?_
        rw [show hI h' 4 2 = nI (t.1 2) from T'.2.2.1 2 (by omega), nI_1 b]
        refine ⟨fun q => absurd q (nI_ge hb2 (by omega)), fun _ => c_isRest (A := A) (B := B) L' (by omega) ha hb2 (fun a b ha hb hc => by rw [(f.2.2 66 (by omega)).1, (f.2.2 67 (by omega)).1]; exact tb a b ha hb hc) ?_⟩
        rw [p1, nI_1 p0.1]
        by_cases cr : rsK A B a b (t.1 2) = true
        · rw [if_pos cr] at nx ⊢
          refine ⟨L', fun q => absurd q (by decide), fun _ => ⟨fun z => ?_, fun z => ?_⟩⟩
          · have z1 : p0.1 = 0 := (nI_eq (by omega) (by omega)).mp z
            rw [if_pos z1, if_pos z1] at nx
            exact nx _ ⟨f.tr (((Fr.stI (by omega)).tr (Fr.stI (by omega))).tr (Fr.stI (by omega))), rdI, (rdn (by omega)).trans ((rdn (by omega)).trans rdI), (rdn (by omega)).trans rdI⟩
          · have z1 : ¬ p0.1 = 0 := fun y => z (by rw [y]; rfl)
            rw [if_neg z1, if_neg z1] at nx
            exact nx _ ⟨f.tr (Fr.stI rfl), rdI, (rdn (by omega)).trans p2, (rdn (by omega)).trans p3⟩
        · rw [if_neg cr] at nx ⊢
          exact ⟨L', fun _ => nx h' ⟨f, p1, p2, p3⟩, fun q => absurd rfl q⟩)
  cases r2 <;> exact key
theorem c_rests {one other n w : Int32} {Q : Int32 → HP → Prop} (C : CZ h ρ t) (hb : t.1 4 ≤ 2000) (hQ : ∀ h', RC h h' → Q (aRests ρ t one other n w) h') : CallI g mX9_rests (d + 7) [.ref 0, .int one, .int other, .int n, .int w] h Q := by
  obtain ⟨L, hT, R, F⟩ := C
  have hB := hT.2.1
  unfold TB at hB
  have no : ¬ (IX one (t.1 3) ∧ IX other (t.1 3) ∧ ¬ one = other ∧ IN n 1 20 ∧ IN w 0 2) → Q (-1) h := fun c => by
    have := hQ h RC.rf
    unfold aRests at this
    rwa [if_neg c] at this
  refine wX9_rests_0 _ _ _ _ L ⟨fun q => no (fun y => IN_lt (b := 20) (by decide) q y.2.2.2.1), fun q1 => ⟨fun q => no (fun y => IN_gt (a := 1) (by decide) q y.2.2.2.1), fun q2 => ⟨fun q => no (fun y => IN_lt (b := 2) (by decide) q y.2.2.2.2), fun q3 => ⟨fun q => no (fun y => IN_gt (a := 0) (by decide) q y.2.2.2.2), fun q4 => ⟨fun q => no (fun y => y.2.2.1 q), fun cne => c_hasLodger hT (fun i hi ei => ⟨L, fun q => absurd q (by decide), fun _ => c_hasLodger hT (fun j hj ej => ⟨L, fun q => absurd q (by decide), fun _ => ?_⟩) (fun z => ⟨L, fun _ => no (fun y => IX_no z y.2.1), fun q => absurd rfl q⟩)⟩) (fun z => ⟨L, fun _ => no (fun y => IX_no z y.1), fun q => absurd rfl q⟩)⟩⟩⟩⟩⟩
  obtain ⟨k, k1, k2, rfl⟩ := rg_of (a := 1) (b := 20) rfl rfl (by decide) (by decide) q1 q2
  obtain ⟨v, v1, v2, rfl⟩ := rg_of (a := 0) (b := 2) rfl rfl (by decide) (by decide) q3 q4
  subst ei ej
  have hne : ¬ i = j := fun e => cne (by rw [e])
  have body : ∀ r2, CRho h r2 ρ → CallV g mX0_findRests (d + 6) (0, 0) [.ref 58, .ref 4, ov r2, .int (nI i), .int (nI j), .int (nI k)] h (fun h1 => Lay h1 ∧ CallI g mX0_told (d + 6) [.ref 58, .int (nI v)] h1 (fun i h2 => Lay h2 ∧ qI Q (some (.int i)) h2)) := fun r2 hr => c_findRests L hT R hr hb hi hj hne k2 (fun h1 f1 e => ⟨L.fr f1, told7 (L.fr f1) (by omega) ⟨L.fr f1, by
    have yes := hQ h1 f1
    unfold aRests at yes
    rw [if_pos ⟨IX_j hi (by omega), IX_j hj (by omega), cne, IN_j k1 k2 (by decide), IN_j v1 v2 (by decide)⟩, nI_clamp (n := i) (by omega), nI_clamp (n := j) (by omega), nI_clamp (n := k) (by omega)] at yes
    rcases (show v = 0 ∨ v = 1 ∨ v = 2 by omega) with rfl | rfl | rfl
    · rw [e.1]; exact yes
    · rw [e.2.1]; exact yes
    · rw [e.2.2]; exact yes⟩⟩)
  exact c_ruleInForce L F (fun hr => ⟨L, body none hr⟩) (fun y hr => ⟨L, body (some y) hr⟩)
end RE2
