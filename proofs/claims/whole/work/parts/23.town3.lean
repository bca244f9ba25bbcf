/-! a Town's methods: the BED behind a NIGHT, turned, carded -/
def sumB (f : Nat → Bool) (s : Nat → Int32) : Nat → Int32
  | 0 => 0
  | n + 1 => if f n = true then sumB f s n + s n else sumB f s n
def cntB (f : Nat → Bool) : Nat → Nat
  | 0 => 0
  | n + 1 => if f n = true then cntB f n + 1 else cntB f n
theorem cntB_le (f : Nat → Bool) : ∀ n, cntB f n ≤ n
  | 0 => Nat.le_refl 0
  | n + 1 => by
    have := cntB_le f n
    unfold cntB
    split <;> omega
/-- HOLLOW of BED j behind (2), if those of f lie on it -/
def hoB (t : Tw) (j : Nat) (f : Nat → Bool) : Int32 := if cntB f (t.1 3) = 0 then t.2 1 j else t.2 1 j + (sumB f (t.2 4) (t.1 3) / nI (cntB f (t.1 3)) - t.2 1 j) / t.2 3 j
section TOWN
variable {g : GT} {d : Nat} {a : Nat} {h : HP} {t : Tw}
theorem l_hollowBehind {b : Nat × Nat} {j : Nat} {m : Int32} {f : Nat → Bool} {Q : Option Value → HP → Prop} (hT : TownIs h a t) (hj : j < t.1 2) (hst : ¬ t.2 3 j ≤ 0) (hst0 : ¬ t.2 3 j = 0) (hf : ∀ i, i < t.1 3 → (((m >>> (nI i &&& 31)) &&& 1) = 1 ↔ f i = true)) (hs : 0 ≤ sumB f (t.2 4) (t.1 3)) (hQ : Q (some (.int (hoB t j f))) h) : ∀ k i, i + k = t.1 3 → Sat g mX8_hollowBehind (d + 1) b Q 18 [.ref a, .int (nI j), .int m, .int (sumB f (t.2 4) i), .int (nI (cntB f i)), .int (nI i), .double 0] [] h := by
  have hb : t.1 3 ≤ 6 := hT.2.1.2.2.2.1
  have hb2 : t.1 2 ≤ 5 := hT.2.1.2.2.1
  have e3 := hT.2.2.1 3 (by omega)
  obtain ⟨k0, ⟨r5, r6, r7, r8, r9, r10, r11, r12⟩, ⟨k1, k2, k3, k4, k5, k6, k7, k8⟩, n1, n2, n3, n4, n5, n6, n7, n8⟩ := hT.1
  intro k
  induction k with
  | zero =>
    intro i hi
    have : i = t.1 3 := by omega
    subst this
    have hcl := cntB_le f (t.1 3)
    refine vX8_hollowBehind_18 a (nI j) m _ _ (nI (t.1 3)) h ⟨k0, fun _ => ⟨k0, _, r5, k1, vin (by omega) n1 (by omega), k0, _, r7, k3, vin (by omega) n3 (by omega), ?_⟩, fun q => absurd (by rw [e3]; exact nI_le (by omega) (by omega)) q⟩
    rw [nI_clamp (by omega), hT.bed 1 (by omega) (by omega) hj, hT.bed 3 (by omega) (by omega) hj]
    unfold hoB at hQ
    refine ⟨fun q => ?_, fun q => ⟨fun q2 => absurd q2 hst, fun _ => ?_⟩⟩
    · have h0 : cntB f (t.1 3) = 0 := by
        rcases Nat.eq_zero_or_pos (cntB f (t.1 3)) with c | c
        · exact c
        · exact absurd q (nI_nle c (by omega))
      rw [if_pos h0] at hQ
      exact hQ
    · have h0 : ¬ cntB f (t.1 3) = 0 := fun c => q (by rw [c]; decide)
      rw [if_neg h0] at hQ
      exact c_floorDiv hs (nI_pos' (by omega)) (nI_ne0 (by omega) (by omega)) ⟨hst0, hQ⟩
  | succ k ih =>
    intro i hi
    have key := ih (i + 1) (by omega)
    unfold sumB cntB at key
    refine vX8_hollowBehind_18 a (nI j) m _ _ (nI i) h ⟨k0, fun q => absurd (by rw [e3] at q; exact q) (nI_ge (a := i) (b := t.1 3) (by omega) (by omega)), fun _ => ⟨fun q => absurd q (nI_ge (a := i) (b := 6) (by omega) (by omega)), fun _ => ⟨fun q => ⟨k0, _, r8, k4, vin (by omega) n4 (by omega), ?_⟩, fun q => ?_⟩⟩⟩
    · have hfi := (hf i (by omega)).mp q
      rw [if_pos hfi, if_pos hfi] at key
      rw [nI_1, nI_1, nI_clamp (by omega), hT.lod 4 (by omega) (by omega) (show i < t.1 3 by omega)]
      exact key
    · have hfi : ¬ f i = true := fun c => q ((hf i (by omega)).mpr c)
      rw [if_neg hfi, if_neg hfi] at key
      rw [nI_1]
      exact key
theorem c_hollowBehind {j : Nat} {m : Int32} {f : Nat → Bool} {Q : Int32 → HP → Prop} (hT : TownIs h a t) (hj : j < t.1 2) (hst : ¬ t.2 3 j ≤ 0) (hst0 : ¬ t.2 3 j = 0) (hf : ∀ i, i < t.1 3 → (((m >>> (nI i &&& 31)) &&& 1) = 1 ↔ f i = true)) (hs : 0 ≤ sumB f (t.2 4) (t.1 3)) (hQ : Q (hoB t j f) h) : CallI g mX8_hollowBehind (d + 1) [.ref a, .int (nI j), .int m] h Q := by
  refine vX8_hollowBehind_0 a (nI j) m h ⟨hT.1.1, c_hasBed hT (fun _ _ _ => ⟨fun q => absurd q (by decide), fun _ => ?_⟩) (fun q => absurd rfl (q j hj))⟩
  exact l_hollowBehind (Q := fun r h' => match r with
    | some (.int x) => Q x h'
    | _ => False) hT hj hst hst0 hf hs hQ (t.1 3) 0 (by omega)
def swapT (t : Tw) (j : Nat) : Tw := setT (setT t 1 j (t.2 2 j)) 2 j (t.2 1 j)
theorem c_swapSides {j : Nat} {Q : HP → Prop} (hT : TownIs h a t) (hj : j < t.1 2) (hQ : ∀ h', Off h h' a 9 → TownIs h' a (swapT t j) → Q h') : CallV g mX8_swapSides (d + 1) (0, 0) [.ref a, .int (nI j)] h Q := by
  have hb2 : t.1 2 ≤ 5 := hT.2.1.2.2.1
  obtain ⟨k0, ⟨r5, r6, r7, r8, r9, r10, r11, r12⟩, ⟨k1, k2, k3, k4, k5, k6, k7, k8⟩, n1, n2, n3, n4, n5, n6, n7, n8⟩ := hT.1
  refine vX8_swapSides_0 a (nI j) h ⟨k0, c_hasBed hT (fun _ _ _ => ⟨fun q => absurd q (by decide), fun _ => ?_⟩) (fun q => absurd rfl (q j hj))⟩
  have vi : ∀ {x : Nat}, hN h x = 5 → vp_in (nI j) (hN h x) := fun e => vin (by omega) e (by omega)
  refine ⟨k0, _, r5, k1, vi n1, k0, _, r5, k0, _, r6, k2, vi n2, k1, vi n1, k0, _, r6, k2, vi n2, fun h7 e7 => ?_⟩
  subst e7
  rw [nI_clamp (by omega), hT.bed 1 (by omega) (by omega) hj, hT.bed 2 (by omega) (by omega) hj]
  exact hQ _ ((Off.st (by omega) (by omega)).tr (Off.st (by omega) (by omega))) ((hT.set 1 j (t.2 2 j) (by omega) (by omega)).set 2 j (t.2 1 j) (by omega) (by omega))
theorem c_swapNone {x : Int32} {Q : HP → Prop} (hT : TownIs h a t) (hx : ∀ j, j < t.1 2 → ¬ x = nI j) (hQ : Q h) : CallV g mX8_swapSides (d + 1) (0, 0) [.ref a, .int x] h Q :=
  vX8_swapSides_0 a x h ⟨hT.1.1, c_hasBed hT (fun j hj e => absurd e (hx j hj)) (fun _ => ⟨fun _ => hQ, fun q => absurd rfl q⟩)⟩
/-- the first n BEDS carded -/
def cardI (t : Tw) (n : Nat) : Tw := (t.1, fun r j => if (r = 1 ∨ r = 2) ∧ j < n then (t.2 r j + 50) / 2 else t.2 r j)
def dueT (t : Tw) : Prop := 1 ≤ t.1 0 ∧ t.1 4 % t.1 0 = t.1 0 - 1
theorem l_card {b : Nat × Nat} {Q : Option Value → HP → Prop} (hT : TownIs h a t) (hr : ∀ r j, (r = 1 ∨ r = 2) → j < t.1 2 → 0 ≤ t.2 r j + 50) (hQ : ∀ h', Off h h' a 9 → TownIs h' a (cardI t (t.1 2)) → Q none h') : ∀ k i h', i + k = t.1 2 → Off h h' a 9 → TownIs h' a (cardI t i) → Sat g mX8_cardAllIfDue (d + 1) b Q 29 [.ref a, .int (nI i)] [] h' := by
  have hb2 : t.1 2 ≤ 5 := hT.2.1.2.2.1
  intro k
  induction k with
  | zero =>
    intro i h' hi ho hT'
    have e2 := hT'.2.2.1 2 (by omega)
    have : i = t.1 2 := by omega
    subst this
    exact vX8_cardAllIfDue_29 a _ h' ⟨hT'.1.1, fun _ => hQ h' ho hT', fun q => absurd (by rw [e2]; exact nI_le (Nat.le_refl _) (by show t.1 2 < _; omega)) q⟩
  | succ k ih =>
    intro i h' hi ho hT'
    have e2 := hT'.2.2.1 2 (by omega)
    obtain ⟨k0, ⟨r5, r6, r7, r8, r9, r10, r11, r12⟩, ⟨k1, k2, k3, k4, k5, k6, k7, k8⟩, n1, n2, n3, n4, n5, n6, n7, n8⟩ := hT'.1
    have b1 : hI h' (a + 1) i = t.2 1 i := by
      rw [hT'.bed 1 (by omega) (by omega) (show i < t.1 2 by omega)]
      simp [cardI]
    have b2 : hI h' (a + 2) i = t.2 2 i := by
      rw [hT'.bed 2 (by omega) (by omega) (show i < t.1 2 by omega)]
      simp [cardI]
    have key := vX8_cardAllIfDue_29 (g := g) (d := d) (b := b) (Q := Q) a (nI i) h'
    rw [nI_clamp (by omega), nI_1, e2] at key
    have vi : ∀ {x : Nat}, hN h' x = 5 → vp_in (nI i) (hN h' x) := fun e => vin (by omega) e (by omega)
    refine key ⟨k0, fun q => absurd q (nI_ge (a := i) (b := t.1 2) (by omega) (by omega)), fun _ => ⟨fun q => absurd q (nI_ge (a := i) (b := 5) (by omega) (by omega)), fun _ => ⟨k0, _, r5, k0, _, r5, k1, vi n1, ?_⟩⟩⟩
    rw [b1]
    refine c_floorDiv (hr 1 i (Or.inl rfl) (by omega)) (by decide) (by decide) ⟨k1, vi n1, k0, _, r6, k0, _, r6, k2, vi n2, ?_⟩
    have b2' : hI (setI h' (a + 1) i ((t.2 1 i + 50) / 2)) (a + 2) i = t.2 2 i := by
      show up2 _ _ _ _ _ _ = _
      rw [up2_ne _ _ (by omega)]
      exact b2
    rw [b2']
    refine c_floorDiv (hr 2 i (Or.inr rfl) (by omega)) (by decide) (by decide) ⟨k2, vi n2, ?_⟩
    refine ih (i + 1) _ (by omega) (ho.tr ((Off.st (by omega) (by omega)).tr (Off.st (by omega) (by omega)))) ?_
    refine ((hT'.set 1 i ((t.2 1 i + 50) / 2) (by omega) (by omega)).set 2 i ((t.2 2 i + 50) / 2) (by omega) (by omega)).congr (fun _ _ => rfl) (fun r j hrj => ?_)
    show (if (r = 1 ∨ r = 2) ∧ j < i + 1 then _ else _) = up2 (up2 (cardI t i).2 1 i _) 2 i _ r j
    unfold up2 cardI
    by_cases c1 : r = 1
    · subst c1
      by_cases c2 : j = i
      · subst c2; simp
      · by_cases c3 : j < i
        · simp [c2, c3, Nat.lt_succ_of_lt c3]
        · have : ¬ j < i + 1 := by omega
          simp [c2, c3, this]
    · by_cases c4 : r = 2
      · subst c4
        by_cases c2 : j = i
        · subst c2; simp
        · by_cases c3 : j < i
          · simp [c2, c3, Nat.lt_succ_of_lt c3]
          · have : ¬ j < i + 1 := by omega
            simp [c2, c3, this]
      · simp [c1, c4]
theorem c_cardAllIfDue {Q : HP → Prop} (hT : TownIs h a t) (hr : ∀ r j, (r = 1 ∨ r = 2) → j < t.1 2 → 0 ≤ t.2 r j + 50) (hy : dueT t → ∀ h', Off h h' a 9 → TownIs h' a (cardI t (t.1 2)) → Q h') (hn : ¬ dueT t → Q h) : CallV g mX8_cardAllIfDue (d + 1) (0, 0) [.ref a] h Q := by
  have hB := hT.2.1
  unfold TB at hB
  have e0 := hT.2.2.1 0 (by omega)
  have e4 := hT.2.2.1 4 (by omega)
  refine vX8_cardAllIfDue_0 a h ⟨hT.1.1, ?_⟩
  rw [e0, e4]
  by_cases c : t.1 0 = 0
  · refine ⟨fun _ => hn (fun q => by unfold dueT at q; omega), fun q => absurd ?_ q⟩
    rw [c]
    decide
  · have cc : ¬ nI (t.1 0) < 1 := nI_nlt (a := t.1 0) (b := 1) (by omega) (by omega)
    refine ⟨fun q => absurd q cc, fun _ => ⟨hT.1.1, hT.1.1, nI_ne0 (by omega) (by omega), hT.1.1, ?_⟩⟩
    obtain ⟨p, hp⟩ : ∃ p, t.1 0 = p + 1 := ⟨t.1 0 - 1, by omega⟩
    rw [pk_rem (by omega) (by omega) (by omega), hp, nI_pred, nI_eq (by have := Nat.mod_lt (t.1 4) (show 0 < p + 1 by omega); omega) (by omega)]
    refine ⟨fun q => ?_, fun q => hn (fun w => q ?_)⟩
    · refine l_card (Q := fun r h' => match r with
        | none => Q h'
        | _ => False) hT hr (hy ⟨by omega, by rw [hp]; omega⟩) (t.1 2) 0 h (by omega) (Off.rf _ _ _) (hT.congr (fun _ _ => rfl) (fun r j _ => by simp [cardI]))
    · have := w.2
      rw [hp] at this
      omega
end TOWN
