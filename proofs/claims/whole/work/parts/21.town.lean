/-! a Town in the heap, and what its methods do -/
def Off (h h' : HP) (a n : Nat) : Prop := h'.1 = h.1 ∧ h'.2.2 = h.2.2 ∧ ∀ x, (x < a ∨ a + n ≤ x) → hI h' x = hI h x
theorem Off.rf (h : HP) (a n : Nat) : Off h h a n := ⟨rfl, rfl, fun _ _ => rfl⟩
theorem Off.tr {h h1 h2 : HP} {a n : Nat} (p : Off h h1 a n) (q : Off h1 h2 a n) : Off h h2 a n := ⟨q.1.trans p.1, q.2.1.trans p.2.1, fun x hx => (q.2.2 x hx).trans (p.2.2 x hx)⟩
theorem Off.st {h : HP} {a n x k : Nat} {v : Int32} (h1 : a ≤ x) (h2 : x < a + n) : Off h (setI h x k v) a n := ⟨rfl, rfl, fun y hy => up2_row _ _ (by omega)⟩
theorem Off.wd {h h' : HP} {a n b m : Nat} (p : Off h h' a n) (h1 : b ≤ a) (h2 : a + n ≤ b + m) : Off h h' b m := ⟨p.1, p.2.1, fun x hx => p.2.2 x (by omega)⟩
theorem Off.K {h h' : HP} {a n : Nat} (p : Off h h' a n) : hK h' = hK h := by show h'.1.2.1 = h.1.2.1; rw [p.1]
theorem Off.N {h h' : HP} {a n : Nat} (p : Off h h' a n) : hN h' = hN h := by show h'.1.2.2 = h.1.2.2; rw [p.1]
theorem Off.R {h h' : HP} {a n : Nat} (p : Off h h' a n) : hR h' = hR h := by show h'.2.2.2 = h.2.2.2; rw [p.2.1]
theorem Off.J {h h' : HP} {a n : Nat} (p : Off h h' a n) : hJ h' = hJ h := by show h'.2.2.1 = h.2.2.1; rw [p.2.1]
/-- the cells of a Town at a, and its rows -/
def TwS (h : HP) (a : Nat) : Prop := hK h a = 9 ∧ (hR h a 5 = some (a + 1) ∧ hR h a 6 = some (a + 2) ∧ hR h a 7 = some (a + 3) ∧ hR h a 8 = some (a + 4) ∧ hR h a 9 = some (a + 5) ∧ hR h a 10 = some (a + 6) ∧ hR h a 11 = some (a + 7) ∧ hR h a 12 = some (a + 8)) ∧ (hK h (a + 1) = 21 ∧ hK h (a + 2) = 21 ∧ hK h (a + 3) = 21 ∧ hK h (a + 4) = 21 ∧ hK h (a + 5) = 21 ∧ hK h (a + 6) = 21 ∧ hK h (a + 7) = 21 ∧ hK h (a + 8) = 21) ∧ (hN h (a + 1) = 5 ∧ hN h (a + 2) = 5 ∧ hN h (a + 3) = 5 ∧ hN h (a + 4) = 6 ∧ hN h (a + 5) = 6 ∧ hN h (a + 6) = 6 ∧ hN h (a + 7) = 6 ∧ hN h (a + 8) = 6)
theorem TwS.to {h h' : HP} {a : Nat} (hT : TwS h a) (hk : hK h' = hK h) (hn : hN h' = hN h) (hr : hR h' = hR h) : TwS h' a := by
  unfold TwS at hT ⊢
  rw [hk, hn, hr]
  exact hT
/-- scalars: 0 CARD, 1 ROOM, 2 BEDS, 3 LODGERS, 4 NIGHT; rows: 1 HOLLOW, 2 UNDER, 3 STUFF, 4 SHAPE, 5 BODY, 6 WANTS, 7 last, 8 slept -/
abbrev Tw : Type := (Nat → Nat) × (Nat → Nat → Int32)
def TB (t : Tw) : Prop := t.1 0 ≤ 60 ∧ t.1 1 ≤ 6 ∧ t.1 2 ≤ 5 ∧ t.1 3 ≤ 6 ∧ t.1 4 ≤ 5000
def rowOK (t : Tw) (r j : Nat) : Prop := (1 ≤ r ∧ r ≤ 3 ∧ j < t.1 2) ∨ (4 ≤ r ∧ r ≤ 8 ∧ j < t.1 3)
def TownIs (h : HP) (a : Nat) (t : Tw) : Prop := TwS h a ∧ TB t ∧ (∀ k, k < 5 → hI h a k = nI (t.1 k)) ∧ ∀ r j, rowOK t r j → hI h (a + r) j = t.2 r j
theorem TownIs.off {h h' : HP} {a n b : Nat} {t : Tw} (hT : TownIs h b t) (p : Off h h' a n) (hd : b + 9 ≤ a ∨ a + n ≤ b) : TownIs h' b t := by
  refine ⟨hT.1.to p.K p.N p.R, hT.2.1, fun k hk => ?_, fun r j hr => ?_⟩
  · rw [p.2.2 b (by omega)]; exact hT.2.2.1 k hk
  · rw [p.2.2 (b + r) (by unfold rowOK at hr; omega)]; exact hT.2.2.2 r j hr
theorem TownIs.bed {h : HP} {a : Nat} {t : Tw} (hT : TownIs h a t) (r : Nat) {j : Nat} (h1 : 1 ≤ r) (h2 : r ≤ 3) (hj : j < t.1 2) : hI h (a + r) j = t.2 r j := hT.2.2.2 r j (Or.inl ⟨h1, h2, hj⟩)
theorem TownIs.lod {h : HP} {a : Nat} {t : Tw} (hT : TownIs h a t) (r : Nat) {j : Nat} (h1 : 4 ≤ r) (h2 : r ≤ 8) (hj : j < t.1 3) : hI h (a + r) j = t.2 r j := hT.2.2.2 r j (Or.inr ⟨h1, h2, hj⟩)
def sumI (f : Nat → Int32) : Nat → Int32
  | 0 => 0
  | n + 1 => sumI f n + f n
section TOWN
variable {g : GT} {d : Nat} {a : Nat} {h : HP} {t : Tw}
theorem no_idx {x : Int32} {n : Nat} (hn : n < 2 ^ 31) (c : x < 0 ∨ nI n ≤ x) : ∀ j, j < n → ¬ x = nI j := by
  intro j hj e
  subst e
  rcases c with c | c
  · exact nI_pos (by omega) c
  · exact nI_ge hj hn c
theorem c_stands {Q : Int32 → HP → Prop} (hT : TownIs h a t) (hQ : Q (if t.1 0 = 0 then 0 else 1) h) : CallI g mX8_stands d [.ref a] h Q := by
  have e0 := hT.2.2.1 0 (by omega)
  have hb := hT.2.1
  refine vX8_stands_0 a h ⟨hT.1.1, ?_⟩
  rw [e0]
  by_cases c : t.1 0 = 0
  · rw [if_pos c] at hQ
    rw [c]
    exact ⟨fun _ => ⟨rfl, hQ⟩, fun q => absurd (show nI 0 ≤ 0 from by decide) q⟩
  · rw [if_neg c] at hQ
    exact ⟨fun q => absurd q (nI_nle (by omega) (by unfold TB at hb; omega)), fun _ => ⟨rfl, hQ⟩⟩
theorem c_hasBed {x : Int32} {Q : Int32 → HP → Prop} (hT : TownIs h a t) (hy : ∀ j, j < t.1 2 → x = nI j → Q 1 h) (hn : (∀ j, j < t.1 2 → ¬ x = nI j) → Q 0 h) : CallI g mX8_hasBed d [.ref a, .int x] h Q := by
  have e0 := hT.2.2.1 2 (by omega)
  have hb : t.1 2 ≤ 5 := hT.2.1.2.2.1
  refine vX8_hasBed_0 a x h ?_
  rw [e0]
  rcases pk_ix x (n := t.1 2) (by omega) with c | c | ⟨j, hj, rfl⟩
  · exact ⟨fun _ => ⟨rfl, hn (no_idx (by omega) (Or.inl c))⟩, fun q => absurd c q⟩
  · exact ⟨fun _ => ⟨rfl, hn (no_idx (by omega) (Or.inr c))⟩, fun _ => ⟨hT.1.1, fun _ => ⟨rfl, hn (no_idx (by omega) (Or.inr c))⟩, fun q => absurd c q⟩⟩
  · exact ⟨fun q => absurd q (nI_pos (by omega)), fun _ => ⟨hT.1.1, fun q => absurd q (nI_ge hj (by omega)), fun _ => ⟨fun q => absurd q (nI_ge (a := j) (b := 5) (by omega) (by omega)), fun _ => ⟨rfl, hy j hj rfl⟩⟩⟩⟩
theorem c_hasLodger {x : Int32} {Q : Int32 → HP → Prop} (hT : TownIs h a t) (hy : ∀ j, j < t.1 3 → x = nI j → Q 1 h) (hn : (∀ j, j < t.1 3 → ¬ x = nI j) → Q 0 h) : CallI g mX8_hasLodger d [.ref a, .int x] h Q := by
  have e0 := hT.2.2.1 3 (by omega)
  have hb : t.1 3 ≤ 6 := hT.2.1.2.2.2.1
  refine vX8_hasLodger_0 a x h ?_
  rw [e0]
  rcases pk_ix x (n := t.1 3) (by omega) with c | c | ⟨j, hj, rfl⟩
  · exact ⟨fun _ => ⟨rfl, hn (no_idx (by omega) (Or.inl c))⟩, fun q => absurd c q⟩
  · exact ⟨fun _ => ⟨rfl, hn (no_idx (by omega) (Or.inr c))⟩, fun _ => ⟨hT.1.1, fun _ => ⟨rfl, hn (no_idx (by omega) (Or.inr c))⟩, fun q => absurd c q⟩⟩
  · exact ⟨fun q => absurd q (nI_pos (by omega)), fun _ => ⟨hT.1.1, fun q => absurd q (nI_ge hj (by omega)), fun _ => ⟨fun q => absurd q (nI_ge (a := j) (b := 6) (by omega) (by omega)), fun _ => ⟨rfl, hy j hj rfl⟩⟩⟩⟩
def distI (x y : Int32) : Int32 := if 0 ≤ x - y then x - y else -(x - y)
def farT (t : Tw) (i : Nat) : Int32 := distI (t.2 4 i) (t.2 6 i)
theorem vin {j n : Nat} (hj : j < n) {h : HP} {x : Nat} (e : hN h x = n) (hn : n ≤ 6000) : vp_in (nI j) (hN h x) := by rw [e]; exact vp_in_nI hj (by omega)
theorem c_far {i : Nat} {Q : Int32 → HP → Prop} (hT : TownIs h a t) (hi : i < t.1 3) (hQ : Q (farT t i) h) : CallI g mX8_far (d + 1) [.ref a, .int (nI i)] h Q := by
  have hb : t.1 3 ≤ 6 := hT.2.1.2.2.2.1
  obtain ⟨k0, ⟨r5, r6, r7, r8, r9, r10, r11, r12⟩, ⟨k1, k2, k3, k4, k5, k6, k7, k8⟩, n1, n2, n3, n4, n5, n6, n7, n8⟩ := hT.1
  refine vX8_far_0 a (nI i) h ⟨k0, c_hasLodger hT (fun j hj e => ?_) (fun q => absurd rfl (q i hi))⟩
  refine ⟨fun q => absurd q (by decide), fun _ => ⟨k0, _, r8, k4, vin (by omega) n4 (by omega), k0, _, r10, k6, vin (by omega) n6 (by omega), c_abs ?_⟩⟩
  rw [nI_clamp (by omega), hT.lod 4 (by omega) (by omega) hi, hT.lod 6 (by omega) (by omega) hi]
  exact hQ
theorem l_farOfAll {b : Nat × Nat} {Q : Option Value → HP → Prop} (hT : TownIs h a t) (hQ : Q (some (.int (sumI (farT t) (t.1 3)))) h) : ∀ k i, i + k = t.1 3 → Sat g mX8_farOfAll (d + 2) b Q 4 [.ref a, .int (sumI (farT t) i), .int (nI i)] [] h := by
  have hb : t.1 3 ≤ 6 := hT.2.1.2.2.2.1
  have e3 := hT.2.2.1 3 (by omega)
  intro k
  induction k with
  | zero =>
    intro i hi
    refine vX8_farOfAll_4 a _ (nI i) h ⟨hT.1.1, fun _ => ?_, fun q => absurd (by rw [e3]; exact nI_le (by omega) (by omega)) q⟩
    have : i = t.1 3 := by omega
    rw [this]; exact hQ
  | succ k ih =>
    intro i hi
    refine vX8_farOfAll_4 a _ (nI i) h ⟨hT.1.1, fun q => absurd (by rw [e3] at q; exact q) (nI_ge (a := i) (b := t.1 3) (by omega) (by omega)), fun _ => ⟨hT.1.1, c_far hT (by omega) ?_⟩⟩
    rw [nI_1]
    exact ih (i + 1) (by omega)
theorem c_farOfAll {Q : Int32 → HP → Prop} (hT : TownIs h a t) (hQ : Q (sumI (farT t) (t.1 3)) h) : CallI g mX8_farOfAll (d + 2) [.ref a] h Q :=
  vX8_farOfAll_0 a h (l_farOfAll (Q := fun r h' => match r with
    | some (.int x) => Q x h'
    | _ => False) hT hQ (t.1 3) 0 (by omega))
end TOWN
