/-! a Town's methods, on -/
def setT (t : Tw) (r j : Nat) (v : Int32) : Tw := (t.1, up2 t.2 r j v)
theorem TownIs.congr {h : HP} {a : Nat} {t t' : Tw} (hT : TownIs h a t) (h1 : ∀ k, k < 5 → t'.1 k = t.1 k) (h2 : ∀ r j, rowOK t r j → t'.2 r j = t.2 r j) : TownIs h a t' := by
  have e2 := h1 2 (by omega)
  have e3 := h1 3 (by omega)
  refine ⟨hT.1, ?_, fun k hk => by rw [h1 k hk]; exact hT.2.2.1 k hk, fun r j hr => ?_⟩
  · have := hT.2.1
    unfold TB at this ⊢
    rw [h1 0 (by omega), h1 1 (by omega), e2, e3, h1 4 (by omega)]
    exact this
  · have hr' : rowOK t r j := by unfold rowOK at hr ⊢; rw [e2, e3] at hr; exact hr
    rw [h2 r j hr']
    exact hT.2.2.2 r j hr'
theorem TownIs.set {h : HP} {a : Nat} {t : Tw} (hT : TownIs h a t) (r j : Nat) (v : Int32) (h1 : 1 ≤ r) (h2 : r ≤ 8) : TownIs (setI h (a + r) j v) a (setT t r j v) := by
  refine ⟨hT.1.to rfl rfl rfl, hT.2.1, fun k hk => ?_, fun r2 j2 hr => ?_⟩
  · show up2 _ _ _ _ _ _ = _
    rw [up2_row _ _ (by omega)]
    exact hT.2.2.1 k hk
  · have e := hT.2.2.2 r2 j2 hr
    show up2 (hI h) (a + r) j v (a + r2) j2 = up2 t.2 r j v r2 j2
    by_cases c : r2 = r ∧ j2 = j
    · obtain ⟨rfl, rfl⟩ := c
      rw [up2_eq, up2_eq]
    · rw [up2_ne _ _ (by omega), up2_ne _ _ c]
      exact e
section TOWN
variable {g : GT} {d : Nat} {a : Nat} {h : HP} {t : Tw}
theorem l_hollowOfAll {b : Nat × Nat} {Q : Option Value → HP → Prop} (hT : TownIs h a t) (hQ : Q (some (.int (sumI (t.2 1) (t.1 2)))) h) : ∀ k i, i + k = t.1 2 → Sat g mX8_hollowOfAll d b Q 4 [.ref a, .int (sumI (t.2 1) i), .int (nI i)] [] h := by
  have hb : t.1 2 ≤ 5 := hT.2.1.2.2.1
  have e3 := hT.2.2.1 2 (by omega)
  obtain ⟨k0, ⟨r5, r6, r7, r8, r9, r10, r11, r12⟩, ⟨k1, k2, k3, k4, k5, k6, k7, k8⟩, n1, n2, n3, n4, n5, n6, n7, n8⟩ := hT.1
  intro k
  induction k with
  | zero =>
    intro i hi
    refine vX8_hollowOfAll_4 a _ (nI i) h ⟨k0, fun _ => ?_, fun q => absurd (by rw [e3]; exact nI_le (by omega) (by omega)) q⟩
    have : i = t.1 2 := by omega
    rw [this]; exact hQ
  | succ k ih =>
    intro i hi
    refine vX8_hollowOfAll_4 a _ (nI i) h ⟨k0, fun q => absurd (by rw [e3] at q; exact q) (nI_ge (a := i) (b := t.1 2) (by omega) (by omega)), fun _ => ⟨fun q => absurd q (nI_ge (a := i) (b := 5) (by omega) (by omega)), fun _ => ⟨k0, _, r5, k1, vin (by omega) n1 (by omega), ?_⟩⟩⟩
    rw [nI_1, nI_clamp (by omega), hT.bed 1 (by omega) (by omega) (show i < t.1 2 by omega)]
    exact ih (i + 1) (by omega)
theorem c_hollowOfAll {Q : Int32 → HP → Prop} (hT : TownIs h a t) (hQ : Q (sumI (t.2 1) (t.1 2)) h) : CallI g mX8_hollowOfAll d [.ref a] h Q :=
  vX8_hollowOfAll_0 a h (l_hollowOfAll (Q := fun r h' => match r with
    | some (.int x) => Q x h'
    | _ => False) hT hQ (t.1 2) 0 (by omega))
theorem l_sleptOfAll {b : Nat × Nat} {Q : Option Value → HP → Prop} (hT : TownIs h a t) (hQ : Q (some (.int (sumI (t.2 8) (t.1 3)))) h) : ∀ k i, i + k = t.1 3 → Sat g mX8_sleptOfAll d b Q 4 [.ref a, .int (sumI (t.2 8) i), .int (nI i)] [] h := by
  have hb : t.1 3 ≤ 6 := hT.2.1.2.2.2.1
  have e3 := hT.2.2.1 3 (by omega)
  obtain ⟨k0, ⟨r5, r6, r7, r8, r9, r10, r11, r12⟩, ⟨k1, k2, k3, k4, k5, k6, k7, k8⟩, n1, n2, n3, n4, n5, n6, n7, n8⟩ := hT.1
  intro k
  induction k with
  | zero =>
    intro i hi
    refine vX8_sleptOfAll_4 a _ (nI i) h ⟨k0, fun _ => ?_, fun q => absurd (by rw [e3]; exact nI_le (by omega) (by omega)) q⟩
    have : i = t.1 3 := by omega
    rw [this]; exact hQ
  | succ k ih =>
    intro i hi
    refine vX8_sleptOfAll_4 a _ (nI i) h ⟨k0, fun q => absurd (by rw [e3] at q; exact q) (nI_ge (a := i) (b := t.1 3) (by omega) (by omega)), fun _ => ⟨fun q => absurd q (nI_ge (a := i) (b := 6) (by omega) (by omega)), fun _ => ⟨k0, _, r12, k8, vin (by omega) n8 (by omega), ?_⟩⟩⟩
    rw [nI_1, nI_clamp (by omega), hT.lod 8 (by omega) (by omega) (show i < t.1 3 by omega)]
    exact ih (i + 1) (by omega)
theorem c_sleptOfAll {Q : Int32 → HP → Prop} (hT : TownIs h a t) (hQ : Q (sumI (t.2 8) (t.1 3)) h) : CallI g mX8_sleptOfAll d [.ref a] h Q :=
  vX8_sleptOfAll_0 a h (l_sleptOfAll (Q := fun r h' => match r with
    | some (.int x) => Q x h'
    | _ => False) hT hQ (t.1 3) 0 (by omega))
/-- bits of the numbers below n whose row is x -/
def bitsT (f : Nat → Int32) (x : Int32) : Nat → Int32
  | 0 => 0
  | n + 1 => if f n = x then bitsT f x n ||| (1 <<< (nI n &&& 31)) else bitsT f x n
theorem l_lodgersOn {b : Nat × Nat} {x : Int32} {Q : Option Value → HP → Prop} (hT : TownIs h a t) (hQ : Q (some (.int (bitsT (t.2 7) x (t.1 3)))) h) : ∀ k i, i + k = t.1 3 → Sat g mX8_lodgersOn d b Q 4 [.ref a, .int x, .int (bitsT (t.2 7) x i), .int (nI i)] [] h := by
  have hb : t.1 3 ≤ 6 := hT.2.1.2.2.2.1
  have e3 := hT.2.2.1 3 (by omega)
  obtain ⟨k0, ⟨r5, r6, r7, r8, r9, r10, r11, r12⟩, ⟨k1, k2, k3, k4, k5, k6, k7, k8⟩, n1, n2, n3, n4, n5, n6, n7, n8⟩ := hT.1
  intro k
  induction k with
  | zero =>
    intro i hi
    refine vX8_lodgersOn_4 a _ _ (nI i) h ⟨k0, fun _ => ?_, fun q => absurd (by rw [e3]; exact nI_le (by omega) (by omega)) q⟩
    have : i = t.1 3 := by omega
    rw [this]; exact hQ
  | succ k ih =>
    intro i hi
    have key := ih (i + 1) (by omega)
    unfold bitsT at key
    refine vX8_lodgersOn_4 a _ _ (nI i) h ⟨k0, fun q => absurd (by rw [e3] at q; exact q) (nI_ge (a := i) (b := t.1 3) (by omega) (by omega)), fun _ => ⟨fun q => absurd q (nI_ge (a := i) (b := 6) (by omega) (by omega)), fun _ => ⟨k0, _, r11, k7, vin (by omega) n7 (by omega), ?_⟩⟩⟩
    rw [nI_1, nI_clamp (by omega), hT.lod 7 (by omega) (by omega) (show i < t.1 3 by omega)]
    refine ⟨fun q => ?_, fun q => ?_⟩
    · rw [if_pos q] at key; exact key
    · rw [if_neg q] at key; exact key
theorem c_lodgersOn {x : Int32} {Q : Int32 → HP → Prop} (hT : TownIs h a t) (hQ : Q (bitsT (t.2 7) x (t.1 3)) h) : CallI g mX8_lodgersOn d [.ref a, .int x] h Q :=
  vX8_lodgersOn_0 a x h (l_lodgersOn (Q := fun r h' => match r with
    | some (.int x) => Q x h'
    | _ => False) hT hQ (t.1 3) 0 (by omega))
/-- SHAPE of LODGER i behind a NIGHT on x -/
def shB (t : Tw) (i b : Nat) : Int32 := t.2 4 i + (t.2 1 b - t.2 4 i) / t.2 5 i
theorem c_shapeBehind {i : Nat} {x : Int32} {Q : Int32 → HP → Prop} (hT : TownIs h a t) (hi : i < t.1 3) (hbo : ¬ t.2 5 i ≤ 0) (hb0 : ¬ t.2 5 i = 0) (hy : ∀ j, j < t.1 2 → x = nI j → Q (shB t i j) h) (hn : (∀ j, j < t.1 2 → ¬ x = nI j) → Q (t.2 4 i) h) : CallI g mX8_shapeBehind (d + 1) [.ref a, .int (nI i), .int x] h Q := by
  have hb : t.1 3 ≤ 6 := hT.2.1.2.2.2.1
  have hb2 : t.1 2 ≤ 5 := hT.2.1.2.2.1
  have e4 := hT.lod 4 (by omega) (by omega) hi
  have e5 := hT.lod 5 (by omega) (by omega) hi
  obtain ⟨k0, ⟨r5, r6, r7, r8, r9, r10, r11, r12⟩, ⟨k1, k2, k3, k4, k5, k6, k7, k8⟩, n1, n2, n3, n4, n5, n6, n7, n8⟩ := hT.1
  refine vX8_shapeBehind_0 a (nI i) x h ⟨k0, c_hasLodger hT (fun j hj e => ?_) (fun q => absurd rfl (q i hi))⟩
  refine ⟨fun q => absurd q (by decide), fun _ => ⟨k0, _, r8, k4, vin (by omega) n4 (by omega), k0, _, r9, k5, vin (by omega) n5 (by omega), k0, ?_⟩⟩
  rw [nI_clamp (by omega), e4, e5]
  refine c_hasBed hT (fun j2 hj2 e2 => ?_) (fun q => ?_)
  · refine ⟨fun q => absurd q (by decide), fun _ => ⟨fun q => absurd q hbo, fun _ => ⟨k0, _, r5, k1, by rw [e2]; exact vin (by omega) n1 (by omega), hb0, ?_⟩⟩⟩
    rw [e2, nI_clamp (by omega), hT.bed 1 (by omega) (by omega) hj2]
    exact hy j2 hj2 e2
  · exact ⟨fun _ => hn q, fun c => absurd rfl c⟩
/-- the copy of a Town, so far: c r of row r -/
def CP (h h' : HP) (a b : Nat) (c : Nat → Nat) : Prop := Off h h' a 9 ∧ (∀ k, k < 5 → hI h' a k = hI h b k) ∧ ∀ r j, 1 ≤ r → r ≤ 8 → j < c r → hI h' (a + r) j = hI h (b + r) j
theorem CP.step {h h' : HP} {a b : Nat} {c : Nat → Nat} (p : CP h h' a b c) (hd : a + 9 ≤ b ∨ b + 9 ≤ a) (r i : Nat) (h1 : 1 ≤ r) (h2 : r ≤ 8) (hc : c r = i) : CP h (setI h' (a + r) i (hI h' (b + r) i)) a b (up1 c r (i + 1)) := by
  refine ⟨p.1.tr (Off.st (by omega) (by omega)), fun k hk => ?_, fun r2 j h3 h4 hj => ?_⟩
  · show up2 _ _ _ _ _ _ = _
    rw [up2_row _ _ (by omega)]
    exact p.2.1 k hk
  · show up2 (hI h') (a + r) i (hI h' (b + r) i) (a + r2) j = _
    by_cases q : r2 = r
    · subst q
      by_cases q2 : j = i
      · subst q2
        rw [up2_eq, p.1.2.2 (b + r2) (by omega)]
      · rw [up2_ne _ _ (by omega)]
        refine p.2.2 r2 j h3 h4 ?_
        simp only [up1, if_true] at hj
        omega
    · rw [up2_ne _ _ (by omega)]
      refine p.2.2 r2 j h3 h4 ?_
      simp only [up1, if_neg q] at hj
      exact hj
theorem CP.mono {h h' : HP} {a b : Nat} {c c' : Nat → Nat} (p : CP h h' a b c) (hc : ∀ r, 1 ≤ r → r ≤ 8 → c' r ≤ c r) : CP h h' a b c' := ⟨p.1, p.2.1, fun r j h1 h2 hj => p.2.2 r j h1 h2 (Nat.lt_of_lt_of_le hj (hc r h1 h2))⟩
theorem l_copy2 {b0 : Nat × Nat} {b : Nat} {Q : Option Value → HP → Prop} (hA : TwS h a) (hB : TwS h b) (hd : a + 9 ≤ b ∨ b + 9 ≤ a) (hQ : ∀ h', CP h h' a b (fun r => if r ≤ 3 then 5 else 6) → Q none h') : ∀ k i h', i + k = 6 → CP h h' a b (fun r => if r ≤ 3 then 5 else i) → Sat g mX8_copyFrom d b0 Q 91 [.ref a, .ref b, .int (nI i)] [] h' := by
  intro k
  induction k with
  | zero =>
    intro i h' hi p
    have : i = 6 := by omega
    subst this
    exact vX8_copyFrom_91 a b (nI 6) h' ⟨fun _ => hQ h' p, fun q => absurd (show (6 : Int32) ≤ nI 6 by decide) q⟩
  | succ k ih =>
    intro i h' hi p
    have hA' := hA.to p.1.K p.1.N p.1.R
    have hB' := hB.to p.1.K p.1.N p.1.R
    obtain ⟨k0, ⟨r5, r6, r7, r8, r9, r10, r11, r12⟩, ⟨k1, k2, k3, k4, k5, k6, k7, k8⟩, n1, n2, n3, n4, n5, n6, n7, n8⟩ := hA'
    obtain ⟨k0', ⟨r5', r6', r7', r8', r9', r10', r11', r12'⟩, ⟨k1', k2', k3', k4', k5', k6', k7', k8'⟩, n1', n2', n3', n4', n5', n6', n7', n8'⟩ := hB'
    have key := vX8_copyFrom_91 (g := g) (d := d) (b := b0) (Q := Q) a b (nI i) h'
    rw [nI_clamp (by omega), nI_1] at key
    refine key ⟨fun q => absurd q (nI_ge (a := i) (b := 6) (by omega) (by omega)), fun _ => ⟨k0, _, r8, k0', _, r8', k4', vin (by omega) n4' (by omega), k4, vin (by omega) n4 (by omega), k0, _, r9, k0', _, r9', k5', vin (by omega) n5' (by omega), k5, vin (by omega) n5 (by omega), fun h5 e5 => ?_⟩⟩
    subst e5
    refine ⟨k0, _, r10, k0', _, r10', k6', vin (by omega) n6' (by omega), k6, vin (by omega) n6 (by omega), k0, _, r11, k0', _, r11', k7', vin (by omega) n7' (by omega), k7, vin (by omega) n7 (by omega), fun h6 e6 => ?_⟩
    subst e6
    refine ⟨k0, _, r12, k0', _, r12', k8', vin (by omega) n8' (by omega), k8, vin (by omega) n8 (by omega), ih (i + 1) _ (by omega) ?_⟩
    have p4 := p.step hd 4 i (by omega) (by omega) rfl
    have p5 := p4.step hd 5 i (by omega) (by omega) rfl
    have p6 := p5.step hd 6 i (by omega) (by omega) rfl
    have p7 := p6.step hd 7 i (by omega) (by omega) rfl
    have p8 := p7.step hd 8 i (by omega) (by omega) rfl
    refine p8.mono (fun r h1 h2 => ?_)
    simp only [up1]
    rcases (show r = 1 ∨ r = 2 ∨ r = 3 ∨ r = 4 ∨ r = 5 ∨ r = 6 ∨ r = 7 ∨ r = 8 by omega) with rfl | rfl | rfl | rfl | rfl | rfl | rfl | rfl <;> simp
theorem l_copy1 {b0 : Nat × Nat} {b : Nat} {Q : Option Value → HP → Prop} (hA : TwS h a) (hB : TwS h b) (hd : a + 9 ≤ b ∨ b + 9 ≤ a) (hQ : ∀ h', CP h h' a b (fun r => if r ≤ 3 then 5 else 6) → Q none h') : ∀ k i h', i + k = 5 → CP h h' a b (fun r => if r ≤ 3 then i else 0) → Sat g mX8_copyFrom d b0 Q 42 [.ref a, .ref b, .int (nI i)] [] h' := by
  intro k
  induction k with
  | zero =>
    intro i h' hi p
    have : i = 5 := by omega
    subst this
    exact vX8_copyFrom_42 a b (nI 5) h' ⟨fun _ => l_copy2 hA hB hd hQ 6 0 h' (by omega) p, fun q => absurd (show (5 : Int32) ≤ nI 5 by decide) q⟩
  | succ k ih =>
    intro i h' hi p
    have hA' := hA.to p.1.K p.1.N p.1.R
    have hB' := hB.to p.1.K p.1.N p.1.R
    obtain ⟨k0, ⟨r5, r6, r7, r8, r9, r10, r11, r12⟩, ⟨k1, k2, k3, k4, k5, k6, k7, k8⟩, n1, n2, n3, n4, n5, n6, n7, n8⟩ := hA'
    obtain ⟨k0', ⟨r5', r6', r7', r8', r9', r10', r11', r12'⟩, ⟨k1', k2', k3', k4', k5', k6', k7', k8'⟩, n1', n2', n3', n4', n5', n6', n7', n8'⟩ := hB'
    have key := vX8_copyFrom_42 (g := g) (d := d) (b := b0) (Q := Q) a b (nI i) h'
    rw [nI_clamp (by omega), nI_1] at key
    refine key ⟨fun q => absurd q (nI_ge (a := i) (b := 5) (by omega) (by omega)), fun _ => ⟨k0, _, r5, k0', _, r5', k1', vin (by omega) n1' (by omega), k1, vin (by omega) n1 (by omega), k0, _, r6, k0', _, r6', k2', vin (by omega) n2' (by omega), k2, vin (by omega) n2 (by omega), fun h5 e5 => ?_⟩⟩
    subst e5
    refine ⟨k0, _, r7, k0', _, r7', k3', vin (by omega) n3' (by omega), k3, vin (by omega) n3 (by omega), ih (i + 1) _ (by omega) ?_⟩
    have p1 := p.step hd 1 i (by omega) (by omega) rfl
    have p2 := p1.step hd 2 i (by omega) (by omega) rfl
    have p3 := p2.step hd 3 i (by omega) (by omega) rfl
    refine p3.mono (fun r h1 h2 => ?_)
    simp only [up1]
    rcases (show r = 1 ∨ r = 2 ∨ r = 3 ∨ r = 4 ∨ r = 5 ∨ r = 6 ∨ r = 7 ∨ r = 8 by omega) with rfl | rfl | rfl | rfl | rfl | rfl | rfl | rfl <;> simp
theorem c_copyFrom {b : Nat} {Q : HP → Prop} (hA : TwS h a) (hB : TownIs h b t) (hd : a + 9 ≤ b ∨ b + 9 ≤ a) (hQ : ∀ h', Off h h' a 9 → TownIs h' a t → Q h') : CallV g mX8_copyFrom d (0, 0) [.ref a, .ref b] h Q := by
  have fin : ∀ h', CP h h' a b (fun r => if r ≤ 3 then 5 else 6) → Q h' := by
    intro h' p
    refine hQ h' p.1 ⟨hA.to p.1.K p.1.N p.1.R, hB.2.1, fun k hk => by rw [p.2.1 k hk]; exact hB.2.2.1 k hk, fun r j hr => ?_⟩
    have hb2 : t.1 2 ≤ 5 := hB.2.1.2.2.1
    have hb3 : t.1 3 ≤ 6 := hB.2.1.2.2.2.1
    rw [p.2.2 r j (by unfold rowOK at hr; omega) (by unfold rowOK at hr; omega) (by unfold rowOK at hr; show j < if r ≤ 3 then 5 else 6; split <;> omega)]
    exact hB.2.2.2 r j hr
  refine vX8_copyFrom_0 a b h ⟨hB.1.1, hA.1, hB.1.1, hA.1, hB.1.1, hA.1, fun h1 e1 => ?_⟩
  subst e1
  refine ⟨hB.1.1, hA.1, hB.1.1, hA.1, ?_⟩
  refine l_copy1 (Q := fun r h' => match r with
    | none => Q h'
    | _ => False) hA hB.1 hd fin 5 0 _ (by omega) ⟨?_, fun k hk => ?_, fun r j h1 h2 hj => by simp at hj⟩
  · refine ⟨rfl, rfl, fun x hx => ?_⟩
    funext y
    simp only [setI, hI, up2]
    have : ¬ x = a := by omega
    simp [this]
  · have hab : ¬ b = a := by omega
    simp only [setI, hI, up2]
    rcases (show k = 0 ∨ k = 1 ∨ k = 2 ∨ k = 3 ∨ k = 4 by omega) with rfl | rfl | rfl | rfl | rfl <;> simp [hab]
end TOWN
