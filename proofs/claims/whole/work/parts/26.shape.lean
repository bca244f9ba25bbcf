/-! Nights.shapeAll -/
def LOK (t : Tw) (l : Nat → Int32) : Prop := ∀ i, i < t.1 3 → l i = -1 ∨ ∃ j, j < t.1 2 ∧ l i = nI j
/-- what (2) needs: no BODY, no STUFF is 0 or less, no sum of SHAPES below 0 -/
def DivOK (t : Tw) (l : Nat → Int32) : Prop := (∀ i, i < t.1 3 → ¬ t.2 5 i ≤ 0 ∧ ¬ t.2 5 i = 0) ∧ ∀ j, j < t.1 2 → (¬ t.2 3 j ≤ 0 ∧ ¬ t.2 3 j = 0) ∧ 0 ≤ sumB (onT l j) (t.2 4) (t.1 3)
def shapeP (t : Tw) (l : Nat → Int32) (k m : Nat) : Tw := (t.1, fun r j => if (r = 4 ∨ r = 7 ∨ r = 8) ∧ j < k ∨ r = 1 ∧ j < m then (shapeT t l).2 r j else t.2 r j)
theorem neg1_ne {j : Nat} (hj : j < 2 ^ 31) : ¬ nI j = -1 := by
  intro e
  have := nI_toInt hj
  rw [e] at this
  have e2 : (-1 : Int32).toInt = -1 := by decide
  rw [e2] at this
  omega
section SHAPE
variable {g : GT} {d : Nat} {a n : Nat} {h : HP} {t : Tw} {l : Nat → Int32}
theorem l_sh3 {b : Nat × Nat} {Q : Option Value → HP → Prop} {A : Nat → Prop} (hA : ∀ x, a ≤ x → x < a + 9 → A x) (hd : n + 6 ≤ a ∨ a + 9 ≤ n) (hG : NgS h n) (hb2 : t.1 2 ≤ 5) (hQ : ∀ h', Fr A h h' → TownIs h' a (shapeP t l (t.1 3) (t.1 2)) → Q none h') : ∀ k i h', i + k = t.1 2 → Fr A h h' → (∀ j, j < t.1 2 → hI h' (n + 4) j = hoB t j (onT l j)) → TownIs h' a (shapeP t l (t.1 3) i) → Sat g mX4_shapeAll (d + 1) b Q 111 [.ref n, .ref a, .int (nI i)] [] h' := by
  intro k
  induction k with
  | zero =>
    intro i h' hi p hr hT'
    have e2 := hT'.2.2.1 2 (by omega)
    have : i = t.1 2 := by omega
    subst this
    exact vX4_shapeAll_111 n a _ h' ⟨hT'.1.1, fun _ => hQ h' p hT', fun q => absurd (by rw [e2]; exact nI_le (Nat.le_refl _) (by show t.1 2 < _; omega)) q⟩
  | succ k ih =>
    intro i h' hi p hr hT'
    have e2 := hT'.2.2.1 2 (by omega)
    obtain ⟨k0, ⟨r5, r6, r7, r8, r9, r10, r11, r12⟩, ⟨k1, k2, k3, k4, k5, k6, k7, k8⟩, n1, n2, n3, n4, n5, n6, n7, n8⟩ := hT'.1
    obtain ⟨m0, ⟨s0, s1, s2, s3, s4⟩, ⟨m1, m2, m3, m4, m5⟩, q1, q2, q3, q4, q5⟩ := hG.to p.K p.N p.2.1
    have key := vX4_shapeAll_111 (g := g) (d := d) (b := b) (Q := Q) n a (nI i) h'
    rw [nI_clamp (by omega), nI_1, e2] at key
    refine key ⟨k0, fun q => absurd q (nI_ge (a := i) (b := t.1 2) (by omega) (by omega)), fun _ => ⟨fun q => absurd q (nI_ge (a := i) (b := 5) (by omega) (by omega)), fun _ => ⟨k0, _, r5, m0, _, s3, m4, vin (by omega) q4 (by omega), k1, vin (by omega) n1 (by omega), ?_⟩⟩⟩
    rw [hr i (by omega)]
    refine ih (i + 1) _ (by omega) (p.tr (Fr.stI (hA _ (by omega) (by omega)))) (fun j hj => ?_) ?_
    · show up2 _ _ _ _ _ _ = _
      rw [up2_row _ _ (by omega)]
      exact hr j hj
    · refine (hT'.set 1 i _ (by omega) (by omega)).congr (fun _ _ => rfl) (fun r j hrj => ?_)
      show (if _ then _ else _) = up2 (shapeP t l (t.1 3) i).2 1 i _ r j
      unfold up2 shapeP
      by_cases c1 : r = 1
      · subst c1
        by_cases c2 : j = i
        · subst c2; simp [shapeT]
        · by_cases c3 : j < i
          · simp [c2, c3, Nat.lt_succ_of_lt c3]
          · have : ¬ j < i + 1 := by omega
            simp [c2, c3, this]
      · simp [c1]
theorem l_sh2 {b : Nat × Nat} {Q : Option Value → HP → Prop} {A : Nat → Prop} (hA : ∀ x, a ≤ x → x < a + 9 → A x) (hd : n + 6 ≤ a ∨ a + 9 ≤ n) (hG : NgS h n) (hB : TB t) (hl : LOK t l) (hv : DivOK t l) (hQ : ∀ h', Fr A h h' → TownIs h' a (shapeP t l (t.1 3) (t.1 2)) → Q none h') : ∀ k i h', i + k = t.1 3 → Fr A h h' → (∀ j, j < t.1 2 → hI h' (n + 4) j = hoB t j (onT l j)) → (∀ i, i < t.1 3 → hI h' (n + 3) i = l i) → TownIs h' a (shapeP t l i 0) → Sat g mX4_shapeAll (d + 2) b Q 40 [.ref n, .ref a, .int (nI i)] [] h' := by
  unfold TB at hB
  intro k
  induction k with
  | zero =>
    intro i h' hi p hr hl3 hT'
    have e3 := hT'.2.2.1 3 (by omega)
    have : i = t.1 3 := by omega
    subst this
    exact vX4_shapeAll_40 n a _ h' ⟨hT'.1.1, fun _ => l_sh3 hA hd hG (by omega) hQ (t.1 2) 0 h' (by omega) p hr hT', fun q => absurd (by rw [e3]; exact nI_le (Nat.le_refl _) (by show t.1 3 < _; omega)) q⟩
  | succ k ih =>
    intro i h' hi p hr hl3 hT'
    have e3 := hT'.2.2.1 3 (by omega)
    have hi3 : i < t.1 3 := by omega
    obtain ⟨k0, ⟨r5, r6, r7, r8, r9, r10, r11, r12⟩, ⟨k1, k2, k3, k4, k5, k6, k7, k8⟩, n1, n2, n3, n4, n5, n6, n7, n8⟩ := hT'.1
    obtain ⟨m0, ⟨s0, s1, s2, s3, s4⟩, ⟨m1, m2, m3, m4, m5⟩, q1, q2, q3, q4, q5⟩ := hG.to p.K p.N p.2.1
    have u4 : (shapeP t l i 0).2 4 i = t.2 4 i := by simp [shapeP]
    have u5 : (shapeP t l i 0).2 5 i = t.2 5 i := by simp [shapeP]
    have u8 : (shapeP t l i 0).2 8 i = t.2 8 i := by simp [shapeP]
    have u1 : ∀ j, (shapeP t l i 0).2 1 j = t.2 1 j := fun j => by simp [shapeP]
    have key := vX4_shapeAll_40 (g := g) (d := d + 1) (b := b) (Q := Q) n a (nI i) h'
    rw [nI_clamp (by omega), nI_1, e3] at key
    have vi6 : ∀ {x : Nat}, hN h' x = 6 → vp_in (nI i) (hN h' x) := fun e => vin (by omega) e (by omega)
    refine key ⟨k0, fun q => absurd q (nI_ge (a := i) (b := t.1 3) (by omega) (by omega)), fun _ => ⟨fun q => absurd q (nI_ge (a := i) (b := 6) (by omega) (by omega)), fun _ => ⟨k0, _, r8, m0, _, s2, m3, vi6 q3, k0, ?_⟩⟩⟩
    rw [hl3 i hi3]
    have cont : ∀ v : Int32, v = (if l i = -1 then t.2 4 i else shB t i (l i).toNatClampNeg) → (hK h' (a + 4) = 21 ∧ vp_in (nI i) (hN h' (a + 4)) ∧ hK (setI h' (a + 4) i v) a = 9 ∧ ∃ y5, hR (setI h' (a + 4) i v) a 11 = some y5 ∧ hK (setI h' (a + 4) i v) n = 5 ∧ ∃ y6, hR (setI h' (a + 4) i v) n 2 = some y6 ∧ hK (setI h' (a + 4) i v) y6 = 21 ∧ vp_in (nI i) (hN (setI h' (a + 4) i v) y6) ∧ hK (setI h' (a + 4) i v) y5 = 21 ∧ vp_in (nI i) (hN (setI h' (a + 4) i v) y5) ∧ (∀ h7, h7 = (setI (setI h' (a + 4) i v) y5 i (hI (setI h' (a + 4) i v) y6 i)) → hK h7 n = 5 ∧ ∃ y8, hR h7 n 2 = some y8 ∧ hK h7 y8 = 21 ∧ vp_in (nI i) (hN h7 y8) ∧ ((hI h7 y8 i) = (-1) → Sat g mX4_shapeAll (d + 1 + 1) b Q 40 [Value.ref n, .ref a, .int (nI (i + 1))] [] h7) ∧ (¬ ((hI h7 y8 i) = (-1)) → hK h7 a = 9 ∧ ∃ y9, hR h7 a 12 = some y9 ∧ hK h7 y9 = 21 ∧ vp_in (nI i) (hN h7 y9) ∧ hK h7 y9 = 21 ∧ vp_in (nI i) (hN h7 y9) ∧ Sat g mX4_shapeAll (d + 1 + 1) b Q 40 [Value.ref n, .ref a, .int (nI (i + 1))] [] (setI h7 y9 i ((hI h7 y9 i) + 1))))) := by
      intro v hv2
      have l3 : hI (setI h' (a + 4) i v) (n + 3) i = l i := by
        show up2 _ _ _ _ _ _ = _
        rw [up2_row _ _ (by omega)]
        exact hl3 i hi3
      refine ⟨k4, vi6 n4, k0, _, r11, m0, _, s2, m3, vi6 q3, k7, vi6 n7, fun h7 e7 => ?_⟩
      subst e7
      rw [l3]
      have l3' : hI (setI (setI h' (a + 4) i v) (a + 7) i (l i)) (n + 3) i = l i := by
        show up2 _ _ _ _ _ _ = _
        rw [up2_row _ _ (by omega)]
        exact l3
      have base := (hT'.set 4 i v (by omega) (by omega)).set 7 i (l i) (by omega) (by omega)
      have p2 : Fr A h (setI (setI h' (a + 4) i v) (a + 7) i (l i)) := (p.tr (Fr.stI (hA _ (by omega) (by omega)))).tr (Fr.stI (hA _ (by omega) (by omega)))
      refine ⟨m0, _, s2, m3, vi6 q3, ?_⟩
      rw [l3']
      refine ⟨fun c => ?_, fun c => ⟨k0, _, r12, k8, vi6 n8, k8, vi6 n8, ?_⟩⟩
      · refine ih (i + 1) _ (by omega) p2 (fun j hj => ?_) (fun j hj => ?_) (base.congr (fun _ _ => rfl) (fun r j hrj => ?_))
        · show up2 (up2 _ _ _ _) _ _ _ _ _ = _
          rw [up2_row _ _ (by omega), up2_row _ _ (by omega)]
          exact hr j hj
        · show up2 (up2 _ _ _ _) _ _ _ _ _ = _
          rw [up2_row _ _ (by omega), up2_row _ _ (by omega)]
          exact hl3 j hj
        · show (if _ then _ else _) = up2 (up2 (shapeP t l i 0).2 4 i v) 7 i (l i) r j
          rw [if_pos c] at hv2
          unfold up2 shapeP
          by_cases c2 : j = i
          · subst c2
            by_cases c4 : r = 4
            · subst c4; simp [shapeT, c, hv2]
            · by_cases c7 : r = 7
              · subst c7; simp [shapeT, c]
              · by_cases c8 : r = 8
                · subst c8; simp [shapeT, c]
                · simp [c4, c7, c8]
          · have e : (j < i + 1) = (j < i) := by apply propext; omega
            simp [c2, e]
      · have s8 : hI (setI (setI h' (a + 4) i v) (a + 7) i (l i)) (a + 8) i = t.2 8 i := by
          show up2 (up2 _ _ _ _) _ _ _ _ _ = _
          rw [up2_row _ _ (by omega), up2_row _ _ (by omega), hT'.lod 8 (by omega) (by omega) hi3, u8]
        rw [s8]
        refine ih (i + 1) _ (by omega) (p2.tr (Fr.stI (hA _ (by omega) (by omega)))) (fun j hj => ?_) (fun j hj => ?_) ((base.set 8 i (t.2 8 i + 1) (by omega) (by omega)).congr (fun _ _ => rfl) (fun r j hrj => ?_))
        · show up2 (up2 (up2 _ _ _ _) _ _ _) _ _ _ _ _ = _
          rw [up2_row _ _ (by omega), up2_row _ _ (by omega), up2_row _ _ (by omega)]
          exact hr j hj
        · show up2 (up2 (up2 _ _ _ _) _ _ _) _ _ _ _ _ = _
          rw [up2_row _ _ (by omega), up2_row _ _ (by omega), up2_row _ _ (by omega)]
          exact hl3 j hj
        · show (if _ then _ else _) = up2 (up2 (up2 (shapeP t l i 0).2 4 i v) 7 i (l i)) 8 i _ r j
          rw [if_neg c] at hv2
          unfold up2 shapeP
          by_cases c2 : j = i
          · subst c2
            by_cases c4 : r = 4
            · subst c4; simp [shapeT, c, hv2]
            · by_cases c7 : r = 7
              · subst c7; simp [shapeT]
              · by_cases c8 : r = 8
                · subst c8; simp [shapeT, c]
                · simp [c4, c7, c8]
          · have e : (j < i + 1) = (j < i) := by apply propext; omega
            simp [c2, e]
    refine c_shapeBehind hT' hi3 (by rw [u5]; exact (hv.1 i hi3).1) (by rw [u5]; exact (hv.1 i hi3).2) (fun j hj e => cont _ ?_) (fun q => cont _ ?_)
    · rw [e, if_neg (neg1_ne (by have : j < t.1 2 := hj; omega)), nI_clamp (by have : j < t.1 2 := hj; omega)]
      unfold shB
      rw [u4, u5, u1]
    · rcases hl i hi3 with c | ⟨j, h1, h2⟩
      · rw [if_pos c, u4]
      · exact absurd h2 (q j h1)
theorem l_sh1 {b : Nat × Nat} {Q : Option Value → HP → Prop} {A : Nat → Prop} (hA : ∀ x, a ≤ x → x < a + 9 → A x) (hA4 : A (n + 4)) (hA0 : ∀ x, A x → x = n + 4 ∨ (a ≤ x ∧ x < a + 9)) (hd : n + 6 ≤ a ∨ a + 9 ≤ n) (hG : NgS h n) (hT : TownIs h a t) (hl : LOK t l) (hv : DivOK t l) (ho : ∀ j, j < t.1 2 → hI h (n + 2) j = bitsT l (nI j) (t.1 3)) (hl3 : ∀ i, i < t.1 3 → hI h (n + 3) i = l i) (hQ : ∀ h', Fr A h h' → TownIs h' a (shapeP t l (t.1 3) (t.1 2)) → Q none h') : ∀ k i h', i + k = t.1 2 → Fr (fun x => x = n + 4) h h' → (∀ j, j < i → hI h' (n + 4) j = hoB t j (onT l j)) → Sat g mX4_shapeAll (d + 2) b Q 2 [.ref n, .ref a, .int (nI i)] [] h' := by
  have hB := hT.2.1
  unfold TB at hB
  intro k
  induction k with
  | zero =>
    intro i h' hi p hr
    have hT' := hT.fr p (fun x h1 h2 => by omega)
    have e2 := hT'.2.2.1 2 (by omega)
    have : i = t.1 2 := by omega
    subst this
    refine vX4_shapeAll_2 n a _ h' ⟨hT'.1.1, fun _ => l_sh2 hA hd hG hT.2.1 hl hv hQ (t.1 3) 0 h' (by omega) (p.wd (fun x hx => by rw [hx]; exact hA4)) hr (fun i hi => by rw [(p.2.2 (n + 3) (by omega)).1]; exact hl3 i hi) (hT'.congr (fun _ _ => rfl) (fun r j _ => by simp [shapeP])), fun q => absurd (by rw [e2]; exact nI_le (Nat.le_refl _) (by omega)) q⟩
  | succ k ih =>
    intro i h' hi p hr
    have hT' := hT.fr p (fun x h1 h2 => by omega)
    have e2 := hT'.2.2.1 2 (by omega)
    have hi2 : i < t.1 2 := by omega
    obtain ⟨k0, -⟩ := hT'.1
    obtain ⟨m0, ⟨s0, s1, s2, s3, s4⟩, ⟨m1, m2, m3, m4, m5⟩, q1, q2, q3, q4, q5⟩ := hG.to p.K p.N p.2.1
    have key := vX4_shapeAll_2 (g := g) (d := d + 1) (b := b) (Q := Q) n a (nI i) h'
    rw [nI_clamp (by omega), nI_1, e2] at key
    refine key ⟨k0, fun q => absurd q (nI_ge (a := i) (b := t.1 2) (by omega) (by omega)), fun _ => ⟨fun q => absurd q (nI_ge (a := i) (b := 5) (by omega) (by omega)), fun _ => ⟨m0, _, s3, m0, _, s1, m2, vin (by omega) q2 (by omega), k0, ?_⟩⟩⟩
    have eo : hI h' (n + 2) i = bitsT l (nI i) (t.1 3) := by rw [(p.2.2 (n + 2) (by omega)).1]; exact ho i hi2
    rw [eo]
    obtain ⟨⟨d1, d2⟩, d3⟩ := hv.2 i hi2
    refine c_hollowBehind (f := onT l i) hT' hi2 d1 d2 (fun i2 hi3 => ?_) d3 ⟨m4, vin (by omega) q4 (by omega), ?_⟩
    · rw [bitsT_tst (by omega) hi3]
      simp [onT]
    · refine ih (i + 1) _ (by omega) (p.tr (Fr.stI rfl)) (fun j hj => ?_)
      show up2 (hI h') (n + 4) i _ (n + 4) j = _
      by_cases c : j = i
      · subst c; rw [up2_eq]
      · rw [up2_ne _ _ (by omega)]
        exact hr j (by omega)
theorem c_shapeAll {Q : HP → Prop} (hd : n + 6 ≤ a ∨ a + 9 ≤ n) (hG : NgS h n) (hT : TownIs h a t) (hl : LOK t l) (hv : DivOK t l) (ho : ∀ j, j < t.1 2 → hI h (n + 2) j = bitsT l (nI j) (t.1 3)) (hl3 : ∀ i, i < t.1 3 → hI h (n + 3) i = l i) (hQ : ∀ h', Fr (fun x => x = n + 4 ∨ (a ≤ x ∧ x < a + 9)) h h' → TownIs h' a (shapeT t l) → Q h') : CallV g mX4_shapeAll (d + 2) (0, 0) [.ref n, .ref a] h Q := by
  refine vX4_shapeAll_0 n a h (l_sh1 (Q := fun r h' => match r with
      | none => Q h'
      | _ => False) (A := fun x => x = n + 4 ∨ (a ≤ x ∧ x < a + 9)) (fun x h1 h2 => Or.inr ⟨h1, h2⟩) (Or.inl rfl) (fun x hx => hx) hd hG hT hl hv ho hl3 (fun h' p hT' => hQ h' p (hT'.congr (fun _ _ => rfl) (fun r j hr => ?_))) (t.1 2) 0 h (by omega) (Fr.rf h) (fun j hj => by omega))
  show (shapeT t l).2 r j = if _ then _ else _
  have hr : (1 ≤ r ∧ r ≤ 3 ∧ j < t.1 2) ∨ (4 ≤ r ∧ r ≤ 8 ∧ j < t.1 3) := hr
  split
  · rfl
  · next c =>
    have c1 : ¬ r = 1 := fun e => c (Or.inr ⟨e, by omega⟩)
    have c4 : ¬ r = 4 := fun e => c (Or.inl ⟨Or.inl e, by omega⟩)
    have c7 : ¬ r = 7 := fun e => c (Or.inl ⟨Or.inr (Or.inl e), by omega⟩)
    have c8 : ¬ r = 8 := fun e => c (Or.inl ⟨Or.inr (Or.inr e), by omega⟩)
    rcases (show r = 2 ∨ r = 3 ∨ r = 5 ∨ r = 6 by omega) with rfl | rfl | rfl | rfl <;> rfl
end SHAPE
