/-! Nights.pass: a NIGHT -/
theorem bitsT_congr {f f' : Nat → Int32} {x : Int32} : ∀ n, (∀ i, i < n → f i = f' i) → bitsT f x n = bitsT f' x n
  | 0, _ => rfl
  | n + 1, h => by
    unfold bitsT
    rw [bitsT_congr n (fun i hi => h i (by omega)), h n (by omega)]
theorem cntL_congr {f f' : Nat → Int32} : ∀ n, (∀ i, i < n → f i = f' i) → cntL f n = cntL f' n
  | 0, _ => rfl
  | n + 1, h => by
    unfold cntL
    rw [cntL_congr n (fun i hi => h i (by omega)), h n (by omega)]
theorem cntL_s (l : Nat → Int32) (n : Nat) : cntL l (n + 1) = if l n = -1 then cntL l n else cntL l n + 1 := rfl
theorem bitsT_s (f : Nat → Int32) (x : Int32) (n : Nat) : bitsT f x (n + 1) = if f n = x then bitsT f x n ||| (1 <<< (nI n &&& 31)) else bitsT f x n := rfl
theorem up1_lt {α : Type} {f : Nat → α} {q i : Nat} {x : α} (h : i < q) : up1 f q x i = f i := by simp only [up1]; rw [if_neg (by omega)]
theorem up1_at {α : Type} {f : Nat → α} {q : Nat} {x : α} : up1 f q x q = x := by simp [up1]
theorem lie_ok {t : Tw} {ρ : Option Rl} {hd : Hd} (hb2 : t.1 2 ≤ 5) : ∀ q, (∀ i, i < q → (lieS t ρ hd q).1 i = -1 ∨ ∃ j, j < t.1 2 ∧ (lieS t ρ hd q).1 i = nI j) ∧ ∀ j, (lieS t ρ hd q).2 j ≤ q
  | 0 => ⟨fun i h => by omega, fun j => by simp [lieS]⟩
  | q + 1 => by
    obtain ⟨h1, h2⟩ := lie_ok (ρ := ρ) (hd := hd) hb2 q
    by_cases c : mayT t (lieS t ρ hd q).2 (goT t ρ hd (lieS t ρ hd q).2 q)
    · rw [lieS_y c]
      refine ⟨fun i hi => ?_, fun j => ?_⟩
      · dsimp only
        by_cases e : i = q
        · subst e
          rw [up1_at]
          obtain ⟨j, q1, q2, -⟩ := (mayT_iff hb2).mp c
          exact Or.inr ⟨j, q1, q2⟩
        · rw [up1_lt (by omega)]
          exact h1 i (by omega)
      · simp only [up1]
        have := h2 (goT t ρ hd (lieS t ρ hd q).2 q).toNatClampNeg
        have := h2 j
        split <;> omega
    · rw [lieS_n c]
      refine ⟨fun i hi => ?_, fun j => ?_⟩
      · dsimp only
        by_cases e : i = q
        · subst e
          rw [up1_at]
          exact Or.inl rfl
        · rw [up1_lt (by omega)]
          exact h1 i (by omega)
      · have := h2 j
        simp only
        omega
def HdIs (h : HP) (r : Option Nat) (n a : Nat) (hd : Hd) : Prop := match r with
  | none => ∀ i, hd i = none
  | some y => hK h y = 21 ∧ hN h y = 6 ∧ (y < n ∨ n + 6 ≤ y) ∧ (y < a ∨ a + 9 ≤ y) ∧ ∀ i, i < 6 → (hI h y i = -2 ∧ hd i = none) ∨ (¬ hI h y i = -2 ∧ hd i = some (hI h y i))
def RlIs (g : GT) (d n a : Nat) (t : Tw) (h : HP) (r : Option Nat) (ρ : Option Rl) : Prop := match r, ρ with
  | none, none => True
  | some y, some w => ∀ (h' : HP) (q : Nat) (oc : Nat → Nat), Fr (fun x => n ≤ x ∧ x < n + 6) h h' → q < t.1 3 → (∀ j, j < t.1 2 → hI h' (n + 1) j = nI (oc j)) → (∀ j, oc j ≤ 6) → WorthOK g d n a y q t oc (worthT t (some w) oc q) h'
  | _, _ => False
/-- how it stands, as q LODGERS have lain down -/
def PI (n : Nat) (t : Tw) (ρ : Option Rl) (hd : Hd) (h h' : HP) (q : Nat) : Prop := Fr (fun x => n ≤ x ∧ x < n + 6) h h' ∧ (∀ j, j < 5 → hI h' (n + 1) j = nI ((lieS t ρ hd q).2 j)) ∧ (∀ j, j < 5 → hI h' (n + 2) j = bitsT (lieS t ρ hd q).1 (nI j) q) ∧ ∀ i, i < q → hI h' (n + 3) i = (lieS t ρ hd q).1 i
section PASS
variable {g : GT} {d : Nat} {a n : Nat} {h : HP} {t : Tw} {ρ : Option Rl} {hd : Hd}
theorem l_106 {b : Nat × Nat} {Q : Option Value → HP → Prop} {r2 r3 : Option Nat} {h' : HP} {q : Nat} (hG : NgS h n) (hT : TownIs h a t) (hda : n + 6 ≤ a ∨ a + 9 ≤ n) (hq : q < t.1 3) (p : PI n t ρ hd h h' q) (ih : ∀ h'', PI n t ρ hd h h'' (q + 1) → Sat g mX4_pass (d + 3) b Q 37 [.ref n, .ref a, ov r2, ov r3, .int (nI (cntL (lieS t ρ hd (q + 1)).1 (q + 1))), .int (nI (q + 1)), .double 0] [] h'') : Sat g mX4_pass (d + 3) b Q 106 [.ref n, .ref a, ov r2, ov r3, .int (nI (cntL (lieS t ρ hd q).1 q)), .int (nI q), .int (goT t ρ hd (lieS t ρ hd q).2 q)] [] h' := by
  have hB := hT.2.1
  unfold TB at hB
  obtain ⟨pf, p1, p2, p3⟩ := p
  obtain ⟨m0, ⟨s0, s1, s2, s3, s4⟩, ⟨m1, m2, m3, m4, m5⟩, q1, q2, q3, q4, q5⟩ := hG.to pf.K pf.N pf.2.1
  have hob : ∀ j, (lieS t ρ hd q).2 j ≤ 6 := fun j => Nat.le_trans ((lie_ok (by omega) q).2 j) (by omega)
  have key := vX4_pass_106 (g := g) (d := d + 2) (b := b) (Q := Q) n a r2 r3 (nI (cntL (lieS t ρ hd q).1 q)) (nI q) (goT t ρ hd (lieS t ρ hd q).2 q) h'
  rw [nI_clamp (n := q) (by omega), nI_1, nI_1] at key
  have pf1 : Fr (fun x => n ≤ x ∧ x < n + 6) h (setI h' (n + 3) q (-1)) := pf.tr (Fr.stI ⟨by omega, by omega⟩)
  have hT1 : TownIs (setI h' (n + 3) q (-1)) a t := hT.fr pf1 (fun x h1 h2 => by omega)
  have hG1 : NgS (setI h' (n + 3) q (-1)) n := hG.to pf1.K pf1.N pf1.2.1
  refine key ⟨m0, _, s2, m3, vin (by omega) q3 (by omega), m0, c_hasRoom hG1 hT1 (fun j hj => ?_) hob (fun w => ?_) (fun w => ?_)⟩
  · show up2 _ _ _ _ _ _ = _
    rw [up2_row _ _ (by omega)]
    exact p1 j (by omega)
  · obtain ⟨j0, hj0, ex, hoc⟩ := (mayT_iff (by omega)).mp w
    have hlie := lieS_y w
    generalize hx : goT t ρ hd (lieS t ρ hd q).2 q = x at *
    subst ex
    rw [nI_clamp (n := j0) (by omega)] at hlie ⊢
    have vj : ∀ {x : Nat}, hN h' x = 5 → vp_in (nI j0) (hN h' x) := fun e => vin (by omega) e (by omega)
    refine ⟨fun c => absurd c (by decide), fun _ => ⟨m0, _, s2, m3, vin (by omega) q3 (by omega), m0, _, s0, m1, vj q1, m1, vj q1, fun h6 e6 => ?_⟩⟩
    subst e6
    refine ⟨m0, _, s1, m2, vj q2, m2, vj q2, ?_⟩
    have e1 : hI (setI (setI h' (n + 3) q (-1)) (n + 3) q (nI j0)) (n + 1) j0 = nI ((lieS t ρ hd q).2 j0) := by
      show up2 (up2 _ _ _ _) _ _ _ _ _ = _
      rw [up2_row _ _ (by omega), up2_row _ _ (by omega)]
      exact p1 j0 (by omega)
    rw [e1, nI_1]
    have e2 : hI (setI (setI (setI h' (n + 3) q (-1)) (n + 3) q (nI j0)) (n + 1) j0 (nI ((lieS t ρ hd q).2 j0 + 1))) (n + 2) j0 = bitsT (lieS t ρ hd q).1 (nI j0) q := by
      show up2 (up2 (up2 _ _ _ _) _ _ _) _ _ _ _ _ = _
      rw [up2_row _ _ (by omega), up2_row _ _ (by omega), up2_row _ _ (by omega)]
      exact p2 j0 (by omega)
    rw [e2]
    have ecnt : cntL (lieS t ρ hd (q + 1)).1 (q + 1) = cntL (lieS t ρ hd q).1 q + 1 := by
      rw [hlie]
      show cntL (up1 _ _ _) (q + 1) = _
      rw [cntL_s, up1_at, if_neg (neg1_ne (by omega)), cntL_congr q (fun i hi => up1_lt hi)]
    rw [← ecnt]
    refine ih _ ⟨(((pf1.tr (Fr.stI ⟨by omega, by omega⟩)).tr (Fr.stI ⟨by omega, by omega⟩)).tr (Fr.stI ⟨by omega, by omega⟩)), fun j hj => ?_, fun j hj => ?_, fun i hi => ?_⟩
    · rw [hlie]
      show up2 (up2 (up2 (up2 _ _ _ _) _ _ _) _ _ _) _ _ _ _ _ = nI (up1 _ _ _ _)
      rw [up2_row _ _ (by omega)]
      by_cases c : j = j0
      · subst c; rw [up2_eq, up1_at]
      · rw [up2_ne _ _ (by omega), up2_row _ _ (by omega), up2_row _ _ (by omega)]
        simp only [up1, if_neg c]
        exact p1 j hj
    · rw [hlie]
      show up2 (up2 (up2 (up2 _ _ _ _) _ _ _) _ _ _) _ _ _ _ _ = bitsT (up1 _ _ _) _ _
      rw [bitsT_s, up1_at, bitsT_congr q (fun i hi => up1_lt hi)]
      by_cases c : j = j0
      · subst c; rw [up2_eq, if_pos rfl]
      · rw [up2_ne _ _ (by omega), up2_row _ _ (by omega), up2_row _ _ (by omega), up2_row _ _ (by omega), if_neg (fun e => c ((nI_eq (by omega) (by omega)).mp e).symm)]
        exact p2 j hj
    · rw [hlie]
      show up2 (up2 (up2 (up2 _ _ _ _) _ _ _) _ _ _) _ _ _ _ _ = up1 _ _ _ _
      rw [up2_row _ _ (by omega), up2_row _ _ (by omega)]
      by_cases c : i = q
      · subst c; rw [up2_eq, up1_at]
      · rw [up2_ne _ _ (by omega), up2_ne _ _ (by omega), up1_lt (by omega)]
        exact p3 i (by omega)
  · have hlie := lieS_n w
    refine ⟨fun _ => ?_, fun c => absurd rfl c⟩
    have ecnt : cntL (lieS t ρ hd (q + 1)).1 (q + 1) = cntL (lieS t ρ hd q).1 q := by
      rw [hlie]
      show cntL (up1 _ _ _) (q + 1) = _
      rw [cntL_s, up1_at, if_pos rfl, cntL_congr q (fun i hi => up1_lt hi)]
    rw [← ecnt]
    refine ih _ ⟨pf1, fun j hj => ?_, fun j hj => ?_, fun i hi => ?_⟩
    · rw [hlie]
      show up2 _ _ _ _ _ _ = _
      rw [up2_row _ _ (by omega)]
      exact p1 j hj
    · rw [hlie]
      show up2 _ _ _ _ _ _ = bitsT (up1 _ _ _) _ _
      rw [bitsT_s, up1_at, if_neg (fun e => neg1_ne (j := j) (by omega) e.symm), bitsT_congr q (fun i hi => up1_lt hi), up2_row _ _ (by omega)]
      exact p2 j hj
    · rw [hlie]
      show up2 _ _ _ _ _ _ = up1 _ _ _ _
      by_cases c : i = q
      · subst c; rw [up2_eq, up1_at]
      · rw [up2_ne _ _ (by omega), up1_lt (by omega)]
        exact p3 i (by omega)
def CardOK (t : Tw) : Prop := ∀ r j, (r = 1 ∨ r = 2) → j < t.1 2 → 0 ≤ t.2 r j + 50
theorem TownIs.next {h : HP} {t : Tw} (hT : TownIs h a t) (hb : t.1 4 + 1 ≤ 5000) : TownIs (setI h a 4 (hI h a 4 + 1)) a (nextT t) := by
  have e4 := hT.2.2.1 4 (by omega)
  rw [e4, nI_1]
  have hB := hT.2.1
  unfold TB at hB
  refine ⟨hT.1.to rfl rfl rfl, ?_, fun k hk => ?_, fun r j hr => ?_⟩
  · show TB (up1 t.1 4 (t.1 4 + 1), t.2)
    unfold TB
    simp only [up1]
    simp
    omega
  · show up2 (hI h) a 4 _ a k = nI (up1 t.1 4 (t.1 4 + 1) k)
    by_cases c : k = 4
    · subst c; rw [up2_eq, up1_at]
    · rw [up2_ne _ _ (by omega)]
      simp only [up1, if_neg c]
      exact hT.2.2.1 k hk
  · have hr' : rowOK t r j := by
      unfold rowOK nextT at hr
      simp [up1] at hr
      unfold rowOK
      omega
    show up2 (hI h) a 4 _ (a + r) j = t.2 r j
    rw [up2_row _ _ (by unfold rowOK at hr'; omega)]
    exact hT.2.2.2 r j hr'
theorem l_pass {b : Nat × Nat} {Q : Option Value → HP → Prop} {r2 r3 : Option Nat} (hG : NgS h n) (hT : TownIs h a t) (hda : n + 6 ≤ a ∨ a + 9 ≤ n) (hh : HdIs h r3 n a hd) (hr : RlIs g (d + 1) n a t h r2 ρ) (hv : DivOK t (lieS t ρ hd (t.1 3)).1) (hc : CardOK (shapeT t (lieS t ρ hd (t.1 3)).1)) (hb : t.1 4 + 1 ≤ 5000) (hQ : ∀ h', Fr (fun x => (n ≤ x ∧ x < n + 6) ∨ (a ≤ x ∧ x < a + 9)) h h' → TownIs h' a (nightT t ρ hd) → Q (some (.int (nI (cntL (lieS t ρ hd (t.1 3)).1 (t.1 3))))) h') : ∀ k q h', q + k = t.1 3 → PI n t ρ hd h h' q → Sat g mX4_pass (d + 3) b Q 37 [.ref n, .ref a, ov r2, ov r3, .int (nI (cntL (lieS t ρ hd q).1 q)), .int (nI q), .double 0] [] h' := by
  have hB := hT.2.1
  unfold TB at hB
  intro k
  induction k with
  | zero =>
    intro q h' hq p
    have hT' := hT.fr p.1 (fun x h1 h2 => by omega)
    have hG' := hG.to p.1.K p.1.N p.1.2.1
    have e3 := hT'.2.2.1 3 (by omega)
    have : q = t.1 3 := by omega
    subst this
    refine vX4_pass_37 n a r2 r3 _ _ h' ⟨hT'.1.1, fun _ => ⟨hG'.1, c_shapeAll hda hG' hT' (lie_ok (by omega) _).1 hv (fun j hj => p.2.2.1 j (by omega)) p.2.2.2 (fun h1 f1 hT1 => ⟨hT1.1.1, ?_⟩)⟩, fun c => absurd (by rw [e3]; exact nI_le (Nat.le_refl _) (by omega)) c⟩
    have f01 : Fr (fun x => (n ≤ x ∧ x < n + 6) ∨ (a ≤ x ∧ x < a + 9)) h h1 := (p.1.wd (fun x hx => Or.inl hx)).tr (f1.wd (fun x hx => by omega))
    refine c_cardAllIfDue hT1 hc (fun du h2 o2 hT2 => ?_) (fun du => ?_)
    · refine ⟨hT2.1.1, hT2.1.1, hQ _ ((f01.tr (o2.fr.wd (fun x hx => Or.inr hx))).tr (Fr.stI (Or.inr ⟨by omega, by omega⟩))) ?_⟩
      have e : nightT t ρ hd = nextT (cardI (shapeT t (lieS t ρ hd (t.1 3)).1) ((shapeT t (lieS t ρ hd (t.1 3)).1).1 2)) := by
        unfold nightT cardT
        rw [if_pos du]
      rw [e]
      exact hT2.next hb
    · refine ⟨hT1.1.1, hT1.1.1, hQ _ (f01.tr (Fr.stI (Or.inr ⟨by omega, by omega⟩))) ?_⟩
      have e : nightT t ρ hd = nextT (shapeT t (lieS t ρ hd (t.1 3)).1) := by
        unfold nightT cardT
        rw [if_neg du]
      rw [e]
      exact hT1.next hb
  | succ k ih =>
    intro q h' hq p
    have hT' := hT.fr p.1 (fun x h1 h2 => by omega)
    have hG' := hG.to p.1.K p.1.N p.1.2.1
    have e3 := hT'.2.2.1 3 (by omega)
    have hob : ∀ j, (lieS t ρ hd q).2 j ≤ 6 := fun j => Nat.le_trans ((lie_ok (by omega) q).2 j) (by omega)
    have fin : ∀ h'', PI n t ρ hd h h'' q → Sat g mX4_pass (d + 3) b Q 106 [.ref n, .ref a, ov r2, ov r3, .int (nI (cntL (lieS t ρ hd q).1 q)), .int (nI q), .int (goT t ρ hd (lieS t ρ hd q).2 q)] [] h'' := fun h'' p'' => l_106 hG hT hda (by omega) p'' (fun h3 p3 => ih (q + 1) h3 (by omega) p3)
    have pJ : ∀ h'', Fr (fun x => x = n + 5) h' h'' → PI n t ρ hd h h'' q := fun h'' f => ⟨p.1.tr (f.wd (fun x hx => by omega)), fun j hj => by rw [(f.2.2 (n + 1) (by omega)).1]; exact p.2.1 j hj, fun j hj => by rw [(f.2.2 (n + 2) (by omega)).1]; exact p.2.2.1 j hj, fun i hi => by rw [(f.2.2 (n + 3) (by omega)).1]; exact p.2.2.2 i hi⟩
    have go0 : hd q = none → goT t ρ hd (lieS t ρ hd q).2 q = pickT t ρ (lieS t ρ hd q).2 q := fun e => by unfold goT; rw [e]
    have key := vX4_pass_37 (g := g) (d := d + 2) (b := b) (Q := Q) n a r2 r3 (nI (cntL (lieS t ρ hd q).1 q)) (nI q) h'
    rw [nI_clamp (n := q) (by omega), e3] at key
    refine key ⟨hT'.1.1, fun c => absurd c (nI_ge (a := q) (b := t.1 3) (by omega) (by omega)), fun _ => ⟨fun c => absurd c (nI_ge (a := q) (b := 6) (by omega) (by omega)), fun _ => ?_⟩⟩
    have byR : hd q = none → ∀ r3' : Option Nat, r3' = r3 → ifn r2 (hK h' n = 5 ∧ CallI g mX4_byHabit (d + 2) [Value.ref n, .ref a, .int (nI q)] h' (fun i8 h7 => Sat g mX4_pass (d + 3) b Q 106 [Value.ref n, .ref a, .null, ov r3', .int (nI (cntL (lieS t ρ hd q).1 q)), .int (nI q), .int i8] [] h7)) (fun y6 => hK h' n = 5 ∧ CallI g mX4_byRule (d + 2) [Value.ref n, .ref a, .ref y6, .int (nI q)] h' (fun i10 h9 => Sat g mX4_pass (d + 3) b Q 106 [Value.ref n, .ref a, .ref y6, ov r3', .int (nI (cntL (lieS t ρ hd q).1 q)), .int (nI q), .int i10] [] h9)) := by
      intro e r3' er
      subst er
      have g0 := go0 e
      cases r2 with
      | none =>
        cases ρ with
        | none =>
          refine ⟨hG'.1, c_byHabit hG' hT' (fun j hj => p.2.1 j (by omega)) hob (by omega) ?_⟩
          have := fin h' p
          rw [g0] at this
          exact this
        | some w => exact absurd hr id
      | some y =>
        cases ρ with
        | none => exact absurd hr id
        | some w =>
          refine ⟨hG'.1, c_byRule (w := w) hG' hT' hda (fun j hj => p.2.1 j (by omega)) hob (hr h' q _ p.1 (by omega) (fun j hj => p.2.1 j (by omega)) hob) (fun h'' f => ?_)⟩
          have := fin h'' (pJ h'' f)
          rw [g0] at this
          exact this
    cases r3 with
    | none =>
      refine ⟨rfl, ?_⟩
      have := byR (hh q) none rfl
      cases r2 <;> exact this
    | some y =>
      obtain ⟨y1, y2, y3, y4, y5⟩ := hh
      have ky : hK h' y = 21 := by rw [p.1.K]; exact y1
      have ny : hN h' y = 6 := by rw [p.1.N]; exact y2
      have iy : hI h' y q = hI h y q := by rw [(p.1.2.2 y (by omega)).1]
      refine ⟨ky, fun _ => ⟨ky, vin (by omega) ny (by omega), ?_⟩, fun c => absurd (by rw [ny]; exact nI_lt (a := q) (b := 6) (by omega) (by omega)) c⟩
      rw [iy]
      rcases y5 q (by omega) with ⟨z1, z2⟩ | ⟨z1, z2⟩
      · refine ⟨fun _ => ?_, fun c => absurd z1 c⟩
        have := byR z2 (some y) rfl
        cases r2 <;> exact this
      · refine ⟨fun c => absurd c z1, fun _ => ?_⟩
        have := fin h' p
        have ge : goT t ρ hd (lieS t ρ hd q).2 q = hI h y q := by unfold goT; rw [z2]
        rw [ge] at this
        exact this
theorem l_pass0 {b : Nat × Nat} {Q : Option Value → HP → Prop} {r2 r3 : Option Nat} (hG : NgS h n) (fin : ∀ h', PI n t ρ hd h h' 0 → Sat g mX4_pass (d + 3) b Q 37 [.ref n, .ref a, ov r2, ov r3, .int (nI 0), .int (nI 0), .double 0] [] h') : ∀ k i h', i + k = 5 → Fr (fun x => n ≤ x ∧ x < n + 6) h h' → (∀ j, j < i → hI h' (n + 1) j = 0 ∧ hI h' (n + 2) j = 0) → Sat g mX4_pass (d + 3) b Q 3 [.ref n, .ref a, ov r2, ov r3, .int (nI i), .double 0, .double 0] [] h' := by
  intro k
  induction k with
  | zero =>
    intro i h' hi p hz
    have : i = 5 := by omega
    subst this
    exact vX4_pass_3 n a r2 r3 (nI 5) h' ⟨fun _ => fin h' ⟨p, fun j hj => (hz j hj).1, fun j hj => (hz j hj).2, fun i hi => by omega⟩, fun c => absurd (show (5 : Int32) ≤ nI 5 by decide) c⟩
  | succ k ih =>
    intro i h' hi p hz
    obtain ⟨m0, ⟨s0, s1, s2, s3, s4⟩, ⟨m1, m2, m3, m4, m5⟩, q1, q2, q3, q4, q5⟩ := hG.to p.K p.N p.2.1
    have key := vX4_pass_3 (g := g) (d := d + 2) (b := b) (Q := Q) n a r2 r3 (nI i) h'
    rw [nI_clamp (n := i) (by omega), nI_1] at key
    refine key ⟨fun c => absurd c (nI_ge (a := i) (b := 5) (by omega) (by omega)), fun _ => ⟨m0, _, s0, m1, vin (by omega) q1 (by omega), m0, _, s1, m2, vin (by omega) q2 (by omega), ?_⟩⟩
    refine ih (i + 1) _ (by omega) ((p.tr (Fr.stI ⟨by omega, by omega⟩)).tr (Fr.stI ⟨by omega, by omega⟩)) (fun j hj => ⟨?_, ?_⟩)
    · show up2 (up2 _ _ _ _) _ _ _ _ _ = _
      rw [up2_row _ _ (by omega)]
      by_cases c : j = i
      · subst c; rw [up2_eq]
      · rw [up2_ne _ _ (by omega)]; exact (hz j (by omega)).1
    · show up2 (up2 _ _ _ _) _ _ _ _ _ = _
      by_cases c : j = i
      · subst c; rw [up2_eq]
      · rw [up2_ne _ _ (by omega), up2_row _ _ (by omega)]; exact (hz j (by omega)).2
theorem c_pass {Q : Int32 → HP → Prop} {r2 r3 : Option Nat} (hG : NgS h n) (hT : TownIs h a t) (hda : n + 6 ≤ a ∨ a + 9 ≤ n) (hh : HdIs h r3 n a hd) (hr : RlIs g (d + 1) n a t h r2 ρ) (hv : DivOK t (lieS t ρ hd (t.1 3)).1) (hc : CardOK (shapeT t (lieS t ρ hd (t.1 3)).1)) (hb : t.1 4 + 1 ≤ 5000) (hQ : ∀ h', Fr (fun x => (n ≤ x ∧ x < n + 6) ∨ (a ≤ x ∧ x < a + 9)) h h' → TownIs h' a (nightT t ρ hd) → Q (nI (cntL (lieS t ρ hd (t.1 3)).1 (t.1 3))) h') : CallI g mX4_pass (d + 3) [.ref n, .ref a, ov r2, ov r3] h Q := by
  have key := vX4_pass_0 (g := g) (d := d + 2) (b := (0, 0)) (Q := fun r h' => match r with
    | some (.int x) => Q x h'
    | _ => False) n a r2 r3 h (l_pass0 (ρ := ρ) (hd := hd) (t := t) hG (fun h' p => l_pass hG hT hda hh hr hv hc hb hQ (t.1 3) 0 h' (by omega) p) 5 0 h (by omega) (Fr.rf h) (fun j hj => by omega))
  cases r2 <;> cases r3 <;> exact key
end PASS
