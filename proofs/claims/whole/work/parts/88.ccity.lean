/-! a CITY's text, purely; how the class reads it -/
def numP (T : Nat → Nat) (n a b p : Nat) : Nat ⊕ (Nat × Nat) := if ¬ (48 ≤ at_ T n (bl T n p) ∧ at_ T n (bl T n p) ≤ 57) then .inl (1 + 8 * bl T n p + 0) else if (dgN T n (bl T n p)).1 - bl T n p ≤ 5 ∧ a ≤ (dgN T n (bl T n p)).2 ∧ (dgN T n (bl T n p)).2 ≤ b then .inr (dgN T n (bl T n p)) else .inl (1 + 8 * bl T n p + 1)
def tCity (t : Tw) (a b : Nat) : Tw := (up1 (up1 t.1 0 a) 1 b, t.2)
def tBed (t : Tw) (a b c : Nat) : Tw := (up1 t.1 2 (t.1 2 + 1), up2 (up2 (up2 t.2 1 (t.1 2) (nI a)) 2 (t.1 2) (nI b)) 3 (t.1 2) (nI c))
def tLod (t : Tw) (a b c : Nat) : Tw := (up1 t.1 3 (t.1 3 + 1), up2 (up2 (up2 (up2 (up2 t.2 4 (t.1 3) (nI a)) 5 (t.1 3) (nI b)) 6 (t.1 3) (nI c)) 7 (t.1 3) (-1)) 8 (t.1 3) 0)
def fitC (k w : Nat) (t : Tw) : Bool := decide (k < 40 ∧ ((w = 0 ∧ k = 0) ∨ (¬ w = 0 ∧ ¬ k = 0)) ∧ ¬ (w = 1 ∧ 5 ≤ t.1 2) ∧ ¬ (w = 2 ∧ 6 ≤ t.1 3))
def bd2 (T : Nat → Nat) (n a b p : Nat) (F : Nat → Nat → Nat ⊕ (Nat × Tw)) : Nat ⊕ (Nat × Tw) := match numP T n a b p with
  | .inl f => .inl f
  | .inr (p', v) => F p' v
def wrdC (T : Nat → Nat) (n w p : Nat) (t : Tw) : Nat ⊕ (Nat × Tw) :=
  if w = 0 then bd2 T n 1 60 p (fun p a => bd2 T n 1 6 p (fun p b => .inr (p, tCity t a b)))
  else if w = 1 then bd2 T n 0 99 p (fun p a => bd2 T n 0 99 p (fun p b => bd2 T n 1 9 p (fun p c => .inr (p, tBed t a b c))))
  else bd2 T n 0 99 p (fun p a => bd2 T n 1 9 p (fun p b => bd2 T n 0 99 p (fun p c => .inr (p, tLod t a b c))))
def clauC (T : Nat → Nat) (n k p : Nat) (t : Tw) : Nat ⊕ (Nat × Tw) := match fW T n (bl T n p) [21, 7, 6] 0 with
  | none => .inl (1 + 8 * bl T n p + 0)
  | some (w, p1) => if fitC k w t = true then wrdC T n w p1 t else .inl (1 + 8 * bl T n p + 4)
/-- j CLAUSES more may come behind the k-th -/
def cityC (T : Nat → Nat) (n : Nat) : Nat → Nat → Nat → Tw → Nat ⊕ Tw
  | 0, k, p, t => match clauC T n k p t with
    | .inl f => .inl f
    | .inr _ => .inl 0
  | j + 1, k, p, t => match clauC T n k p t with
    | .inl f => .inl f
    | .inr (p', t') => if at_ T n (bl T n p') = 1000 then .inr t' else if at_ T n (bl T n p') = 59 then cityC T n j (k + 1) (bl T n p' + 1) t' else .inl (1 + 8 * bl T n p' + 0)
def tw0 : Tw := (fun _ => 0, fun _ _ => 0)
/-- what holds of a city that is being told -/
def TCo (k : Nat) (t : Tw) : Prop := TB t ∧ t.1 4 = 0 ∧ (t.1 0 = 0 ↔ k = 0) ∧ (k = 0 → t.1 2 = 0 ∧ t.1 3 = 0) ∧ (∀ j, j < t.1 2 → RG (t.2 1 j) ∧ RG (t.2 2 j) ∧ R9 (t.2 3 j)) ∧ ∀ i, i < t.1 3 → RG (t.2 4 i) ∧ R9 (t.2 5 i) ∧ RG (t.2 6 i) ∧ t.2 7 i = -1 ∧ t.2 8 i = 0
theorem TCo.tr {k : Nat} {t : Tw} (h : TCo k t) : TR t := by
  obtain ⟨h1, h2, h3, h4, h5, h6⟩ := h
  refine ⟨fun z => h4 (h3.mp z), h5, fun i hi => ?_⟩
  obtain ⟨q1, q2, q3, q4, q5⟩ := h6 i hi
  exact ⟨q1, q2, q3, Or.inl q4, 0, Nat.zero_le _, q5⟩
theorem num_rg {T : Nat → Nat} {n a b p p' v : Nat} (hp : p ≤ n) (h : numP T n a b p = .inr (p', v)) : p ≤ p' ∧ p' ≤ n ∧ a ≤ v ∧ v ≤ b := by
  obtain ⟨b1, b2, b3⟩ := bl_rg (T := T) hp
  unfold numP at h
  by_cases c : ¬ (48 ≤ at_ T n (bl T n p) ∧ at_ T n (bl T n p) ≤ 57)
  · rw [if_pos c] at h; exact absurd h (by simp)
  · rw [if_neg c] at h
    by_cases c2 : (dgN T n (bl T n p)).1 - bl T n p ≤ 5 ∧ a ≤ (dgN T n (bl T n p)).2 ∧ (dgN T n (bl T n p)).2 ≤ b
    · rw [if_pos c2] at h
      have e := Sum.inr.inj h
      obtain ⟨g1, g2, g3⟩ := dg_rg (T := T) (n := n) (p := bl T n p) b2
      rw [e] at g1 g2 g3 c2
      exact ⟨Nat.le_trans b1 g1, g2, c2.2⟩
    · rw [if_neg c2] at h; exact absurd h (by simp)
theorem TCo.city {t : Tw} {a b : Nat} (h : TCo 0 t) (ha : 1 ≤ a ∧ a ≤ 60) (hb : 1 ≤ b ∧ b ≤ 6) : TCo 1 (tCity t a b) := by
  obtain ⟨h1, h2, h3, h4, h5, h6⟩ := h
  obtain ⟨q2, q3⟩ := h4 rfl
  unfold TB at h1
  have e0 : (tCity t a b).1 0 = a := rfl
  refine ⟨⟨by rw [e0]; omega, hb.2, h1.2.2⟩, h2, ⟨fun z => by rw [e0] at z; omega, fun z => by omega⟩, fun z => by omega, fun j hj => ?_, fun i hi => ?_⟩
  · have hj : j < t.1 2 := hj
    omega
  · have hi : i < t.1 3 := hi
    omega
theorem TCo.bed {t : Tw} {k a b c : Nat} (h : TCo k t) (hk : ¬ k = 0) (h5 : t.1 2 < 5) (ha : a ≤ 99) (hb : b ≤ 99) (hc : 1 ≤ c ∧ c ≤ 9) : TCo (k + 1) (tBed t a b c) := by
  obtain ⟨h1, h2, h3, h4, h5', h6⟩ := h
  unfold TB at h1
  refine ⟨⟨h1.1, h1.2.1, by show t.1 2 + 1 ≤ 5; omega, h1.2.2.2⟩, h2, ⟨fun z => absurd (h3.mp z) hk, fun z => by omega⟩, fun z => by omega, fun j hj => ?_, fun i hi => ?_⟩
  · have hj : j < t.1 2 + 1 := hj
    by_cases e : j = t.1 2
    · subst e
      refine ⟨⟨a, ha, ?_⟩, ⟨b, hb, ?_⟩, ⟨c, hc.1, hc.2, ?_⟩⟩
      · show up2 (up2 (up2 t.2 1 (t.1 2) (nI a)) 2 (t.1 2) (nI b)) 3 (t.1 2) (nI c) 1 (t.1 2) = nI a
        rw [up2_ne _ _ (by omega), up2_ne _ _ (by omega), up2_eq]
      · show up2 (up2 (up2 t.2 1 (t.1 2) (nI a)) 2 (t.1 2) (nI b)) 3 (t.1 2) (nI c) 2 (t.1 2) = nI b
        rw [up2_ne _ _ (by omega), up2_eq]
      · exact up2_eq _ _ _ _
    · have := h5' j (by omega)
      show RG (up2 (up2 (up2 t.2 1 (t.1 2) (nI a)) 2 (t.1 2) (nI b)) 3 (t.1 2) (nI c) 1 j) ∧ RG (up2 (up2 (up2 t.2 1 (t.1 2) (nI a)) 2 (t.1 2) (nI b)) 3 (t.1 2) (nI c) 2 j) ∧ R9 (up2 (up2 (up2 t.2 1 (t.1 2) (nI a)) 2 (t.1 2) (nI b)) 3 (t.1 2) (nI c) 3 j)
      rw [up2_ne _ _ (by omega), up2_ne _ _ (by omega), up2_ne _ _ (by omega), up2_ne _ _ (by omega), up2_ne _ _ (by omega), up2_ne _ _ (by omega), up2_ne _ _ (by omega), up2_ne _ _ (by omega), up2_ne _ _ (by omega)]
      exact this
  · have := h6 i hi
    have e : ∀ r, 4 ≤ r → (tBed t a b c).2 r i = t.2 r i := fun r hr => by
      show up2 (up2 (up2 t.2 1 (t.1 2) (nI a)) 2 (t.1 2) (nI b)) 3 (t.1 2) (nI c) r i = t.2 r i
      rw [up2_ne _ _ (by omega), up2_ne _ _ (by omega), up2_ne _ _ (by omega)]
    rw [e 4 (by omega), e 5 (by omega), e 6 (by omega), e 7 (by omega), e 8 (by omega)]
    exact this
theorem tLod_2 {t : Tw} {a b c : Nat} (r i : Nat) : (tLod t a b c).2 r i = if r = 8 ∧ i = t.1 3 then 0 else if r = 7 ∧ i = t.1 3 then -1 else if r = 6 ∧ i = t.1 3 then nI c else if r = 5 ∧ i = t.1 3 then nI b else if r = 4 ∧ i = t.1 3 then nI a else t.2 r i := rfl
theorem TCo.lod {t : Tw} {k a b c : Nat} (h : TCo k t) (hk : ¬ k = 0) (h5 : t.1 3 < 6) (ha : a ≤ 99) (hb : 1 ≤ b ∧ b ≤ 9) (hc : c ≤ 99) : TCo (k + 1) (tLod t a b c) := by
  obtain ⟨h1, h2, h3, h4, h5', h6⟩ := h
  unfold TB at h1
  refine ⟨⟨h1.1, h1.2.1, h1.2.2.1, by show t.1 3 + 1 ≤ 6; omega, h1.2.2.2.2⟩, h2, ⟨fun z => absurd (h3.mp z) hk, fun z => by omega⟩, fun z => by omega, fun j hj => ?_, fun i hi => ?_⟩
  · have := h5' j hj
    have e : ∀ r, r ≤ 3 → (tLod t a b c).2 r j = t.2 r j := fun r hr => by
      rw [tLod_2, if_neg (by omega), if_neg (by omega), if_neg (by omega), if_neg (by omega), if_neg (by omega)]
    rw [e 1 (by omega), e 2 (by omega), e 3 (by omega)]
    exact this
  · have hi : i < t.1 3 + 1 := hi
    by_cases e : i = t.1 3
    · subst e
      refine ⟨⟨a, ha, ?_⟩, ⟨b, hb.1, hb.2, ?_⟩, ⟨c, hc, ?_⟩, ?_, ?_⟩
      · rw [tLod_2, if_neg (by omega), if_neg (by omega), if_neg (by omega), if_neg (by omega), if_pos ⟨rfl, rfl⟩]
      · rw [tLod_2, if_neg (by omega), if_neg (by omega), if_neg (by omega), if_pos ⟨rfl, rfl⟩]
      · rw [tLod_2, if_neg (by omega), if_neg (by omega), if_pos ⟨rfl, rfl⟩]
      · rw [tLod_2, if_neg (by omega), if_pos ⟨rfl, rfl⟩]
      · rw [tLod_2, if_pos ⟨rfl, rfl⟩]
    · have q : ∀ r, (tLod t a b c).2 r i = t.2 r i := fun r => by
        rw [tLod_2, if_neg (by omega), if_neg (by omega), if_neg (by omega), if_neg (by omega), if_neg (by omega)]
      rw [q, q, q, q, q]
      exact h6 i (by omega)
theorem TCo.wrd {T : Nat → Nat} {n k w p p' : Nat} {t t' : Tw} (h : TCo k t) (hp : p ≤ n) (hw : w < 3) (hf : fitC k w t = true) (e : wrdC T n w p t = .inr (p', t')) : TCo (k + 1) t' ∧ p ≤ p' ∧ p' ≤ n := by
  unfold fitC at hf
  rw [decide_eq_true_iff] at hf
  unfold wrdC at e
  by_cases c0 : w = 0
  · rw [if_pos c0] at e
    have k0 : k = 0 := by omega
    subst k0
    unfold bd2 at e
    cases e1 : numP T n 1 60 p with
    | inl f => rw [e1] at e; exact absurd e (by simp)
    | inr q =>
      obtain ⟨p1, a⟩ := q
      rw [e1] at e
      simp only at e
      have r1 := num_rg hp e1
      cases e2 : numP T n 1 6 p1 with
      | inl f => rw [e2] at e; exact absurd e (by simp)
      | inr q =>
        obtain ⟨p2, b⟩ := q
        rw [e2] at e
        simp only at e
        have r2 := num_rg r1.2.1 e2
        have e := Sum.inr.inj e
        obtain ⟨rfl, rfl⟩ := Prod.mk.inj e
        exact ⟨h.city r1.2.2 r2.2.2, by omega, by omega⟩
  · rw [if_neg c0] at e
    have k0 : ¬ k = 0 := by omega
    by_cases c1 : w = 1
    · rw [if_pos c1] at e
      unfold bd2 at e
      cases e1 : numP T n 0 99 p with
      | inl f => rw [e1] at e; exact absurd e (by simp)
      | inr q =>
        obtain ⟨p1, a⟩ := q
        rw [e1] at e
        simp only at e
        have r1 := num_rg hp e1
        cases e2 : numP T n 0 99 p1 with
        | inl f => rw [e2] at e; exact absurd e (by simp)
        | inr q =>
          obtain ⟨p2, b⟩ := q
          rw [e2] at e
          simp only at e
          have r2 := num_rg r1.2.1 e2
          cases e3 : numP T n 1 9 p2 with
          | inl f => rw [e3] at e; exact absurd e (by simp)
          | inr q =>
            obtain ⟨p3, c⟩ := q
            rw [e3] at e
            simp only at e
            have r3 := num_rg r2.2.1 e3
            have e := Sum.inr.inj e
            obtain ⟨rfl, rfl⟩ := Prod.mk.inj e
            exact ⟨h.bed k0 (by omega) r1.2.2.2 r2.2.2.2 r3.2.2, by omega, by omega⟩
    · rw [if_neg c1] at e
      unfold bd2 at e
      cases e1 : numP T n 0 99 p with
      | inl f => rw [e1] at e; exact absurd e (by simp)
      | inr q =>
        obtain ⟨p1, a⟩ := q
        rw [e1] at e
        simp only at e
        have r1 := num_rg hp e1
        cases e2 : numP T n 1 9 p1 with
        | inl f => rw [e2] at e; exact absurd e (by simp)
        | inr q =>
          obtain ⟨p2, b⟩ := q
          rw [e2] at e
          simp only at e
          have r2 := num_rg r1.2.1 e2
          cases e3 : numP T n 0 99 p2 with
          | inl f => rw [e3] at e; exact absurd e (by simp)
          | inr q =>
            obtain ⟨p3, c⟩ := q
            rw [e3] at e
            simp only at e
            have r3 := num_rg r2.2.1 e3
            have e := Sum.inr.inj e
            obtain ⟨rfl, rfl⟩ := Prod.mk.inj e
            exact ⟨h.lod k0 (by omega) r1.2.2.2 r2.2.2 r3.2.2.2, by omega, by omega⟩
