/-! going on by the rule, purely -/
def frH : Hd := fun _ => none
noncomputable def itN (ρ : Option Rl) (t : Tw) : Nat → Tw
  | 0 => t
  | i + 1 => nightT (itN ρ t i) ρ frH
theorem itN_1 (ρ : Option Rl) (t : Tw) : ∀ n k, (itN ρ t n).1 k = if k = 4 then t.1 4 + n else t.1 k
  | 0, k => by
    show t.1 k = _
    by_cases c : k = 4
    · subst c; simp
    · rw [if_neg c]
  | n + 1, k => by
    show (nightT (itN ρ t n) ρ frH).1 k = _
    rw [night_1, itN_1 ρ t n, itN_1 ρ t n]
    by_cases c : k = 4
    · subst c; simp; omega
    · simp [c]
theorem itN_k (ρ : Option Rl) (t : Tw) (n : Nat) {k : Nat} (hk : ¬ k = 4) : (itN ρ t n).1 k = t.1 k := by rw [itN_1, if_neg hk]
theorem itN_4 (ρ : Option Rl) (t : Tw) (n : Nat) : (itN ρ t n).1 4 = t.1 4 + n := by rw [itN_1, if_pos rfl]
theorem itN_ok {ρ : Option Rl} {t : Tw} (hB : TB t) (hR : TR t) : ∀ n, t.1 4 + n ≤ 5000 → TB (itN ρ t n) ∧ TR (itN ρ t n)
  | 0, _ => ⟨hB, hR⟩
  | n + 1, h => by
    obtain ⟨h1, h2⟩ := itN_ok (ρ := ρ) hB hR n (by omega)
    exact ⟨h1.night (by rw [itN_4]; omega), h2.night h1⟩
def farA (t : Tw) : Int32 := sumI (farT t) (t.1 3)
theorem far_rg {t : Tw} {i : Nat} (hR : TR t) (hi : i < t.1 3) : ∃ n, n ≤ 99 ∧ farT t i = nI n := by
  obtain ⟨⟨a, ha, ea⟩, -, ⟨b, hb, eb⟩, -⟩ := hR.2.2 i hi
  unfold farT
  rw [ea, eb, ← dist_eq ⟨a, ha, rfl⟩ ⟨b, hb, rfl⟩]
  by_cases c : a ≤ b
  · rw [if_pos (nI_le c (by omega)), pk_sub c]; exact ⟨b - a, by omega, rfl⟩
  · rw [if_neg (nI_ge (by omega) (by omega)), pk_sub (by omega)]; exact ⟨a - b, by omega, rfl⟩
theorem farA_rg {t : Tw} (hB : TB t) (hR : TR t) : ∃ n, n ≤ 594 ∧ farA t = nI n := by
  have : ∀ k, k ≤ t.1 3 → ∃ n, n ≤ 99 * k ∧ sumI (farT t) k = nI n := by
    intro k
    induction k with
    | zero => intro _; exact ⟨0, by omega, rfl⟩
    | succ k ih =>
      intro hk
      obtain ⟨n, h1, h2⟩ := ih (by omega)
      obtain ⟨m, h3, h4⟩ := far_rg hR (i := k) (by omega)
      exact ⟨n + m, by omega, by show sumI _ k + _ = _; rw [h2, h4, nI_add]⟩
  obtain ⟨n, h1, h2⟩ := this (t.1 3) (Nat.le_refl _)
  unfold TB at hB
  exact ⟨n, by omega, h2⟩
noncomputable def comesT (ρ : Option Rl) (t : Tw) (q : Nat) (s : Int32) : Nat → Nat → Int32
  | 0, _ => -2
  | k + 1, i => if (itN ρ t i).2 4 q = s then nI ((itN ρ t i).1 4) else comesT ρ t q s k (i + 1)
/-- what had best be turned -/
noncomputable def tuB (ρ : Option Rl) (t : Tw) (n : Nat) : Nat → Int32 × Int32
  | 0 => (-1, farA (itN ρ t n))
  | b + 1 => if farA (itN ρ (swapT t b) n) < (tuB ρ t n b).2 then (nI b, farA (itN ρ (swapT t b) n)) else tuB ρ t n b
theorem swap_ok {t : Tw} {j : Nat} (hB : TB t) (hR : TR t) (hj : j < t.1 2) : TB (swapT t j) ∧ TR (swapT t j) := by
  refine ⟨hB, hR.1, fun i hi => ?_, fun i hi => ?_⟩
  · have hi : i < t.1 2 := hi
    obtain ⟨a1, a2, a3⟩ := hR.2.1 i hi
    obtain ⟨b1, b2, b3⟩ := hR.2.1 j hj
    refine ⟨?_, ?_, ?_⟩
    · show RG (up2 (up2 t.2 1 j (t.2 2 j)) 2 j (t.2 1 j) 1 i)
      by_cases c : i = j
      · subst c; rw [up2_ne _ _ (by omega), up2_eq]; exact a2
      · rw [up2_ne _ _ (by omega), up2_ne _ _ (by omega)]; exact a1
    · show RG (up2 (up2 t.2 1 j (t.2 2 j)) 2 j (t.2 1 j) 2 i)
      by_cases c : i = j
      · subst c; rw [up2_eq]; exact a1
      · rw [up2_ne _ _ (by omega), up2_ne _ _ (by omega)]; exact a2
    · show R9 (up2 (up2 t.2 1 j (t.2 2 j)) 2 j (t.2 1 j) 3 i)
      rw [up2_ne _ _ (by omega), up2_ne _ _ (by omega)]; exact a3
  · have e : ∀ r, 4 ≤ r → (swapT t j).2 r i = t.2 r i := by
      intro r hr
      show up2 (up2 t.2 1 j (t.2 2 j)) 2 j (t.2 1 j) r i = _
      rw [up2_ne _ _ (by omega), up2_ne _ _ (by omega)]
    rw [e 4 (by omega), e 5 (by omega), e 6 (by omega), e 7 (by omega), e 8 (by omega)]
    exact hR.2.2 i hi
/-- another CARD -/
def cardS (t : Tw) (c : Nat) : Tw := (up1 t.1 0 c, t.2)
theorem cardS_ok {t : Tw} {c : Nat} (hB : TB t) (hR : TR t) (h1 : 1 ≤ c) (h2 : c ≤ 60) : TB (cardS t c) ∧ TR (cardS t c) := by
  unfold TB at hB ⊢
  refine ⟨⟨h2, hB.2⟩, fun z => ?_, hR.2.1, hR.2.2⟩
  have : c = 0 := z
  omega
noncomputable def beB (ρ : Option Rl) (t : Tw) (n : Nat) : Nat → Int32 × Int32
  | 0 => (-1, 100000)
  | c + 1 => if farA (itN ρ (cardS t (c + 1)) n) < (beB ρ t n c).2 then (nI (c + 1), farA (itN ρ (cardS t (c + 1)) n)) else beB ρ t n c
theorem lieS_card (t : Tw) (ρ : Option Rl) (hd : Hd) (c : Nat) : ∀ q, lieS (cardS t c) ρ hd q = lieS t ρ hd q
  | 0 => rfl
  | q + 1 => by
    have ih := lieS_card t ρ hd c q
    have eg : ∀ oc, goT (cardS t c) ρ hd oc q = goT t ρ hd oc q := by
      intro oc
      cases ρ <;> rfl
    have em : ∀ oc x, mayT (cardS t c) oc x ↔ mayT t oc x := fun oc x => Iff.rfl
    by_cases w : mayT t (lieS t ρ hd q).2 (goT t ρ hd (lieS t ρ hd q).2 q)
    · rw [lieS_y w, lieS_y (by rw [ih, eg]; exact w), ih, eg]
    · rw [lieS_n w, lieS_n (by rw [ih, eg]; exact w), ih]
theorem night_card (t : Tw) (ρ : Option Rl) (c : Nat) (h : ¬ (1 ≤ c ∧ t.1 4 % c = c - 1)) : nightT (cardS t c) ρ frH = cardS (nextT (shapeT t (lieS t ρ frH (t.1 3)).1)) c := by
  have e : cardT (shapeT (cardS t c) (lieS (cardS t c) ρ frH (t.1 3)).1) = shapeT (cardS t c) (lieS (cardS t c) ρ frH (t.1 3)).1 := by
    unfold cardT
    exact if_neg h
  unfold nightT
  show nextT (cardT (shapeT (cardS t c) (lieS (cardS t c) ρ frH (t.1 3)).1)) = _
  rw [e, lieS_card]
  unfold nextT shapeT cardS
  refine Prod.ext ?_ rfl
  funext k
  show up1 (up1 t.1 0 c) 4 (t.1 4 + 1) k = up1 (up1 t.1 4 (t.1 4 + 1)) 0 c k
  unfold up1
  by_cases c4 : k = 4
  · subst c4; rfl
  · by_cases c0 : k = 0
    · subst c0; rfl
    · simp [c4, c0]
/-- CARDS that don't come due end alike -/
noncomputable def itU (ρ : Option Rl) (t : Tw) : Nat → Tw
  | 0 => t
  | i + 1 => nextT (shapeT (itU ρ t i) (lieS (itU ρ t i) ρ frH ((itU ρ t i).1 3)).1)
theorem itU_4 (ρ : Option Rl) (t : Tw) : ∀ n, (itU ρ t n).1 4 = t.1 4 + n
  | 0 => rfl
  | n + 1 => by
    show (itU ρ t n).1 4 + 1 = _
    rw [itU_4 ρ t n]; omega
theorem it_card (ρ : Option Rl) (t : Tw) (c : Nat) : ∀ n, (∀ i, i < n → ¬ (1 ≤ c ∧ (t.1 4 + i) % c = c - 1)) → itN ρ (cardS t c) n = cardS (itU ρ t n) c
  | 0, _ => rfl
  | n + 1, h => by
    show nightT (itN ρ (cardS t c) n) ρ frH = _
    rw [it_card ρ t c n (fun i hi => h i (by omega)), night_card _ _ _ (by rw [itU_4]; exact h n (by omega))]
    rfl
theorem far_card (t : Tw) (c : Nat) : farA (cardS t c) = farA t := rfl
theorem due_iff {c m n : Nat} (hc : 1 ≤ c) : (∀ i, i < n → ¬ (1 ≤ c ∧ (m + i) % c = c - 1)) ↔ n ≤ c - 1 - m % c := by
  have hm := Nat.mod_lt m (show 0 < c by omega)
  have key : ∀ i, i ≤ c - 1 - m % c → (m + i) % c = m % c + i := by
    intro i hi
    rw [Nat.add_mod, ← Nat.mod_add_mod]
    rw [Nat.mod_mod, ← Nat.add_mod]
    have : m = c * (m / c) + m % c := (Nat.div_add_mod m c).symm
    rw [this, Nat.add_assoc, Nat.mul_add_mod]
    rw [Nat.mul_add_mod, Nat.mod_mod]
    exact Nat.mod_eq_of_lt (by omega)
  constructor
  · intro h
    rcases Nat.lt_or_ge (c - 1 - m % c) n with w | w
    · exact absurd ⟨hc, by rw [key _ (Nat.le_refl _)]; omega⟩ (h _ w)
    · exact w
  · intro h i hi ⟨_, e⟩
    rw [key i (by omega)] at e
    omega
