/-! the language of texts, purely: blanks, words, numbers; one machine that reads a RULE; what holds on its way -/
def mW (T : Nat → Nat) (n : Nat) : List Nat → Nat → Bool
  | [], p => !(decide (p < n ∧ 97 ≤ T p ∧ T p ≤ 122))
  | x :: w, p => decide (p < n ∧ T p = x) && mW T n w (p + 1)
/-- the words: of the text constants 6 .. 23 -/
def wS (t : Nat) : List Nat := (stByt.getD t []).map (fun x => x.toNatClampNeg)
def fW (T : Nat → Nat) (n p : Nat) : List Nat → Nat → Option (Nat × Nat)
  | [], _ => none
  | w :: ws, k => if mW T n (wS w) p = true then some (k, p + (wS w).length) else fW T n p ws (k + 1)
def blF (T : Nat → Nat) : Nat → Nat → Nat
  | 0, p => p
  | k + 1, p => if T p = 32 then blF T k (p + 1) else p
def bl (T : Nat → Nat) (n p : Nat) : Nat := blF T (n - p) p
def dgF (T : Nat → Nat) (b : Nat) : Nat → Nat → Nat → Nat × Nat
  | 0, p, v => (p, v)
  | k + 1, p, v => if 48 ≤ T p ∧ T p ≤ 57 then dgF T b k (p + 1) (if p - b < 5 then 10 * v + T p - 48 else v) else (p, v)
def dgN (T : Nat → Nat) (n p : Nat) : Nat × Nat := dgF T p (n - p) p 0
def vWs : List Nat := [6, 7, 8, 9, 10, 11, 12, 13, 14, 15, 16, 17]
/-- (place, items), (how many steps, kinds, values), (CLAUSES, where SUMS begin, where TESTS begin) -/
abbrev PS : Type := (Nat × Nat) × (Nat × (Nat → Nat) × (Nat → Nat)) × (Nat × (Nat → Nat) × (Nat → Nat))
abbrev sp (σ : PS) : Nat := σ.1.1
abbrev sc (σ : PS) : Nat := σ.1.2
abbrev se (σ : PS) : Nat := σ.2.1.1
abbrev skd (σ : PS) : Nat → Nat := σ.2.1.2.1
abbrev svl (σ : PS) : Nat → Nat := σ.2.1.2.2
abbrev sq (σ : PS) : Nat := σ.2.2.1
abbrev sA (σ : PS) : Nat → Nat := σ.2.2.2.1
abbrev sT (σ : PS) : Nat → Nat := σ.2.2.2.2
abbrev pu (σ : PS) (p : Nat) : PS := ((p, σ.1.2), σ.2)
abbrev pc1 (σ : PS) (p : Nat) : PS := ((p, σ.1.2 + 1), σ.2)
abbrev em (σ : PS) (k v : Nat) : PS := (σ.1, (σ.2.1.1 + 1, up1 σ.2.1.2.1 σ.2.1.1 k, up1 σ.2.1.2.2 σ.2.1.1 v), σ.2.2)
abbrev Cfg : Type := Nat × List Nat × PS
def dpS : List Nat → Nat
  | [] => 0
  | x :: S => (if x = 14 ∨ x = 15 then 1 else 0) + dpS S
def mulK (x : Nat) : Nat := if x = 42 then 4 else if x = 47 then 5 else if x = 37 then 6 else 0
def addK (x : Nat) : Nat := if x = 43 then 2 else if x = 45 then 3 else 0
def cmpK (x y : Nat) : Nat := if x = 61 then 9 else if x = 60 then (if y = 61 then 8 else 7) else (if y = 61 then 10 else 11)
def at_ (T : Nat → Nat) (n p : Nat) : Nat := if p < n then T p else 1000
/-- modes: 0 a FACT is wanted, 1 is had, 2 a TEST ends, 3 a VALUE is wanted, 4 is had, 5 a SUM ends, 6 a CLAUSE is wanted, 7 it ends, 8 its SUM has ended, 9 its sign is wanted -/
def stp (T : Nat → Nat) (n : Nat) (c : Cfg) : (Nat ⊕ PS) ⊕ Cfg :=
  let S := c.2.1
  let σ := c.2.2
  let p := sp σ
  let x := at_ T n p
  match c.1 with
  | 0 => if x = 32 then .inr (0, S, pu σ (p + 1)) else
    if mW T n (wS 18) p = true then (if 10 ≤ dpS S then .inl (.inl (1 + 8 * p + 2)) else .inr (0, 14 :: S, pu σ (p + 3))) else
    if x = 91 then (if 10 ≤ dpS S then .inl (.inl (1 + 8 * p + 2)) else .inr (0, 15 :: S, pu σ (p + 1))) else .inr (3, 16 :: S, σ)
  | 1 => match S with
    | 14 :: S' => .inr (1, S', em σ 14 0)
    | 12 :: S' => .inr (1, S', em σ 12 0)
    | S => if x = 32 then .inr (1, S, pu σ (p + 1)) else
      if mW T n (wS 19) p = true then .inr (0, 12 :: S, pu σ (p + 3)) else
      if mW T n (wS 20) p = true then (match S with
        | 13 :: S' => .inr (0, 13 :: S', pu (em σ 13 0) (p + 2))
        | S => .inr (0, 13 :: S, pu σ (p + 2))) else
      (match S with
        | 13 :: S' => .inr (2, S', em σ 13 0)
        | S => .inr (2, S, σ))
  | 2 => match S with
    | 15 :: S' => if x = 93 then .inr (1, S', pu σ (p + 1)) else .inl (.inl (1 + 8 * p + 0))
    | 17 :: _ => .inr (7, [], σ)
    | _ => .inl (.inl 0)
  | 3 => if x = 32 then .inr (3, S, pu σ (p + 1)) else
    if 48 ≤ x ∧ x ≤ 57 then (if 5 < (dgN T n p).1 - p then .inl (.inl (1 + 8 * p + 1)) else if 60 ≤ sc σ then .inl (.inl (1 + 8 * p + 3)) else .inr (4, S, em (pc1 σ (dgN T n p).1) 0 (dgN T n p).2)) else
    (match fW T n p vWs 0 with
      | none => .inl (.inl (1 + 8 * p + 0))
      | some (k, p') => if 60 ≤ sc σ then .inl (.inl (1 + 8 * p + 3)) else .inr (4, S, em (pc1 σ p') 1 k))
  | 4 => if 4 ≤ S.headD 0 ∧ S.headD 0 ≤ 6 then .inr (4, S.tail, em σ (S.headD 0) 0) else
    if x = 32 then .inr (4, S, pu σ (p + 1)) else
    if ¬ mulK x = 0 then .inr (3, mulK x :: S, pu σ (p + 1)) else
    if 2 ≤ S.headD 0 ∧ S.headD 0 ≤ 3 then .inr (4, S.tail, em σ (S.headD 0) 0) else
    if ¬ addK x = 0 then .inr (3, addK x :: S, pu σ (p + 1)) else .inr (5, S, σ)
  | 5 => if S.headD 0 = 0 then .inr (8, [], (σ.1, σ.2.1, (sq σ, sA σ, up1 (sT σ) (sq σ) (se σ)))) else
    if 7 ≤ S.headD 0 ∧ S.headD 0 ≤ 11 then .inr (1, S.tail, em σ (S.headD 0) 0) else
    if x = 60 ∨ x = 61 ∨ x = 62 then (if 60 ≤ sc σ then .inl (.inl (1 + 8 * p + 3)) else .inr (3, cmpK x (at_ T n (p + 1)) :: S.tail, pc1 σ (if ¬ x = 61 ∧ at_ T n (p + 1) = 61 then p + 2 else p + 1))) else .inl (.inl (1 + 8 * p + 0))
  | 6 => if x = 32 then .inr (6, S, pu σ (p + 1)) else
    if mW T n (wS 22) p = true then (if 12 ≤ sq σ then .inl (.inl (1 + 8 * p + 4)) else .inr (3, [], pu σ (p + 3))) else .inl (.inl (1 + 8 * p + 0))
  | 7 => .inr (9, [], (σ.1, σ.2.1, (sq σ + 1, up1 (sA σ) (sq σ + 1) (se σ), sT σ)))
  | 8 => if x = 32 then .inr (8, S, pu σ (p + 1)) else
    if mW T n (wS 23) p = true then .inr (0, [17], pu σ (p + 2)) else .inr (7, [], σ)
  | _ => if x = 32 then .inr (9, S, pu σ (p + 1)) else
    if x = 1000 then .inl (.inr σ) else if x = 59 then .inr (6, [], pu σ (p + 1)) else .inl (.inl (1 + 8 * p + 0))
def run (T : Nat → Nat) (n : Nat) : Nat → Cfg → Option (Nat ⊕ PS)
  | 0, _ => none
  | k + 1, c => match stp T n c with
    | .inl r => some r
    | .inr c' => run T n k c'
abbrev CX : Type := Nat ⊕ Cfg
def EnX (T : Nat → Nat) (n : Nat) (x : CX) (r : Nat ⊕ PS) : Prop := match x with
  | .inl f => r = .inl f
  | .inr c => ∃ k, ∀ j, run T n (k + j) c = some r
theorem EnX.uniq {T : Nat → Nat} {n : Nat} {x : CX} {r r' : Nat ⊕ PS} (h : EnX T n x r) (h' : EnX T n x r') : r = r' := by
  cases x with
  | inl f => exact Eq.trans h (Eq.symm h')
  | inr c =>
    obtain ⟨k, hk⟩ := h
    obtain ⟨k', hk'⟩ := h'
    have e1 := hk k'
    have e2 := hk' k
    rw [Nat.add_comm k' k, e1] at e2
    exact Option.some.inj e2
def leX (x y : CX) : Prop := match x, y with
  | .inl f, y => y = .inl f
  | .inr _, .inl _ => True
  | .inr c, .inr c' => sp c.2.2 ≤ sp c'.2.2 ∧ c'.2.2.2.2 = c.2.2.2.2
def GoX (T : Nat → Nat) (n : Nat) (x y : CX) : Prop := (∀ r, EnX T n y r → EnX T n x r) ∧ leX x y
theorem leX.rf (x : CX) : leX x x := by
  cases x with
  | inl f => exact rfl
  | inr c => exact ⟨Nat.le_refl _, rfl⟩
theorem leX.tr {x y z : CX} (h1 : leX x y) (h2 : leX y z) : leX x z := by
  cases x with
  | inl f =>
    have e : y = .inl f := h1
    subst e
    exact h2
  | inr c =>
    cases y with
    | inl f =>
      have e : z = .inl f := h2
      subst e
      exact trivial
    | inr c' =>
      cases z with
      | inl f => exact trivial
      | inr c2 => exact ⟨Nat.le_trans h1.1 h2.1, h2.2.trans h1.2⟩
theorem GoX.rf {T : Nat → Nat} {n : Nat} (x : CX) : GoX T n x x := ⟨fun _ h => h, leX.rf x⟩
theorem GoX.tr {T : Nat → Nat} {n : Nat} {x y z : CX} (h1 : GoX T n x y) (h2 : GoX T n y z) : GoX T n x z := ⟨fun r h => h1.1 r (h2.1 r h), h1.2.tr h2.2⟩
theorem GoX.st {T : Nat → Nat} {n : Nat} {c c' : Cfg} (h : stp T n c = .inr c') (hp : sp c.2.2 ≤ sp c'.2.2) (he : c'.2.2.2.2 = c.2.2.2.2 := by rfl) : GoX T n (.inr c) (.inr c') := by
  refine ⟨fun r ⟨k, hk⟩ => ⟨k + 1, fun j => ?_⟩, hp, he⟩
  rw [show k + 1 + j = (k + j) + 1 by omega]
  show (match stp T n c with
    | .inl r => some r
    | .inr c' => run T n (k + j) c') = some r
  rw [h]
  exact hk j
theorem GoX.ft {T : Nat → Nat} {n f : Nat} {c : Cfg} (h : stp T n c = .inl (.inl f)) : GoX T n (.inr c) (.inl f) := by
  refine ⟨fun r hr => ⟨1, fun j => ?_⟩, trivial⟩
  have hr : r = .inl f := hr
  subst hr
  rw [Nat.add_comm 1 j]
  show (match stp T n c with
    | .inl r => some r
    | .inr c' => run T n j c') = some (.inl f)
  rw [h]
theorem EnX.fin {T : Nat → Nat} {n : Nat} {c : Cfg} {r : Nat ⊕ PS} (h : stp T n c = .inl r) : EnX T n (.inr c) r := by
  refine ⟨1, fun j => ?_⟩
  rw [Nat.add_comm 1 j]
  show (match stp T n c with
    | .inl r => some r
    | .inr c' => run T n j c') = some r
  rw [h]
theorem bl_s {T : Nat → Nat} {n p : Nat} (h : p < n) (h2 : T p = 32) : bl T n p = bl T n (p + 1) := by
  unfold bl
  rw [show n - p = (n - (p + 1)) + 1 by omega, blF, if_pos h2]
theorem bl_n {T : Nat → Nat} {n p : Nat} (h : ¬ (p < n ∧ T p = 32)) : bl T n p = p := by
  unfold bl
  by_cases c : p < n
  · rw [show n - p = (n - (p + 1)) + 1 by omega, blF, if_neg (fun e => h ⟨c, e⟩)]
  · rw [show n - p = 0 by omega, blF]
theorem blF_rg {T : Nat → Nat} : ∀ k p, p ≤ blF T k p ∧ blF T k p ≤ p + k ∧ (blF T k p < p + k → ¬ T (blF T k p) = 32)
  | 0, p => ⟨Nat.le_refl _, Nat.le_refl _, fun h => absurd h (by unfold blF; omega)⟩
  | k + 1, p => by
    have := blF_rg (T := T) k (p + 1)
    rw [blF]
    by_cases c : T p = 32
    · rw [if_pos c]
      exact ⟨by omega, by omega, fun h => this.2.2 (by omega)⟩
    · rw [if_neg c]
      exact ⟨Nat.le_refl _, by omega, fun _ => c⟩
theorem bl_rg {T : Nat → Nat} {n p : Nat} (h : p ≤ n) : p ≤ bl T n p ∧ bl T n p ≤ n ∧ ¬ (bl T n p < n ∧ T (bl T n p) = 32) := by
  have := blF_rg (T := T) (n - p) p
  unfold bl
  exact ⟨this.1, by omega, fun w => this.2.2 (by omega) w.2⟩
theorem at_32 {T : Nat → Nat} {n p : Nat} : at_ T n p = 32 ↔ (p < n ∧ T p = 32) := by
  unfold at_
  by_cases c : p < n
  · rw [if_pos c]; exact ⟨fun h => ⟨c, h⟩, fun h => h.2⟩
  · rw [if_neg c]; exact ⟨fun h => absurd h (by decide), fun h => absurd h.1 c⟩
/-- blanks are passed over -/
theorem GoX.bk {T : Nat → Nat} {n m : Nat} {S : List Nat} (hs : ∀ σ, at_ T n (sp σ) = 32 → stp T n (m, S, σ) = .inr (m, S, pu σ (sp σ + 1))) (σ : PS) : GoX T n (.inr (m, S, σ)) (.inr (m, S, pu σ (bl T n (sp σ)))) := by
  have key : ∀ k σ, n - sp σ = k → GoX T n (.inr (m, S, σ)) (.inr (m, S, pu σ (bl T n (sp σ)))) := by
    intro k
    induction k with
    | zero =>
      intro σ h
      rw [bl_n (by omega)]
      exact GoX.rf _
    | succ k ih =>
      intro σ h
      by_cases c : T (sp σ) = 32
      · rw [bl_s (by omega) c]
        exact (GoX.st (hs σ (at_32.mpr ⟨by omega, c⟩)) (Nat.le_succ _)).tr (ih (pu σ (sp σ + 1)) (by show n - (sp σ + 1) = k; omega))
      · rw [bl_n (fun w => c w.2)]
        exact GoX.rf _
  exact key _ σ rfl
theorem GoY.st {T : Nat → Nat} {n : Nat} {c c' : Cfg} (h : stp T n c = .inr c') : ∀ r, EnX T n (.inr c') r → EnX T n (.inr c) r := by
  refine fun r ⟨k, hk⟩ => ⟨k + 1, fun j => ?_⟩
  rw [show k + 1 + j = (k + j) + 1 by omega]
  show (match stp T n c with
    | .inl r => some r
    | .inr c' => run T n (k + j) c') = some r
  rw [h]
  exact hk j
