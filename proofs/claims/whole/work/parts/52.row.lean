/-! the best row of beds, purely -/
def pl (c : Nat) : Int32 := nI c - 1
theorem pl_0 : pl 0 = -1 := rfl
theorem pl_s (c : Nat) : pl (c + 1) = nI c := nI_pred c
theorem pl_1 (c : Nat) : pl c + 1 = pl (c + 1) := by rw [pl_s]; unfold pl; exact Int32.sub_add_cancel _ _
theorem pl_cases (c : Nat) : pl c = -1 ∧ c = 0 ∨ ∃ j, c = j + 1 ∧ pl c = nI j := by
  rcases Nat.eq_zero_or_pos c with z | z
  · subst z; exact Or.inl ⟨rfl, rfl⟩
  · obtain ⟨j, rfl⟩ : ∃ j, c = j + 1 := ⟨c - 1, by omega⟩
    exact Or.inr ⟨j, rfl, pl_s j⟩
theorem pl_nle {c n : Nat} (h : c ≤ n) (hn : n < 2 ^ 30) : ¬ nI n ≤ pl c := by
  rcases pl_cases c with ⟨e, -⟩ | ⟨j, rfl, e⟩
  · rw [e, Int32.le_iff_toInt_le, nI_toInt (by omega)]
    have : (-1 : Int32).toInt = -1 := rfl
    omega
  · rw [e]; exact nI_ge (by omega) (by omega)
theorem pl_ne2 {c : Nat} (h : c < 2 ^ 30) : ¬ pl c = -2 := by
  rcases pl_cases c with ⟨e, -⟩ | ⟨j, rfl, e⟩
  · rw [e]; decide
  · rw [e]; exact fun z => absurd (nI_pos (n := j) (by omega)) (by rw [z]; decide)
theorem pl_ne5 {c : Nat} (h : c < 2 ^ 30) : ¬ pl c = -5 := by
  rcases pl_cases c with ⟨e, -⟩ | ⟨j, rfl, e⟩
  · rw [e]; decide
  · rw [e]; exact fun z => absurd (nI_pos (n := j) (by omega)) (by rw [z]; decide)
def hd1 (q : Nat) (y : Int32) : Hd := fun i => if i = q then some y else none
abbrev Bs : Type := Option (Int32 × (Nat → Int32))
def stB (b : Bs) (x : Int32) (r : Nat → Int32) : Bs := match b with
  | none => some (x, r)
  | some (y, s) => if x < y then some (x, r) else some (y, s)
def foldC {α : Type} (f : Nat → α → α) : Nat → α → α
  | 0, b => b
  | c + 1, b => f c (foldC f c b)
theorem foldC_add {α : Type} (f : Nat → α → α) (m : Nat) (b : α) : ∀ e, foldC f (m + e) b = foldC (fun i b => f (m + i) b) e (foldC f m b)
  | 0 => rfl
  | e + 1 => by
    show f (m + e) (foldC f (m + e) b) = _
    rw [foldC_add f m b e]
    rfl
theorem foldC_mul {α : Type} (f : Nat → α → α) (M : Nat) (b : α) : ∀ k, foldC f (k * M) b = foldC (fun c b => foldC (fun e b => f (c * M + e) b) M b) k b
  | 0 => by rw [Nat.zero_mul]; rfl
  | k + 1 => by
    rw [Nat.succ_mul, foldC_add, foldC_mul f M b k]
    rfl
theorem foldC_congr {α : Type} {f g : Nat → α → α} : ∀ n, (∀ c b, c < n → f c b = g c b) → ∀ b, foldC f n b = foldC g n b
  | 0, _, _ => rfl
  | n + 1, h, b => by
    show f n (foldC f n b) = g n (foldC g n b)
    rw [foldC_congr n (fun c b hc => h c b (by omega)) b, h n _ (by omega)]
noncomputable def liB (ρ : Option Rl) (q : Nat) (t : Tw) (y : Int32) : Bool := decide ((nightT t ρ (hd1 q y)).2 7 q = y)
noncomputable def rowD (ρ : Option Rl) (q : Nat) : Nat → Tw → Nat → (Nat → Int32) → Bs → Bs
  | 0, t, _, tr, b => stB b (farT t q) tr
  | m + 1, t, dp, tr, b => foldC (fun c b => if liB ρ q t (pl c) = true then rowD ρ q m (nightT t ρ (hd1 q (pl c))) (dp + 1) (up1 tr dp (pl c)) b else b) (t.1 2 + 1) b
noncomputable def runT (ρ : Option Rl) (q : Nat) : Nat → Tw → (Nat → Nat) → Tw
  | 0, t, _ => t
  | m + 1, t, D => runT ρ q m (nightT t ρ (hd1 q (pl (D 0)))) (fun i => D (i + 1))
noncomputable def runO (ρ : Option Rl) (q : Nat) : Nat → Tw → (Nat → Nat) → Bool
  | 0, _, _ => true
  | m + 1, t, D => liB ρ q t (pl (D 0)) && runO ρ q m (nightT t ρ (hd1 q (pl (D 0)))) (fun i => D (i + 1))
theorem runT_congr {ρ : Option Rl} {q : Nat} : ∀ m {t : Tw} {D D' : Nat → Nat}, (∀ i, i < m → D i = D' i) → runT ρ q m t D = runT ρ q m t D'
  | 0, _, _, _, _ => rfl
  | m + 1, t, D, D', h => by
    rw [runT, runT, h 0 (by omega)]
    exact runT_congr m (fun i hi => h (i + 1) (by omega))
theorem runO_congr {ρ : Option Rl} {q : Nat} : ∀ m {t : Tw} {D D' : Nat → Nat}, (∀ i, i < m → D i = D' i) → runO ρ q m t D = runO ρ q m t D'
  | 0, _, _, _, _ => rfl
  | m + 1, t, D, D', h => by
    rw [runO, runO, h 0 (by omega)]
    rw [runO_congr m (fun i hi => h (i + 1) (by omega))]
def mg (tr : Nat → Int32) (dp m : Nat) (D : Nat → Nat) : Nat → Int32 := fun i => if dp ≤ i ∧ i < dp + m then pl (D (i - dp)) else tr i
theorem mg_s (tr : Nat → Int32) (dp m : Nat) (D : Nat → Nat) : mg (up1 tr dp (pl (D 0))) (dp + 1) m (fun i => D (i + 1)) = mg tr dp (m + 1) D := by
  funext i
  unfold mg up1
  by_cases c : dp + 1 ≤ i ∧ i < dp + 1 + m
  · rw [if_pos c, if_pos (by omega)]
    show pl (D (i - (dp + 1) + 1)) = _
    rw [show i - (dp + 1) + 1 = i - dp by omega]
  · rw [if_neg c]
    by_cases c2 : i = dp
    · subst c2; rw [if_pos rfl, if_pos (by omega), Nat.sub_self]
    · rw [if_neg c2, if_neg (by omega)]
theorem mg_congr {tr : Nat → Int32} {dp m : Nat} {D D' : Nat → Nat} (h : ∀ i, i < m → D i = D' i) : mg tr dp m D = mg tr dp m D' := by
  funext i
  unfold mg
  by_cases c : dp ≤ i ∧ i < dp + m
  · rw [if_pos c, if_pos c, h _ (by omega)]
  · rw [if_neg c, if_neg c]
def dg (k m code i : Nat) : Nat := code / k ^ (m - 1 - i) % k
theorem dg_0 {k m c e : Nat} (hk : c < k) (he : e < k ^ m) : dg k (m + 1) (c * k ^ m + e) 0 = c := by
  unfold dg
  rw [show m + 1 - 1 - 0 = m by omega, Nat.mul_comm, Nat.mul_add_div (by omega), Nat.div_eq_of_lt he, Nat.add_zero, Nat.mod_eq_of_lt hk]
theorem dg_s {k m c e i : Nat} (hk : 0 < k) (hi : i < m) : dg k (m + 1) (c * k ^ m + e) (i + 1) = dg k m e i := by
  unfold dg
  rw [show m + 1 - 1 - (i + 1) = m - 1 - i by omega]
  have e1 : k ^ m = k ^ (m - 1 - i) * (k * k ^ i) := by
    rw [← Nat.pow_succ', ← Nat.pow_add]
    congr 1
    omega
  rw [show c * k ^ m = k ^ (m - 1 - i) * (k * (c * k ^ i)) by rw [e1, Nat.mul_left_comm, Nat.mul_left_comm c k]]
  rw [Nat.mul_add_div (Nat.pow_pos hk), Nat.mul_add_mod]
noncomputable def cdF (ρ : Option Rl) (q : Nat) (m : Nat) (t : Tw) (dp : Nat) (tr : Nat → Int32) (k code : Nat) (b : Bs) : Bs := if runO ρ q m t (dg k m code) = true then stB b (farT (runT ρ q m t (dg k m code)) q) (mg tr dp m (dg k m code)) else b
theorem row_cd (ρ : Option Rl) (q : Nat) : ∀ m (t : Tw) dp tr b, foldC (cdF ρ q m t dp tr (t.1 2 + 1)) ((t.1 2 + 1) ^ m) b = rowD ρ q m t dp tr b
  | 0, t, dp, tr, b => by
    show cdF ρ q 0 t dp tr (t.1 2 + 1) 0 b = stB b (farT t q) tr
    unfold cdF
    rw [runO, if_pos rfl, runT]
    congr 1
    funext i
    unfold mg
    rw [if_neg (by omega)]
  | m + 1, t, dp, tr, b => by
    rw [Nat.pow_succ', foldC_mul, rowD]
    refine foldC_congr _ (fun c b hc => ?_) b
    have ht : (nightT t ρ (hd1 q (pl c))).1 2 = t.1 2 := by rw [night_1, if_neg (by decide)]
    have ih := row_cd ρ q m (nightT t ρ (hd1 q (pl c))) (dp + 1) (up1 tr dp (pl c)) b
    rw [ht] at ih
    rw [← ih]
    have st : ∀ e b, e < (t.1 2 + 1) ^ m → cdF ρ q (m + 1) t dp tr (t.1 2 + 1) (c * (t.1 2 + 1) ^ m + e) b = if liB ρ q t (pl c) = true then cdF ρ q m (nightT t ρ (hd1 q (pl c))) (dp + 1) (up1 tr dp (pl c)) (t.1 2 + 1) e b else b := by
      intro e b he
      unfold cdF
      have d0 := dg_0 (k := t.1 2 + 1) (m := m) (c := c) (e := e) hc he
      have ds : ∀ i, i < m → (fun i => dg (t.1 2 + 1) (m + 1) (c * (t.1 2 + 1) ^ m + e) (i + 1)) i = dg (t.1 2 + 1) m e i := fun i hi => dg_s (by omega) hi
      rw [runO, runT, ← mg_s, d0, runO_congr m ds, runT_congr m ds, mg_congr ds]
      by_cases cl : liB ρ q t (pl c) = true
      · rw [if_pos cl, cl, Bool.true_and]
      · rw [if_neg cl, if_neg (fun z => cl (by rw [Bool.and_eq_true] at z; exact z.1))]
    by_cases cl : liB ρ q t (pl c) = true
    · rw [if_pos cl]
      refine foldC_congr _ (fun e b he => ?_) b
      rw [st e b he, if_pos cl]
    · rw [if_neg cl]
      have : ∀ n, n ≤ (t.1 2 + 1) ^ m → foldC (fun e b => cdF ρ q (m + 1) t dp tr (t.1 2 + 1) (c * (t.1 2 + 1) ^ m + e) b) n b = b := by
        intro n
        induction n with
        | zero => intro _; rfl
        | succ n ihn =>
          intro hn
          show cdF ρ q (m + 1) t dp tr (t.1 2 + 1) (c * (t.1 2 + 1) ^ m + n) (foldC _ n b) = b
          rw [ihn (by omega), st n b (by omega), if_neg cl]
      exact this _ (Nat.le_refl _)
/-- not none, and within range -/
def bOk (b : Bs) : Prop := ∀ y s, b = some (y, s) → ∃ n, n ≤ 594 ∧ y = nI n
theorem stB_ok {b : Bs} {x : Int32} {r : Nat → Int32} (hb : bOk b) (hx : ∃ n, n ≤ 594 ∧ x = nI n) : bOk (stB b x r) := by
  intro y s e
  unfold stB at e
  cases b with
  | none => simp only [Option.some.injEq, Prod.mk.injEq] at e; rw [← e.1]; exact hx
  | some p =>
    obtain ⟨y0, s0⟩ := p
    simp only at e
    by_cases c : x < y0
    · rw [if_pos c] at e; simp only [Option.some.injEq, Prod.mk.injEq] at e; rw [← e.1]; exact hx
    · rw [if_neg c] at e; simp only [Option.some.injEq, Prod.mk.injEq] at e; rw [← e.1]; exact hb y0 s0 rfl
theorem stB_some (b : Bs) (x : Int32) (r : Nat → Int32) : ¬ stB b x r = none := by
  unfold stB
  cases b with
  | none => simp
  | some p =>
    obtain ⟨y0, s0⟩ := p
    simp only
    by_cases c : x < y0
    · rw [if_pos c]; simp
    · rw [if_neg c]; simp
theorem foldC_inv {α : Type} {f : Nat → α → α} {P : α → Prop} {b : α} (h0 : P b) : ∀ n, (∀ c b, c < n → P b → P (f c b)) → P (foldC f n b)
  | 0, _ => h0
  | n + 1, h => h n _ (by omega) (foldC_inv h0 n (fun c b hc => h c b (by omega)))
theorem rowD_ok {ρ : Option Rl} {q : Nat} : ∀ m {t : Tw} {dp : Nat} {tr : Nat → Int32} {b : Bs}, TB t → TR t → q < t.1 3 → t.1 4 + m ≤ 5000 → bOk b → bOk (rowD ρ q m t dp tr b)
  | 0, t, dp, tr, b, _, hR, hq, _, hb => by
    obtain ⟨n, h1, h2⟩ := far_rg hR hq
    exact stB_ok hb ⟨n, by omega, h2⟩
  | m + 1, t, dp, tr, b, hB, hR, hq, h4, hb => by
    rw [rowD]
    refine foldC_inv hb _ (fun c b hc hb => ?_)
    by_cases cl : liB ρ q t (pl c) = true
    · rw [if_pos cl]
      exact rowD_ok m (hB.night (by omega)) (hR.night hB) (by rw [night_1, if_neg (by decide)]; exact hq) (by rw [night_1, if_pos rfl]; omega) hb
    · rw [if_neg cl]; exact hb
theorem lie_none {ρ : Option Rl} {q : Nat} {t : Tw} (hq : q < t.1 3) : liB ρ q t (pl 0) = true := by
  unfold liB
  rw [decide_eq_true_iff, night_o _ _ _ _ (by omega)]
  have hl : ∀ n, q < n → (lieS t ρ (hd1 q (pl 0)) n).1 q = pl 0 := by
    intro n
    induction n with
    | zero => omega
    | succ n ih =>
      intro hn
      by_cases c : q = n
      · subst c
        have eg : ∀ oc, goT t ρ (hd1 q (pl 0)) oc q = -1 := fun oc => by unfold goT hd1; rw [if_pos rfl]; rfl
        have hs := lieS_s (t := t) (ρ := ρ) (hd := hd1 q (pl 0)) (q := q) (x := -1) (Or.inr ⟨fun z => by rw [eg] at z; exact absurd z.1 (by decide), rfl⟩)
        rw [hs]
        exact up1_at
      · rw [lie_keep (by omega)]; exact ih (by omega)
  exact hl (t.1 3) hq
theorem rowD_some {ρ : Option Rl} {q : Nat} : ∀ m {t : Tw} {dp : Nat} {tr : Nat → Int32} {b : Bs}, q < t.1 3 → ¬ rowD ρ q m t dp tr b = none
  | 0, t, dp, tr, b, _ => stB_some b _ _
  | m + 1, t, dp, tr, b, hq => by
    rw [rowD, Nat.add_comm (t.1 2) 1, foldC_add]
    refine foldC_inv (P := fun b => ¬ b = none) ?_ _ (fun c b _ hb => ?_)
    · show ¬ (if liB ρ q t (pl 0) = true then _ else _) = none
      rw [if_pos (lie_none hq)]
      exact rowD_some m (by rw [night_1, if_neg (by decide)]; exact hq)
    · by_cases cl : liB ρ q t (pl (1 + c)) = true
      · rw [if_pos cl]
        exact rowD_some m (by rw [night_1, if_neg (by decide)]; exact hq)
      · rw [if_neg cl]; exact hb
noncomputable def roB (ρ : Option Rl) (t : Tw) (q n : Nat) : Bs := rowD ρ q n t 0 (fun _ => 0) none
def bsV (b : Bs) (w : Nat) : Int32 := match b with
  | none => 0
  | some (y, s) => if w = 0 then y else s (w - 1)
noncomputable def aRow (ρ : Option Rl) (t : Tw) (q n w : Int32) : Int32 := if IX q (t.1 3) ∧ IN n 1 4 ∧ IN w 0 4 then (if w ≤ n then bsV (roB ρ t q.toNatClampNeg n.toNatClampNeg) w.toNatClampNeg else -2) else -3
