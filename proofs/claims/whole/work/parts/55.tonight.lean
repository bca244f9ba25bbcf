/-! the best way to lie tonight, purely -/
theorem dist_rg {x y : Int32} (hx : RG x) (hy : RG y) : ∃ n, n ≤ 99 ∧ distI x y = nI n := by
  obtain ⟨a, ha, rfl⟩ := hx
  obtain ⟨b, hb, rfl⟩ := hy
  rw [← dist_eq ⟨a, ha, rfl⟩ ⟨b, hb, rfl⟩]
  by_cases c : a ≤ b
  · rw [if_pos (nI_le c (by omega)), pk_sub c]; exact ⟨b - a, by omega, rfl⟩
  · rw [if_neg (nI_ge (by omega) (by omega)), pk_sub (by omega)]; exact ⟨a - b, by omega, rfl⟩
def shC (t : Tw) (i c : Nat) : Int32 := if c = 0 then t.2 4 i else shB t i (c - 1)
def fiT (t : Tw) (i c : Nat) : Int32 := distI (shC t i c) (t.2 6 i)
def fn (t : Tw) (i c : Nat) : Nat := (fiT t i c).toNatClampNeg
theorem fn_rg {t : Tw} (hR : TR t) {i c : Nat} (hi : i < t.1 3) (hc : c ≤ t.1 2) : fn t i c ≤ 99 ∧ fiT t i c = nI (fn t i c) := by
  obtain ⟨h4, h5, h6, -⟩ := hR.2.2 i hi
  have hs : RG (shC t i c) := by
    unfold shC
    by_cases z : c = 0
    · rw [if_pos z]; exact h4
    · rw [if_neg z]
      obtain ⟨a, ha, ea⟩ := h4
      obtain ⟨b, hb, eb⟩ := (hR.2.1 (c - 1) (by omega)).1
      obtain ⟨n, h1, h9, en⟩ := h5
      unfold shB
      rw [ea, eb, en]
      exact move_rg ha hb h1 h9
  obtain ⟨n, h1, h2⟩ := dist_rg hs h6
  unfold fn fiT
  rw [h2, nI_clamp (by omega)]
  exact ⟨h1, rfl⟩
def mnN (t : Tw) (i : Nat) : Nat → Nat
  | 0 => 1000000
  | c + 1 => if fn t i c < mnN t i c then fn t i c else mnN t i c
theorem mnN_le {t : Tw} {i : Nat} : ∀ n c, c < n → mnN t i n ≤ fn t i c
  | 0, _, h => by omega
  | n + 1, c, h => by
    rw [mnN]
    by_cases z : c = n
    · subst z
      by_cases y : fn t i c < mnN t i c
      · rw [if_pos y]; exact Nat.le_refl _
      · rw [if_neg y]; omega
    · have := mnN_le (t := t) (i := i) n c (by omega)
      by_cases y : fn t i n < mnN t i n
      · rw [if_pos y]; omega
      · rw [if_neg y]; exact this
def lsT (t : Tw) : Nat → Nat → Nat
  | 0, _ => 0
  | m + 1, i => mnN t i (t.1 2 + 1) + lsT t m (i + 1)
theorem lsT_le {t : Tw} (hR : TR t) : ∀ m i, i + m = t.1 3 → lsT t m i ≤ 99 * m
  | 0, _, _ => Nat.le_refl _
  | m + 1, i, h => by
    have h1 := lsT_le hR m (i + 1) (by omega)
    have h2 := mnN_le (t := t) (i := i) (t.1 2 + 1) 0 (by omega)
    have h3 := (fn_rg hR (i := i) (c := 0) (by omega) (by omega)).1
    rw [lsT]
    omega
def ocS (oc : Nat → Nat) (c : Nat) : Nat → Nat := if c = 0 then oc else up1 oc (c - 1) (oc (c - 1) + 1)
def okC (t : Tw) (oc : Nat → Nat) (c : Nat) : Bool := decide (c = 0 ∨ oc (c - 1) < t.1 1)
def toD (t : Tw) : Nat → Nat → (Nat → Nat) → Nat → (Nat → Int32) → Bs → Bs
  | 0, _, _, far, tr, b => stB b (nI far) tr
  | m + 1, i, oc, far, tr, b => foldC (fun c b => if okC t oc c = true then toD t m (i + 1) (ocS oc c) (far + fn t i c) (up1 tr i (pl c)) b else b) (t.1 2 + 1) b
def rO (t : Tw) : Nat → (Nat → Nat) → (Nat → Nat) → Bool
  | 0, _, _ => true
  | m + 1, oc, D => okC t oc (D 0) && rO t m (ocS oc (D 0)) (fun j => D (j + 1))
def rF (t : Tw) : Nat → Nat → (Nat → Nat) → Nat
  | 0, _, _ => 0
  | m + 1, i, D => fn t i (D 0) + rF t m (i + 1) (fun j => D (j + 1))
theorem rO_congr {t : Tw} : ∀ m {oc : Nat → Nat} {D D' : Nat → Nat}, (∀ i, i < m → D i = D' i) → rO t m oc D = rO t m oc D'
  | 0, _, _, _, _ => rfl
  | m + 1, oc, D, D', h => by
    rw [rO, rO, h 0 (by omega), rO_congr m (fun i hi => h (i + 1) (by omega))]
theorem rF_congr {t : Tw} : ∀ m {i : Nat} {D D' : Nat → Nat}, (∀ i, i < m → D i = D' i) → rF t m i D = rF t m i D'
  | 0, _, _, _, _ => rfl
  | m + 1, i, D, D', h => by
    rw [rF, rF, h 0 (by omega), rF_congr m (fun i hi => h (i + 1) (by omega))]
def ctF (t : Tw) (m i : Nat) (oc : Nat → Nat) (far : Nat) (tr : Nat → Int32) (k code : Nat) (b : Bs) : Bs := if rO t m oc (dg k m code) = true then stB b (nI (far + rF t m i (dg k m code))) (mg tr i m (dg k m code)) else b
theorem to_cd (t : Tw) : ∀ m i oc far tr b, foldC (ctF t m i oc far tr (t.1 2 + 1)) ((t.1 2 + 1) ^ m) b = toD t m i oc far tr b
  | 0, i, oc, far, tr, b => by
    show ctF t 0 i oc far tr (t.1 2 + 1) 0 b = stB b (nI far) tr
    unfold ctF
    rw [rO, if_pos rfl, rF, Nat.add_zero]
    congr 1
    funext j
    unfold mg
    rw [if_neg (by omega)]
  | m + 1, i, oc, far, tr, b => by
    rw [Nat.pow_succ', foldC_mul, toD]
    refine foldC_congr _ (fun c b hc => ?_) b
    have ih := to_cd t m (i + 1) (ocS oc c) (far + fn t i c) (up1 tr i (pl c)) b
    rw [← ih]
    have st : ∀ e b, e < (t.1 2 + 1) ^ m → ctF t (m + 1) i oc far tr (t.1 2 + 1) (c * (t.1 2 + 1) ^ m + e) b = if okC t oc c = true then ctF t m (i + 1) (ocS oc c) (far + fn t i c) (up1 tr i (pl c)) (t.1 2 + 1) e b else b := by
      intro e b he
      unfold ctF
      have d0 := dg_0 (k := t.1 2 + 1) (m := m) (c := c) (e := e) hc he
      have ds : ∀ i, i < m → (fun i => dg (t.1 2 + 1) (m + 1) (c * (t.1 2 + 1) ^ m + e) (i + 1)) i = dg (t.1 2 + 1) m e i := fun i hi => dg_s (by omega) hi
      rw [rO, rF, ← mg_s, d0, rO_congr m ds, rF_congr m ds, mg_congr ds, Nat.add_assoc]
      by_cases cl : okC t oc c = true
      · rw [if_pos cl, cl, Bool.true_and]
      · rw [if_neg cl, if_neg (fun z => cl (by rw [Bool.and_eq_true] at z; exact z.1))]
    by_cases cl : okC t oc c = true
    · rw [if_pos cl]
      refine foldC_congr _ (fun e b he => ?_) b
      rw [st e b he, if_pos cl]
    · rw [if_neg cl]
      have : ∀ n, n ≤ (t.1 2 + 1) ^ m → foldC (fun e b => ctF t (m + 1) i oc far tr (t.1 2 + 1) (c * (t.1 2 + 1) ^ m + e) b) n b = b := by
        intro n
        induction n with
        | zero => intro _; rfl
        | succ n ihn =>
          intro hn
          show ctF t (m + 1) i oc far tr (t.1 2 + 1) (c * (t.1 2 + 1) ^ m + n) (foldC _ n b) = b
          rw [ihn (by omega), st n b (by omega), if_neg cl]
      exact this _ (Nat.le_refl _)
theorem toD_ok {t : Tw} (hR : TR t) (hL : t.1 3 ≤ 6) : ∀ m {i : Nat} {oc : Nat → Nat} {far : Nat} {tr : Nat → Int32} {b : Bs}, i + m = t.1 3 → far ≤ 99 * i → bOk b → bOk (toD t m i oc far tr b)
  | 0, i, oc, far, tr, b, hi, hf, hb => stB_ok hb ⟨far, by omega, rfl⟩
  | m + 1, i, oc, far, tr, b, hi, hf, hb => by
    rw [toD]
    refine foldC_inv hb _ (fun c b hc hb => ?_)
    by_cases cl : okC t oc c = true
    · rw [if_pos cl]
      have := (fn_rg hR (i := i) (c := c) (by omega) (by omega)).1
      exact toD_ok hR hL m (by omega) (by omega) hb
    · rw [if_neg cl]; exact hb
theorem toD_some {t : Tw} : ∀ m {i : Nat} {oc : Nat → Nat} {far : Nat} {tr : Nat → Int32} {b : Bs}, ¬ toD t m i oc far tr b = none
  | 0, i, oc, far, tr, b => stB_some b _ _
  | m + 1, i, oc, far, tr, b => by
    rw [toD, Nat.add_comm (t.1 2) 1, foldC_add]
    refine foldC_inv (P := fun b => ¬ b = none) ?_ _ (fun c b _ hb => ?_)
    · show ¬ (if okC t oc 0 = true then toD t m (i + 1) (ocS oc 0) (far + fn t i 0) (up1 tr i (pl 0)) b else b) = none
      rw [if_pos (show okC t oc 0 = true from decide_eq_true (Or.inl rfl))]
      exact toD_some m
    · by_cases cl : okC t oc (1 + c) = true
      · rw [if_pos cl]; exact toD_some m
      · rw [if_neg cl]; exact hb
/-- what cannot come to less is passed over -/
theorem toD_cut {t : Tw} (hR : TR t) (hL : t.1 3 ≤ 6) {y : Nat} {s : Nat → Int32} (hy : y ≤ 594) : ∀ m {i : Nat} {oc : Nat → Nat} {far : Nat} {tr : Nat → Int32}, i + m = t.1 3 → far ≤ 99 * i → y ≤ far + lsT t m i → toD t m i oc far tr (some (nI y, s)) = some (nI y, s)
  | 0, i, oc, far, tr, hi, hf, h => by
    have h : y ≤ far := h
    show (if nI far < nI y then _ else _) = _
    rw [if_neg (nI_nlt h (by omega))]
  | m + 1, i, oc, far, tr, hi, hf, h => by
    rw [toD]
    refine foldC_inv (P := fun b => b = some (nI y, s)) rfl _ (fun c b hc hb => ?_)
    subst hb
    by_cases cl : okC t oc c = true
    · rw [if_pos cl]
      have h1 := (fn_rg hR (i := i) (c := c) (by omega) (by omega)).1
      have h2 := mnN_le (t := t) (i := i) (t.1 2 + 1) c (by omega)
      rw [lsT] at h
      exact toD_cut hR hL hy m (by omega) (by omega) (by omega)
    · rw [if_neg cl]
def toB (t : Tw) : Bs := toD t (t.1 3) 0 (fun _ => 0) 0 (fun _ => 0) none
def aTonight (t : Tw) (w : Int32) : Int32 := if ¬ t.1 0 = 0 ∧ (w = -1 ∨ IN w 0 5) then (if w = -1 then bsV (toB t) 0 else if IX w (t.1 3) then bsV (toB t) (w.toNatClampNeg + 1) else -2) else -3
