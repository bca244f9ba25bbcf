/-! the NIGHT, purely -/
/-- nothing has changed but cells of A -/
def Fr (A : Nat → Prop) (h h' : HP) : Prop := h'.1 = h.1 ∧ hR h' = hR h ∧ ∀ x, ¬ A x → hI h' x = hI h x ∧ hJ h' x = hJ h x
theorem Fr.rf {A : Nat → Prop} (h : HP) : Fr A h h := ⟨rfl, rfl, fun _ _ => ⟨rfl, rfl⟩⟩
theorem Fr.tr {A : Nat → Prop} {h h1 h2 : HP} (p : Fr A h h1) (q : Fr A h1 h2) : Fr A h h2 := ⟨q.1.trans p.1, q.2.1.trans p.2.1, fun x hx => ⟨(q.2.2 x hx).1.trans (p.2.2 x hx).1, (q.2.2 x hx).2.trans (p.2.2 x hx).2⟩⟩
theorem Fr.wd {A B : Nat → Prop} {h h' : HP} (p : Fr A h h') (hAB : ∀ x, A x → B x) : Fr B h h' := ⟨p.1, p.2.1, fun x hx => p.2.2 x (fun q => hx (hAB x q))⟩
theorem Fr.K {A : Nat → Prop} {h h' : HP} (p : Fr A h h') : hK h' = hK h := by show h'.1.2.1 = h.1.2.1; rw [p.1]
theorem Fr.N {A : Nat → Prop} {h h' : HP} (p : Fr A h h') : hN h' = hN h := by show h'.1.2.2 = h.1.2.2; rw [p.1]
theorem Off.fr {h h' : HP} {a n : Nat} (p : Off h h' a n) : Fr (fun x => a ≤ x ∧ x < a + n) h h' := ⟨p.1, p.R, fun x hx => ⟨p.2.2 x (by omega), by rw [p.J]⟩⟩
theorem Fr.stI {A : Nat → Prop} {h : HP} {x k : Nat} {v : Int32} (hx : A x) : Fr A h (setI h x k v) := ⟨rfl, rfl, fun y hy => ⟨up2_row _ _ (fun e => hy (e ▸ hx)), rfl⟩⟩
theorem Fr.stJ {A : Nat → Prop} {h : HP} {x k : Nat} {v : Int64} (hx : A x) : Fr A h (setJ h x k v) := ⟨rfl, rfl, fun y hy => ⟨rfl, up2_row _ _ (fun e => hy (e ▸ hx))⟩⟩
theorem TownIs.fr {A : Nat → Prop} {h h' : HP} {b : Nat} {t : Tw} (hT : TownIs h b t) (p : Fr A h h') (hd : ∀ x, b ≤ x → x < b + 9 → ¬ A x) : TownIs h' b t := by
  refine ⟨hT.1.to p.K p.N p.2.1, hT.2.1, fun k hk => ?_, fun r j hr => ?_⟩
  · rw [(p.2.2 b (hd b (by omega) (by omega))).1]; exact hT.2.2.1 k hk
  · rw [(p.2.2 (b + r) (hd _ (by omega) (by unfold rowOK at hr; omega))).1]; exact hT.2.2.2 r j hr
/-- the first of the greatest above 0 -/
def bestB (ok : Nat → Bool) (f : Nat → Int64) : Nat → Int32 × Int64
  | 0 => (-1, 0)
  | n + 1 => if ok n = true ∧ (bestB ok f n).2 < f n then (nI n, f n) else bestB ok f n
def firstB (ok : Nat → Bool) : Nat → Nat → Int32
  | 0, _ => -1
  | k + 1, i => if ok i = true then nI i else firstB ok k (i + 1)
/-- the words of LODGER q and BED b, as oc lie on each -/
def envT (t : Tw) (oc : Nat → Nat) (q b : Nat) : Nat → Int64 := fun k => match k with
  | 0 => (nI q).toInt64
  | 1 => (nI b).toInt64
  | 2 => (t.2 4 q).toInt64
  | 3 => (t.2 5 q).toInt64
  | 4 => (t.2 6 q).toInt64
  | 5 => (t.2 1 b).toInt64
  | 6 => (t.2 2 b).toInt64
  | 7 => (t.2 3 b).toInt64
  | 8 => (nI (t.1 1) - nI (oc b)).toInt64
  | 9 => if t.2 7 q = nI b then 1 else 0
  | 10 => (distI (t.2 4 q) (t.2 1 b)).toInt64
  | 11 => (nI (t.1 4)).toInt64
  | _ => 0
/-- what a rule makes of the words -/
abbrev Rl : Type := (Nat → Int64) → Int64
def worthT (t : Tw) (ρ : Option Rl) (oc : Nat → Nat) (q b : Nat) : Int64 := match ρ with
  | none => if t.2 7 q = nI b then 100 else 10 - (nI b).toInt64
  | some w => w (envT t oc q b)
def okT (t : Tw) (oc : Nat → Nat) (b : Nat) : Bool := decide (oc b < t.1 1)
def pickT (t : Tw) (ρ : Option Rl) (oc : Nat → Nat) (q : Nat) : Int32 := (bestB (okT t oc) (worthT t ρ oc q) (t.1 2)).1
/-- who is held where: none: by the rule -/
abbrev Hd : Type := Nat → Option Int32
def goT (t : Tw) (ρ : Option Rl) (hd : Hd) (oc : Nat → Nat) (q : Nat) : Int32 := match hd q with
  | some x => x
  | none => pickT t ρ oc q
def mayT (t : Tw) (oc : Nat → Nat) (x : Int32) : Prop := 0 ≤ x ∧ x.toNatClampNeg < t.1 2 ∧ oc x.toNatClampNeg < t.1 1
theorem mayT_iff {t : Tw} {oc : Nat → Nat} {x : Int32} (hb : t.1 2 ≤ 5) : mayT t oc x ↔ ∃ j, j < t.1 2 ∧ x = nI j ∧ oc j < t.1 1 := by
  constructor
  · rintro ⟨h1, h2, h3⟩
    obtain ⟨j, hj, rfl⟩ := nI_of (x := x) (by rw [Int32.not_lt]; exact h1)
    rw [nI_clamp hj] at h2 h3
    exact ⟨j, h2, rfl, h3⟩
  · rintro ⟨j, h1, rfl, h2⟩
    refine ⟨nI_pos' (by omega), ?_, ?_⟩ <;> rw [nI_clamp (by omega)] <;> assumption
noncomputable def lieS (t : Tw) (ρ : Option Rl) (hd : Hd) : Nat → (Nat → Int32) × (Nat → Nat)
  | 0 => (fun _ => -1, fun _ => 0)
  | q + 1 =>
    let s := lieS t ρ hd q
    let x := goT t ρ hd s.2 q
    have := Classical.propDecidable (mayT t s.2 x)
    if mayT t s.2 x then (up1 s.1 q x, up1 s.2 x.toNatClampNeg (s.2 x.toNatClampNeg + 1)) else (up1 s.1 q (-1), s.2)
theorem lieS_y {t : Tw} {ρ : Option Rl} {hd : Hd} {q : Nat} (h : mayT t (lieS t ρ hd q).2 (goT t ρ hd (lieS t ρ hd q).2 q)) : lieS t ρ hd (q + 1) = (up1 (lieS t ρ hd q).1 q (goT t ρ hd (lieS t ρ hd q).2 q), up1 (lieS t ρ hd q).2 (goT t ρ hd (lieS t ρ hd q).2 q).toNatClampNeg ((lieS t ρ hd q).2 (goT t ρ hd (lieS t ρ hd q).2 q).toNatClampNeg + 1)) := by
  rw [lieS]
  exact if_pos h
theorem lieS_n {t : Tw} {ρ : Option Rl} {hd : Hd} {q : Nat} (h : ¬ mayT t (lieS t ρ hd q).2 (goT t ρ hd (lieS t ρ hd q).2 q)) : lieS t ρ hd (q + 1) = (up1 (lieS t ρ hd q).1 q (-1), (lieS t ρ hd q).2) := by
  rw [lieS]
  exact if_neg h
/-- how many of the first n lie on BEDS -/
def cntL (l : Nat → Int32) : Nat → Nat
  | 0 => 0
  | n + 1 => if l n = -1 then cntL l n else cntL l n + 1
def onT (l : Nat → Int32) (b : Nat) : Nat → Bool := fun i => decide (l i = nI b)
/-- (2): all by how it was -/
def shapeT (t : Tw) (l : Nat → Int32) : Tw := (t.1, fun r j => match r with
  | 1 => hoB t j (onT l j)
  | 4 => if l j = -1 then t.2 4 j else shB t j (l j).toNatClampNeg
  | 7 => l j
  | 8 => if l j = -1 then t.2 8 j else t.2 8 j + 1
  | r => t.2 r j)
noncomputable def cardT (t : Tw) : Tw := have := Classical.propDecidable (dueT t); if dueT t then cardI t (t.1 2) else t
def nextT (t : Tw) : Tw := (up1 t.1 4 (t.1 4 + 1), t.2)
noncomputable def nightT (t : Tw) (ρ : Option Rl) (hd : Hd) : Tw := nextT (cardT (shapeT t (lieS t ρ hd (t.1 3)).1))
/-! bits -/
def bitN (p : Nat → Bool) : Nat → Nat
  | 0 => 0
  | n + 1 => bitN p n + (if p n = true then 2 ^ n else 0)
theorem bitN_lt (p : Nat → Bool) : ∀ n, bitN p n < 2 ^ n
  | 0 => by simp [bitN]
  | n + 1 => by
    have := bitN_lt p n
    unfold bitN
    rw [Nat.pow_succ]
    split <;> omega
theorem orB : ∀ n : Fin 6, ∀ m : Fin 64, m.val < 2 ^ n.val → nI m.val ||| (1 <<< (nI n.val &&& 31)) = nI (m.val + 2 ^ n.val) := by decide +kernel
theorem tstB : ∀ n : Fin 6, ∀ m : Fin 64, ((nI m.val >>> (nI n.val &&& 31)) &&& 1) = nI (m.val / 2 ^ n.val % 2) := by decide +kernel
theorem bitsT_N (f : Nat → Int32) (x : Int32) : ∀ n, n ≤ 6 → bitsT f x n = nI (bitN (fun i => decide (f i = x)) n)
  | 0, _ => rfl
  | n + 1, hn => by
    have ih := bitsT_N f x n (by omega)
    have hlt := bitN_lt (fun i => decide (f i = x)) n
    have h64 : 2 ^ n ≤ 2 ^ 5 := Nat.pow_le_pow_right (by omega) (by omega)
    unfold bitsT bitN
    by_cases c : f n = x
    · rw [if_pos c, ih]
      have := orB ⟨n, by omega⟩ ⟨bitN (fun i => decide (f i = x)) n, by omega⟩ hlt
      rw [this]
      simp [c]
    · rw [if_neg c, ih]
      simp [c]
theorem bitN_tst (p : Nat → Bool) : ∀ n i, i < n → bitN p n / 2 ^ i % 2 = (if p i = true then 1 else 0)
  | 0, i, h => by omega
  | n + 1, i, h => by
    have hlt := bitN_lt p n
    by_cases c : i = n
    · subst c
      unfold bitN
      split
      · rw [Nat.add_div_right _ (Nat.two_pow_pos i), Nat.div_eq_of_lt hlt]
      · rw [Nat.add_zero, Nat.div_eq_of_lt hlt]
    · have ih := bitN_tst p n i (by omega)
      unfold bitN
      have e : (if p n = true then 2 ^ n else 0) = 2 ^ i * (2 * (if p n = true then 2 ^ (n - i - 1) else 0)) := by
        split
        · rw [← Nat.mul_assoc, ← Nat.pow_succ, ← Nat.pow_add]
          congr 1
          omega
        · simp
      rw [e, Nat.add_mul_div_left _ _ (Nat.two_pow_pos i), Nat.add_mul_mod_self_left]
      exact ih
theorem bitsT_tst {f : Nat → Int32} {x : Int32} {n i : Nat} (hn : n ≤ 6) (hi : i < n) : ((bitsT f x n >>> (nI i &&& 31)) &&& 1) = 1 ↔ f i = x := by
  have hlt := bitN_lt (fun i => decide (f i = x)) n
  have h64 : 2 ^ n ≤ 2 ^ 6 := Nat.pow_le_pow_right (by omega) hn
  rw [bitsT_N f x n hn, tstB ⟨i, by omega⟩ ⟨bitN (fun i => decide (f i = x)) n, by omega⟩]
  show nI (bitN (fun i => decide (f i = x)) n / 2 ^ i % 2) = 1 ↔ _
  rw [bitN_tst _ n i hi]
  by_cases c : f i = x
  · simp [c]; rfl
  · simp [c]; decide
