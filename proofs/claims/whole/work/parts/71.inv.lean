/-! what holds on the machine's way -/
def tyS : List Nat → List Bool
  | [] => []
  | x :: S => if 2 ≤ x ∧ x ≤ 11 then false :: tyS S else if x = 12 ∨ x = 13 then true :: tyS S else tyS S
def cn : List Nat → Nat
  | [] => 0
  | x :: S => (if 12 ≤ x ∧ x ≤ 15 then 1 else 0) + cn S
def pe : List Nat → Nat
  | [] => 0
  | x :: S => (if 2 ≤ x ∧ x ≤ 14 then 1 else 0) + pe S
def stkT (x y : Nat) : Prop := ((x = 14 ∨ x = 15 ∨ x = 16 ∨ (7 ≤ x ∧ x ≤ 11)) ∧ ((12 ≤ y ∧ y ≤ 15) ∨ y = 17)) ∨ (x = 12 ∧ (y = 13 ∨ y = 15 ∨ y = 17)) ∨ (x = 13 ∧ (y = 15 ∨ y = 17)) ∨ ((x = 2 ∨ x = 3) ∧ (y = 0 ∨ y = 16 ∨ (7 ≤ y ∧ y ≤ 11))) ∨ ((4 ≤ x ∧ x ≤ 6) ∧ (y = 0 ∨ y = 16 ∨ (7 ≤ y ∧ y ≤ 11) ∨ y = 2 ∨ y = 3)) ∨ (x = 17 ∧ y = 0)
def Sh : List Nat → Prop
  | [] => True
  | x :: S => stkT x (S.headD 0) ∧ Sh S
def wt (x : Nat) : Nat := if x = 13 then 1 else if x = 12 ∨ x = 16 then 2 else if 7 ≤ x ∧ x ≤ 11 then 3 else if x = 2 ∨ x = 3 then 4 else if 4 ≤ x ∧ x ≤ 6 then 5 else 0
theorem ty_l (x : Nat) (S : List Nat) : (tyS (x :: S)).length = (if 2 ≤ x ∧ x ≤ 13 then 1 else 0) + (tyS S).length := by
  rw [tyS]
  by_cases c : 2 ≤ x ∧ x ≤ 11
  · rw [if_pos c, if_pos (by omega)]; simp; omega
  · rw [if_neg c]
    by_cases c2 : x = 12 ∨ x = 13
    · rw [if_pos c2, if_pos (by omega)]; simp; omega
    · rw [if_neg c2, if_neg (by omega)]; omega
theorem ty_len : ∀ S, Sh S → (tyS S).length ≤ 2 * dpS S + wt (S.headD 0)
  | [], _ => by simp [tyS]
  | x :: S, h => by
    have ih := ty_len S h.2
    have o := h.1
    rw [ty_l, List.headD_cons]
    simp only [dpS]
    generalize (tyS S).length = l at ih ⊢
    generalize dpS S = e at ih ⊢
    generalize S.headD 0 = y at ih o
    unfold stkT at o
    unfold wt at ih ⊢
    (repeat' split at ih) <;> (repeat' split) <;> omega
theorem wt_le (x : Nat) : wt x ≤ 5 := by unfold wt; (repeat' split) <;> omega
def tyM : Nat → List Nat → List Bool
  | 4, S => false :: tyS S
  | 5, S => false :: tyS S
  | 1, S => true :: tyS S
  | 2, S => true :: tyS S
  | _, S => tyS S
def tpM : Nat → Nat → Prop
  | 0, y => (12 ≤ y ∧ y ≤ 15) ∨ y = 17
  | 1, y => (12 ≤ y ∧ y ≤ 15) ∨ y = 17
  | 2, y => y = 15 ∨ y = 17
  | 5, y => y = 0 ∨ (7 ≤ y ∧ y ≤ 11) ∨ y = 16
  | _, y => y = 0 ∨ (2 ≤ y ∧ y ≤ 11) ∨ y = 16
def kM : Nat → Nat
  | 1 => 3
  | 2 => 3
  | 4 => 3
  | 5 => 3
  | _ => 0
def sumOk (σ : PS) : Prop := sA σ (sq σ) ≤ sT σ (sq σ) ∧ sT σ (sq σ) ≤ se σ ∧ OkS (skd σ) (svl σ) (sA σ (sq σ)) (sT σ (sq σ) - sA σ (sq σ)) [] [false]
def clOk (σ : PS) : Prop := ∀ c, c < sq σ → sA σ c ≤ sT σ c ∧ sT σ c ≤ sA σ (c + 1) ∧ sA σ (c + 1) ≤ se σ ∧ OkS (skd σ) (svl σ) (sA σ c) (sT σ c - sA σ c) [] [false] ∧ (sT σ c < sA σ (c + 1) → OkS (skd σ) (svl σ) (sT σ c) (sA σ (c + 1) - sT σ c) [] [true])
def part_ (σ : PS) (S : List Nat) (ts : List Bool) : Prop := if 17 ∈ S then sumOk σ ∧ OkS (skd σ) (svl σ) (sT σ (sq σ)) (se σ - sT σ (sq σ)) [] ts else sA σ (sq σ) ≤ se σ ∧ OkS (skd σ) (svl σ) (sA σ (sq σ)) (se σ - sA σ (sq σ)) [] ts
def ivP : Nat → List Nat → PS → Prop
  | 6, S, σ => S = [] ∧ sA σ (sq σ) = se σ
  | 9, S, σ => S = [] ∧ sA σ (sq σ) = se σ
  | 7, S, σ => sq σ < 12 ∧ S = [] ∧ sumOk σ ∧ (sT σ (sq σ) < se σ → OkS (skd σ) (svl σ) (sT σ (sq σ)) (se σ - sT σ (sq σ)) [] [true])
  | 8, S, σ => sq σ < 12 ∧ S = [] ∧ sumOk σ ∧ sT σ (sq σ) = se σ
  | m, S, σ => sq σ < 12 ∧ tpM m (S.headD 0) ∧ part_ σ S (tyM m S)
def Inv (n : Nat) (c : Cfg) : Prop := (sp c.2.2 ≤ n ∧ sc c.2.2 ≤ 60 ∧ sq c.2.2 ≤ 12) ∧ 3 * (se c.2.2 + pe c.2.1) + kM c.1 ≤ 6 * sc c.2.2 + sp c.2.2 ∧ (cn c.2.1 ≤ sp c.2.2 ∧ dpS c.2.1 ≤ 10 ∧ Sh c.2.1) ∧ clOk c.2.2 ∧ ivP c.1 c.2.1 c.2.2
theorem OkS.snoc {kd vl : Nat → Nat} {i n k v e : Nat} {a b b' : List Bool} (h : OkS kd vl i n a b) (he : e = i + n) (hl : b.length ≤ 31) (h0 : k = 0 → v ≤ 99999) (h1 : k = 1 → v < 12) (ht : tyR k b b') : OkS (up1 kd e k) (up1 vl e v) i (n + 1) a b' := by
  have q1 : OkS (up1 kd e k) (up1 vl e v) i n a b := h.congr (fun j _ h2 => ⟨if_neg (by omega), if_neg (by omega)⟩)
  refine q1.app ?_
  have e1 : up1 kd e k (i + n) = k := if_pos he.symm
  have e2 : up1 vl e v (i + n) = v := if_pos he.symm
  refine ⟨hl, ?_, ?_, b', ?_, rfl⟩
  · rw [e1, e2]; exact h0
  · rw [e1, e2]; exact h1
  · rw [e1]; exact ht
theorem sumOk.em {σ : PS} (h : sumOk σ) (k v : Nat) : sumOk (em σ k v) := ⟨h.1, Nat.le_succ_of_le h.2.1, h.2.2.congr (fun j _ h2 => by
  have := h.1
  have := h.2.1
  exact ⟨if_neg (by show ¬ j = se σ; omega), if_neg (by show ¬ j = se σ; omega)⟩)⟩
theorem clOk.em {σ : PS} (h : clOk σ) (k v : Nat) : clOk (em σ k v) := fun c hc => by
  obtain ⟨h1, h2, h3, h4, h5⟩ := h c hc
  exact ⟨h1, h2, Nat.le_succ_of_le h3, h4.congr (fun j _ h2 => ⟨if_neg (by show ¬ j = se σ; omega), if_neg (by show ¬ j = se σ; omega)⟩), fun hh => (h5 hh).congr (fun j _ h2 => ⟨if_neg (by show ¬ j = se σ; omega), if_neg (by show ¬ j = se σ; omega)⟩)⟩
theorem part_.em {σ : PS} {S : List Nat} {ts ts' : List Bool} {k v : Nat} (h : part_ σ S ts) (hl : ts.length ≤ 31) (h0 : k = 0 → v ≤ 99999) (h1 : k = 1 → v < 12) (ht : tyR k ts ts') : part_ (em σ k v) S ts' := by
  unfold part_ at h ⊢
  by_cases c : 17 ∈ S
  · rw [if_pos c] at h ⊢
    refine ⟨h.1.em k v, ?_⟩
    have := h.1.2.1
    show OkS _ _ (sT σ (sq σ)) (se σ + 1 - sT σ (sq σ)) [] ts'
    rw [show se σ + 1 - sT σ (sq σ) = (se σ - sT σ (sq σ)) + 1 by omega]
    exact h.2.snoc (by show se σ = _; omega) hl h0 h1 ht
  · rw [if_neg c] at h ⊢
    refine ⟨Nat.le_succ_of_le h.1, ?_⟩
    have := h.1
    show OkS _ _ (sA σ (sq σ)) (se σ + 1 - sA σ (sq σ)) [] ts'
    rw [show se σ + 1 - sA σ (sq σ) = (se σ - sA σ (sq σ)) + 1 by omega]
    exact h.2.snoc (by show se σ = _; omega) hl h0 h1 ht
theorem part_.mem {σ : PS} {S S' : List Nat} {ts : List Bool} (h : part_ σ S ts) (e : 17 ∈ S' ↔ 17 ∈ S) : part_ σ S' ts := by
  unfold part_ at h ⊢
  by_cases c : 17 ∈ S
  · rw [if_pos c] at h; rw [if_pos (e.mpr c)]; exact h
  · rw [if_neg c] at h; rw [if_neg (fun w => c (e.mp w))]; exact h
theorem mem_c {x : Nat} (h : ¬ x = 17) (S : List Nat) : 17 ∈ x :: S ↔ 17 ∈ S := by
  rw [List.mem_cons]
  exact ⟨fun w => w.elim (fun e => absurd e.symm h) id, Or.inr⟩
section IV
variable {n : Nat} {S : List Nat} {σ : PS} {p' k v x : Nat}
theorem ivP_pu : ∀ m, ivP m S σ → ivP m S (pu σ p')
  | 0, f => f
  | 1, f => f
  | 2, f => f
  | 3, f => f
  | 4, f => f
  | 5, f => f
  | 6, f => f
  | 7, f => f
  | 8, f => f
  | 9, f => f
  | _ + 10, f => f
theorem iv_pu {m : Nat} (h : Inv n (m, S, σ)) (h1 : sp σ ≤ p') (h2 : p' ≤ n) : Inv n (m, S, pu σ p') := by
  obtain ⟨⟨a1, a2, a3⟩, b, ⟨c1, c2, c3⟩, e, f⟩ := h
  refine ⟨⟨h2, a2, a3⟩, ?_, ⟨Nat.le_trans c1 h1, c2, c3⟩, e, ?_⟩
  · show 3 * (se σ + pe S) + kM m ≤ 6 * sc σ + p'
    have : 3 * (se σ + pe S) + kM m ≤ 6 * sc σ + sp σ := b
    omega
  · show ivP m S (pu σ p')
    exact ivP_pu m f
theorem ty31 (h : Inv n (x, S, σ)) : (tyS S).length ≤ 25 := by
  have := ty_len S h.2.2.1.2.2
  have := wt_le (S.headD 0)
  have : dpS S ≤ 10 := h.2.2.1.2.1
  omega
theorem iv_val (h : Inv n (3, S, σ)) (hc : sc σ < 60) (h1 : sp σ < p') (h2 : p' ≤ n) (hk : (k = 0 ∧ v ≤ 99999) ∨ (k = 1 ∧ v < 12)) : Inv n (4, S, em (pc1 σ p') k v) := by
  have tl := ty31 h
  obtain ⟨⟨a1, a2, a3⟩, b, ⟨c1, c2, c3⟩, e, f1, f2, f3⟩ := h
  have b : 3 * (se σ + pe S) + 0 ≤ 6 * sc σ + sp σ := b
  have c1 : cn S ≤ sp σ := c1
  refine ⟨⟨h2, by show sc σ + 1 ≤ 60; omega, a3⟩, ?_, ⟨by show cn S ≤ p'; omega, c2, c3⟩, clOk.em (σ := pc1 σ p') e k v, f1, f2, ?_⟩
  · show 3 * (se σ + 1 + pe S) + 3 ≤ 6 * (sc σ + 1) + p'
    omega
  · exact part_.em (σ := pc1 σ p') (ts := tyS S) f3 (by omega) (by omega) (by omega) (Or.inl ⟨by omega, rfl⟩)
theorem iv_pop {y : Nat} {S' : List Nat} (h : Inv n (4, y :: S', σ)) (hy : 2 ≤ y ∧ y ≤ 6) : Inv n (4, S', em σ y 0) := by
  have tl := ty31 h
  obtain ⟨⟨a1, a2, a3⟩, b, ⟨c1, c2, c3⟩, e, f1, f2, f3⟩ := h
  have b : 3 * (se σ + pe (y :: S')) + 3 ≤ 6 * sc σ + sp σ := b
  have c1 : cn (y :: S') ≤ sp σ := c1
  have c2 : dpS (y :: S') ≤ 10 := c2
  have c3 : stkT y (S'.headD 0) ∧ Sh S' := c3
  have f3 : part_ σ (y :: S') (false :: tyS (y :: S')) := f3
  have et : tyS (y :: S') = false :: tyS S' := by rw [tyS, if_pos (by omega)]
  have b' : pe (y :: S') = 1 + pe S' := by rw [pe, if_pos (by omega)]
  have c1' : cn (y :: S') = 0 + cn S' := by rw [cn, if_neg (by omega)]
  have c2' : dpS (y :: S') = 0 + dpS S' := by rw [dpS, if_neg (by omega)]
  rw [et] at f3 tl
  simp at tl
  have o := c3.1
  refine ⟨⟨a1, a2, a3⟩, ?_, ⟨by show cn S' ≤ sp σ; omega, by show dpS S' ≤ 10; omega, c3.2⟩, e.em y 0, f1, ?_, ?_⟩
  · show 3 * (se σ + 1 + pe S') + 3 ≤ 6 * sc σ + sp σ
    omega
  · show S'.headD 0 = 0 ∨ (2 ≤ S'.headD 0 ∧ S'.headD 0 ≤ 11) ∨ S'.headD 0 = 16
    unfold stkT at o
    omega
  · refine (f3.mem (mem_c (by omega) S').symm).em (by simp; omega) (by omega) (by omega) ?_
    exact Or.inr (Or.inr (Or.inl ⟨by omega, by omega, _, rfl, rfl⟩))
theorem iv_op {y : Nat} (h : Inv n (4, S, σ)) (hp : sp σ < n) (hy : stkT y (S.headD 0)) (hy2 : 2 ≤ y ∧ y ≤ 6) : Inv n (3, y :: S, pu σ (sp σ + 1)) := by
  obtain ⟨⟨a1, a2, a3⟩, b, ⟨c1, c2, c3⟩, e, f1, f2, f3⟩ := h
  have b : 3 * (se σ + pe S) + 3 ≤ 6 * sc σ + sp σ := b
  have c1 : cn S ≤ sp σ := c1
  have et : tyS (y :: S) = false :: tyS S := by rw [tyS, if_pos (by omega)]
  have b' : pe (y :: S) = 1 + pe S := by rw [pe, if_pos (by omega)]
  have c1' : cn (y :: S) = 0 + cn S := by rw [cn, if_neg (by omega)]
  have c2' : dpS (y :: S) = 0 + dpS S := by rw [dpS, if_neg (by omega)]
  have c2 : dpS S ≤ 10 := c2
  refine ⟨⟨hp, a2, a3⟩, ?_, ⟨by show cn (y :: S) ≤ sp σ + 1; omega, by show dpS (y :: S) ≤ 10; omega, hy, c3⟩, e, f1, ?_, ?_⟩
  · show 3 * (se σ + pe (y :: S)) + 0 ≤ 6 * sc σ + (sp σ + 1)
    omega
  · show y = 0 ∨ (2 ≤ y ∧ y ≤ 11) ∨ y = 16
    omega
  · show part_ σ (y :: S) (tyS (y :: S))
    rw [et]
    exact part_.mem (S := S) f3 (mem_c (by omega) S)
theorem iv_sum (h : Inv n (4, S, σ)) (hy : ¬ (2 ≤ S.headD 0 ∧ S.headD 0 ≤ 6)) : Inv n (5, S, σ) := by
  obtain ⟨a, b, c, e, f1, f2, f3⟩ := h
  refine ⟨a, b, c, e, f1, ?_, f3⟩
  have f2 : S.headD 0 = 0 ∨ (2 ≤ S.headD 0 ∧ S.headD 0 ≤ 11) ∨ S.headD 0 = 16 := f2
  show S.headD 0 = 0 ∨ (7 ≤ S.headD 0 ∧ S.headD 0 ≤ 11) ∨ S.headD 0 = 16
  omega
theorem iv_cmpE {y : Nat} {S' : List Nat} (h : Inv n (5, y :: S', σ)) (hy : 7 ≤ y ∧ y ≤ 11) : Inv n (1, S', em σ y 0) := by
  have tl := ty31 h
  obtain ⟨⟨a1, a2, a3⟩, b, ⟨c1, c2, c3⟩, e, f1, f2, f3⟩ := h
  have b : 3 * (se σ + pe (y :: S')) + 3 ≤ 6 * sc σ + sp σ := b
  have c1 : cn (y :: S') ≤ sp σ := c1
  have c2 : dpS (y :: S') ≤ 10 := c2
  have c3 : stkT y (S'.headD 0) ∧ Sh S' := c3
  have f3 : part_ σ (y :: S') (false :: tyS (y :: S')) := f3
  have et : tyS (y :: S') = false :: tyS S' := by rw [tyS, if_pos (by omega)]
  have b' : pe (y :: S') = 1 + pe S' := by rw [pe, if_pos (by omega)]
  have c1' : cn (y :: S') = 0 + cn S' := by rw [cn, if_neg (by omega)]
  have c2' : dpS (y :: S') = 0 + dpS S' := by rw [dpS, if_neg (by omega)]
  rw [et] at f3 tl
  simp at tl
  have o := c3.1
  refine ⟨⟨a1, a2, a3⟩, ?_, ⟨by show cn S' ≤ sp σ; omega, by show dpS S' ≤ 10; omega, c3.2⟩, e.em y 0, f1, ?_, ?_⟩
  · show 3 * (se σ + 1 + pe S') + 3 ≤ 6 * sc σ + sp σ
    omega
  · show (12 ≤ S'.headD 0 ∧ S'.headD 0 ≤ 15) ∨ S'.headD 0 = 17
    unfold stkT at o
    omega
  · refine (f3.mem (mem_c (by omega) S').symm).em (by simp; omega) (by omega) (by omega) ?_
    exact Or.inr (Or.inr (Or.inr (Or.inl ⟨by omega, by omega, _, rfl, rfl⟩)))
theorem iv_cmp (h : Inv n (5, 16 :: S, σ)) (hc : sc σ < 60) (h1 : sp σ < p') (h2 : p' ≤ n) (hk : 7 ≤ k ∧ k ≤ 11) : Inv n (3, k :: S, pc1 σ p') := by
  obtain ⟨⟨a1, a2, a3⟩, b, ⟨c1, c2, c3⟩, e, f1, f2, f3⟩ := h
  have b : 3 * (se σ + (0 + pe S)) + 3 ≤ 6 * sc σ + sp σ := b
  have c1 : 0 + cn S ≤ sp σ := c1
  have c2 : 0 + dpS S ≤ 10 := c2
  have c3 : stkT 16 (S.headD 0) ∧ Sh S := c3
  have f3 : part_ σ (16 :: S) (false :: tyS S) := f3
  have et : tyS (k :: S) = false :: tyS S := by rw [tyS, if_pos (by omega)]
  have b' : pe (k :: S) = 1 + pe S := by rw [pe, if_pos (by omega)]
  have c1' : cn (k :: S) = 0 + cn S := by rw [cn, if_neg (by omega)]
  have c2' : dpS (k :: S) = 0 + dpS S := by rw [dpS, if_neg (by omega)]
  have o := c3.1
  refine ⟨⟨h2, by show sc σ + 1 ≤ 60; omega, a3⟩, ?_, ⟨by show cn (k :: S) ≤ p'; omega, by show dpS (k :: S) ≤ 10; omega, by unfold stkT at o ⊢; omega, c3.2⟩, e, f1, ?_, ?_⟩
  · show 3 * (se σ + pe (k :: S)) + 0 ≤ 6 * (sc σ + 1) + p'
    omega
  · show k = 0 ∨ (2 ≤ k ∧ k ≤ 11) ∨ k = 16
    omega
  · show part_ σ (k :: S) (tyS (k :: S))
    rw [et]
    exact f3.mem ((mem_c (by omega) S).trans (mem_c (by omega) S).symm)
theorem iv_sumE (h : Inv n (5, [], σ)) : Inv n (8, [], (σ.1, σ.2.1, (sq σ, sA σ, up1 (sT σ) (sq σ) (se σ)))) := by
  obtain ⟨a, b, c, e, f1, f2, f3⟩ := h
  have b : 3 * (se σ + 0) + 3 ≤ 6 * sc σ + sp σ := b
  have f3 : sA σ (sq σ) ≤ se σ ∧ OkS (skd σ) (svl σ) (sA σ (sq σ)) (se σ - sA σ (sq σ)) [] [false] := by
    have f3 : part_ σ [] [false] := f3
    unfold part_ at f3
    rw [if_neg (by simp)] at f3
    exact f3
  have eq : up1 (sT σ) (sq σ) (se σ) (sq σ) = se σ := if_pos rfl
  refine ⟨a, by show 3 * (se σ + 0) + 0 ≤ 6 * sc σ + sp σ; omega, c, fun c hc => ?_, f1, rfl, ⟨?_, ?_, ?_⟩, eq⟩
  · have hc : c < sq σ := hc
    obtain ⟨h1, h2, h3, h4, h5⟩ := e c hc
    have en : up1 (sT σ) (sq σ) (se σ) c = sT σ c := if_neg (by omega)
    show sA σ c ≤ up1 (sT σ) (sq σ) (se σ) c ∧ up1 (sT σ) (sq σ) (se σ) c ≤ sA σ (c + 1) ∧ sA σ (c + 1) ≤ se σ ∧ OkS (skd σ) (svl σ) (sA σ c) (up1 (sT σ) (sq σ) (se σ) c - sA σ c) [] [false] ∧ (up1 (sT σ) (sq σ) (se σ) c < sA σ (c + 1) → OkS (skd σ) (svl σ) (up1 (sT σ) (sq σ) (se σ) c) (sA σ (c + 1) - up1 (sT σ) (sq σ) (se σ) c) [] [true])
    rw [en]
    exact ⟨h1, h2, h3, h4, h5⟩
  · show sA σ (sq σ) ≤ up1 (sT σ) (sq σ) (se σ) (sq σ)
    rw [eq]; exact f3.1
  · show up1 (sT σ) (sq σ) (se σ) (sq σ) ≤ se σ
    rw [eq]; exact Nat.le_refl _
  · show OkS (skd σ) (svl σ) (sA σ (sq σ)) (up1 (sT σ) (sq σ) (se σ) (sq σ) - sA σ (sq σ)) [] [false]
    rw [eq]; exact f3.2
theorem iv_if (h : Inv n (8, [], σ)) (h1 : sp σ ≤ p') (h2 : p' ≤ n) : Inv n (0, [17], pu σ p') := by
  obtain ⟨⟨a1, a2, a3⟩, b, c, e, f1, f2, f3, f4⟩ := h
  have b : 3 * (se σ + 0) + 0 ≤ 6 * sc σ + sp σ := b
  refine ⟨⟨h2, a2, a3⟩, by show 3 * (se σ + 0) + 0 ≤ 6 * sc σ + p'; omega, ⟨Nat.zero_le _, Nat.zero_le _, by unfold stkT; decide, trivial⟩, e, f1, Or.inr rfl, ?_⟩
  unfold part_
  rw [if_pos (by simp)]
  refine ⟨f3, ?_⟩
  have f4 : sT σ (sq σ) = se σ := f4
  show OkS (skd σ) (svl σ) (sT σ (sq σ)) (se σ - sT σ (sq σ)) [] []
  rw [f4, Nat.sub_self]
  exact rfl
theorem iv_noif (h : Inv n (8, [], σ)) : Inv n (7, [], σ) := by
  obtain ⟨a, b, c, e, f1, f2, f3, f4⟩ := h
  have f4 : sT σ (sq σ) = se σ := f4
  exact ⟨a, b, c, e, f1, rfl, f3, fun w => absurd f4 (Nat.ne_of_lt w)⟩
theorem iv_end (h : Inv n (7, [], σ)) : Inv n (9, [], (σ.1, σ.2.1, (sq σ + 1, up1 (sA σ) (sq σ + 1) (se σ), sT σ))) := by
  obtain ⟨⟨a1, a2, a3⟩, b, c, e, f1, f2, f3, f4⟩ := h
  have f1 : sq σ < 12 := f1
  have eq : up1 (sA σ) (sq σ + 1) (se σ) (sq σ + 1) = se σ := if_pos rfl
  refine ⟨⟨a1, a2, by show sq σ + 1 ≤ 12; omega⟩, b, c, fun c hc => ?_, rfl, eq⟩
  have hc : c < sq σ + 1 := hc
  show up1 (sA σ) (sq σ + 1) (se σ) c ≤ sT σ c ∧ sT σ c ≤ up1 (sA σ) (sq σ + 1) (se σ) (c + 1) ∧ up1 (sA σ) (sq σ + 1) (se σ) (c + 1) ≤ se σ ∧ OkS (skd σ) (svl σ) (up1 (sA σ) (sq σ + 1) (se σ) c) (sT σ c - up1 (sA σ) (sq σ + 1) (se σ) c) [] [false] ∧ (sT σ c < up1 (sA σ) (sq σ + 1) (se σ) (c + 1) → OkS (skd σ) (svl σ) (sT σ c) (up1 (sA σ) (sq σ + 1) (se σ) (c + 1) - sT σ c) [] [true])
  rw [show up1 (sA σ) (sq σ + 1) (se σ) c = sA σ c from if_neg (by omega)]
  by_cases c1 : c = sq σ
  · subst c1
    rw [eq]
    exact ⟨f3.1, f3.2.1, Nat.le_refl _, f3.2.2, f4⟩
  · rw [show up1 (sA σ) (sq σ + 1) (se σ) (c + 1) = sA σ (c + 1) from if_neg (by omega)]
    exact e c (by show c < sq σ; omega)
theorem iv_next (h : Inv n (9, [], σ)) (h1 : sp σ < n) : Inv n (6, [], pu σ (sp σ + 1)) := by
  obtain ⟨⟨a1, a2, a3⟩, b, ⟨c1, c2, c3⟩, e, f⟩ := h
  have b : 3 * (se σ + 0) + 0 ≤ 6 * sc σ + sp σ := b
  exact ⟨⟨h1, a2, a3⟩, by show 3 * (se σ + 0) + 0 ≤ 6 * sc σ + (sp σ + 1); omega, ⟨Nat.zero_le _, c2, c3⟩, e, f⟩
theorem iv_lie (h : Inv n (6, [], σ)) (hq : sq σ < 12) (h1 : sp σ ≤ p') (h2 : p' ≤ n) : Inv n (3, [], pu σ p') := by
  obtain ⟨⟨a1, a2, a3⟩, b, ⟨c1, c2, c3⟩, e, f1, f2⟩ := h
  have b : 3 * (se σ + 0) + 0 ≤ 6 * sc σ + sp σ := b
  refine ⟨⟨h2, a2, a3⟩, by show 3 * (se σ + 0) + 0 ≤ 6 * sc σ + p'; omega, ⟨Nat.zero_le _, c2, c3⟩, e, hq, Or.inl rfl, ?_⟩
  unfold part_
  rw [if_neg (by simp)]
  have f2 : sA σ (sq σ) = se σ := f2
  show sA σ (sq σ) ≤ se σ ∧ OkS (skd σ) (svl σ) (sA σ (sq σ)) (se σ - sA σ (sq σ)) [] []
  rw [f2, Nat.sub_self]
  exact ⟨Nat.le_refl _, rfl⟩
theorem iv_in {y : Nat} (h : Inv n (0, S, σ)) (hd : dpS S < 10) (hy : (y = 14 ∧ sp σ + 3 ≤ p') ∨ (y = 15 ∧ sp σ + 1 ≤ p')) (h2 : p' ≤ n) : Inv n (0, y :: S, pu σ p') := by
  obtain ⟨⟨a1, a2, a3⟩, b, ⟨c1, c2, c3⟩, e, f1, f2, f3⟩ := h
  have b : 3 * (se σ + pe S) + 0 ≤ 6 * sc σ + sp σ := b
  have c1 : cn S ≤ sp σ := c1
  have f2 : (12 ≤ S.headD 0 ∧ S.headD 0 ≤ 15) ∨ S.headD 0 = 17 := f2
  have et : tyS (y :: S) = tyS S := by rw [tyS, if_neg (by omega), if_neg (by omega)]
  have c1' : cn (y :: S) = 1 + cn S := by rw [cn, if_pos (by omega)]
  have c2' : dpS (y :: S) = 1 + dpS S := by rw [dpS, if_pos (by omega)]
  have b' : pe (y :: S) ≤ (if y = 14 then 1 else 0) + pe S := by
    rw [pe]
    rcases hy with ⟨rfl, _⟩ | ⟨rfl, _⟩ <;> simp
  refine ⟨⟨h2, a2, a3⟩, ?_, ⟨by show cn (y :: S) ≤ p'; omega, by show dpS (y :: S) ≤ 10; omega, by unfold stkT; omega, c3⟩, e, f1, ?_, ?_⟩
  · show 3 * (se σ + pe (y :: S)) + 0 ≤ 6 * sc σ + p'
    rcases hy with ⟨rfl, _⟩ | ⟨rfl, _⟩
    · rw [if_pos rfl] at b'; omega
    · rw [if_neg (by decide)] at b'; omega
  · show (12 ≤ y ∧ y ≤ 15) ∨ y = 17
    omega
  · show part_ σ (y :: S) (tyS (y :: S))
    rw [et]
    exact part_.mem (S := S) f3 (mem_c (by omega) S)
theorem iv_fact (h : Inv n (0, S, σ)) : Inv n (3, 16 :: S, σ) := by
  obtain ⟨⟨a1, a2, a3⟩, b, ⟨c1, c2, c3⟩, e, f1, f2, f3⟩ := h
  have b : 3 * (se σ + pe S) + 0 ≤ 6 * sc σ + sp σ := b
  have c1 : cn S ≤ sp σ := c1
  have c2 : dpS S ≤ 10 := c2
  have f2 : (12 ≤ S.headD 0 ∧ S.headD 0 ≤ 15) ∨ S.headD 0 = 17 := f2
  refine ⟨⟨a1, a2, a3⟩, by show 3 * (se σ + (0 + pe S)) + 0 ≤ 6 * sc σ + sp σ; omega, ⟨by show 0 + cn S ≤ sp σ; omega, by show 0 + dpS S ≤ 10; omega, by unfold stkT; omega, c3⟩, e, f1, Or.inr (Or.inr rfl), ?_⟩
  show part_ σ (16 :: S) (tyS S)
  exact part_.mem (S := S) f3 (mem_c (by omega) S)
/-- a FACT's NOT, AND or OR is answered -/
theorem iv_ans {y m : Nat} (hm : m = 1 ∨ m = 2) (h : Inv n (1, y :: S, σ)) (hy : y = 14 ∨ y = 12 ∨ y = 13) (ht : m = 2 → S.headD 0 = 15 ∨ S.headD 0 = 17) : Inv n (m, S, em σ y 0) := by
  have tl := ty31 h
  obtain ⟨⟨a1, a2, a3⟩, b, ⟨c1, c2, c3⟩, e, f1, f2, f3⟩ := h
  have b : 3 * (se σ + pe (y :: S)) + 3 ≤ 6 * sc σ + sp σ := b
  have c1 : cn (y :: S) ≤ sp σ := c1
  have c2 : dpS (y :: S) ≤ 10 := c2
  have c3 : stkT y (S.headD 0) ∧ Sh S := c3
  have f3 : part_ σ (y :: S) (true :: tyS (y :: S)) := f3
  have b' : pe (y :: S) = 1 + pe S := by rw [pe, if_pos (by omega)]
  have c1' : cn (y :: S) = 1 + cn S := by rw [cn, if_pos (by omega)]
  have c2' : dpS S ≤ dpS (y :: S) := by rw [dpS]; exact Nat.le_add_left _ _
  have o := c3.1
  have f3 := f3.mem (mem_c (x := y) (by omega) S).symm
  have P : part_ (em σ y 0) S (true :: tyS S) := by
    refine f3.em (by simp; omega) (by omega) (by omega) ?_
    rcases hy with rfl | rfl | rfl
    · exact Or.inr (Or.inl ⟨rfl, tyS S, rfl, rfl⟩)
    · exact Or.inr (Or.inr (Or.inr (Or.inr ⟨by omega, by omega, tyS S, rfl, rfl⟩)))
    · exact Or.inr (Or.inr (Or.inr (Or.inr ⟨by omega, by omega, tyS S, rfl, rfl⟩)))
  have K : kM m = 3 := by rcases hm with rfl | rfl <;> rfl
  refine ⟨⟨a1, a2, a3⟩, ?_, ⟨by show cn S ≤ sp σ; omega, by show dpS S ≤ 10; omega, c3.2⟩, e.em y 0, ?_⟩
  · show 3 * (se σ + 1 + pe S) + kM m ≤ 6 * sc σ + sp σ
    omega
  · rcases hm with rfl | rfl
    · refine ⟨f1, ?_, P⟩
      show (12 ≤ S.headD 0 ∧ S.headD 0 ≤ 15) ∨ S.headD 0 = 17
      unfold stkT at o
      omega
    · exact ⟨f1, ht rfl, P⟩
theorem iv_join {y : Nat} (h : Inv n (1, S, σ)) (hy : (y = 12 ∧ (S.headD 0 = 13 ∨ S.headD 0 = 15 ∨ S.headD 0 = 17)) ∨ (y = 13 ∧ (S.headD 0 = 15 ∨ S.headD 0 = 17))) (h1 : sp σ + 1 ≤ p') (h2 : p' ≤ n) : Inv n (0, y :: S, pu σ p') := by
  obtain ⟨⟨a1, a2, a3⟩, b, ⟨c1, c2, c3⟩, e, f1, f2, f3⟩ := h
  have b : 3 * (se σ + pe S) + 3 ≤ 6 * sc σ + sp σ := b
  have c1 : cn S ≤ sp σ := c1
  have c2 : dpS S ≤ 10 := c2
  have f3 : part_ σ S (true :: tyS S) := f3
  have et : tyS (y :: S) = true :: tyS S := by rw [tyS, if_neg (by omega), if_pos (by omega)]
  have b' : pe (y :: S) = 1 + pe S := by rw [pe, if_pos (by omega)]
  have c1' : cn (y :: S) = 1 + cn S := by rw [cn, if_pos (by omega)]
  have c2' : dpS (y :: S) = 0 + dpS S := by rw [dpS, if_neg (by omega)]
  refine ⟨⟨h2, a2, a3⟩, ?_, ⟨by show cn (y :: S) ≤ p'; omega, by show dpS (y :: S) ≤ 10; omega, by unfold stkT; omega, c3⟩, e, f1, ?_, ?_⟩
  · show 3 * (se σ + pe (y :: S)) + 0 ≤ 6 * sc σ + p'
    omega
  · show (12 ≤ y ∧ y ≤ 15) ∨ y = 17
    omega
  · show part_ σ (y :: S) (tyS (y :: S))
    rw [et]
    exact f3.mem (mem_c (by omega) S)
theorem iv_tE (h : Inv n (1, S, σ)) (ht : S.headD 0 = 15 ∨ S.headD 0 = 17) : Inv n (2, S, σ) := by
  obtain ⟨a, b, c, e, f1, f2, f3⟩ := h
  exact ⟨a, b, c, e, f1, ht, f3⟩
theorem iv_cl (h : Inv n (2, 15 :: S, σ)) (hp : sp σ < n) : Inv n (1, S, pu σ (sp σ + 1)) := by
  obtain ⟨⟨a1, a2, a3⟩, b, ⟨c1, c2, c3⟩, e, f1, f2, f3⟩ := h
  have b : 3 * (se σ + (0 + pe S)) + 3 ≤ 6 * sc σ + sp σ := b
  have c1 : 1 + cn S ≤ sp σ := c1
  have c2 : 1 + dpS S ≤ 10 := c2
  have c3 : stkT 15 (S.headD 0) ∧ Sh S := c3
  have f3 : part_ σ (15 :: S) (true :: tyS S) := f3
  have o := c3.1
  refine ⟨⟨hp, a2, a3⟩, by show 3 * (se σ + pe S) + 3 ≤ 6 * sc σ + (sp σ + 1); omega, ⟨by show cn S ≤ sp σ + 1; omega, by show dpS S ≤ 10; omega, c3.2⟩, e, f1, ?_, ?_⟩
  · show (12 ≤ S.headD 0 ∧ S.headD 0 ≤ 15) ∨ S.headD 0 = 17
    unfold stkT at o
    omega
  · exact f3.mem (mem_c (by omega) S).symm
theorem iv_tz (h : Inv n (2, 17 :: S, σ)) : Inv n (7, [], σ) := by
  obtain ⟨⟨a1, a2, a3⟩, b, ⟨c1, c2, c3⟩, e, f1, f2, f3⟩ := h
  have b : 3 * (se σ + (0 + pe S)) + 3 ≤ 6 * sc σ + sp σ := b
  have c3 : stkT 17 (S.headD 0) ∧ Sh S := c3
  have f3 : part_ σ (17 :: S) (true :: tyS S) := f3
  have o := c3.1
  unfold part_ at f3
  rw [if_pos List.mem_cons_self] at f3
  have hS : S = [] := by
    cases S with
    | nil => rfl
    | cons x S2 =>
      have o2 := c3.2.1
      unfold stkT at o o2
      simp only [List.headD_cons] at o
      omega
  subst hS
  exact ⟨⟨a1, a2, a3⟩, by show 3 * (se σ + 0) + 0 ≤ 6 * sc σ + sp σ; omega, ⟨Nat.zero_le _, Nat.zero_le _, trivial⟩, e, f1, rfl, f3.1, fun _ => f3.2⟩
end IV
