/-! words and numbers of the text; how the class reads them -/
def tl_ (t : Nat) : List Nat := match t with
  | 0 => [21, 7, 6]
  | 1 => [22]
  | 2 => [23]
  | 3 => [19, 20]
  | 4 => [18]
  | _ => vWs
theorem chr_ok : ∀ t : Fin 24, ∀ i : Fin 80, (stByt.getD t.val []).getD i.val 0 = nI ((wS t.val).getD i.val 0) ∧ (wS t.val).getD i.val 0 < 128 := by decide +kernel
theorem len_ok : ∀ t : Fin 24, (wS t.val).length = stLen.getD t.val 0 ∧ (wS t.val).length ≤ 80 := by decide +kernel
theorem tl_ok : ∀ t : Fin 6, wS t.val = ((tl_ t.val).map (fun w => wS w ++ [32])).flatten := by decide +kernel
theorem let_ok : ∀ t : Fin 24, 6 ≤ t.val → ∀ x ∈ wS t.val, 97 ≤ x ∧ x ≤ 122 := by decide +kernel
theorem tlw_ok : ∀ t : Fin 6, ∀ w ∈ tl_ t.val, 6 ≤ w ∧ w < 24 := by decide +kernel
def twF (T : Nat → Nat) (n p : Nat) : List Nat → Nat → Nat → Bool → Option (Nat × Nat)
  | [], _, _, _ => none
  | x :: cs, k, a, s => if x = 32 then (if (s && !(decide (a < n ∧ 97 ≤ T a ∧ T a ≤ 122))) = true then some (k, a) else twF T n p cs (k + 1) p true) else twF T n p cs k (a + 1) (s && decide (a < n ∧ T a = x))
theorem tw_word {T : Nat → Nat} {n p : Nat} (cs : List Nat) (k : Nat) : ∀ (w : List Nat) (a : Nat) (s : Bool), (∀ x ∈ w, ¬ x = 32) → twF T n p (w ++ [32] ++ cs) k a s = if (s && mW T n w a) = true then some (k, a + w.length) else twF T n p cs (k + 1) p true
  | [], a, s, _ => by
    show (if (32 : Nat) = 32 then _ else _) = _
    rw [if_pos rfl]
    rfl
  | x :: w, a, s, h => by
    have hx := h x List.mem_cons_self
    show (if x = 32 then _ else twF T n p (w ++ [32] ++ cs) k (a + 1) (s && decide (a < n ∧ T a = x))) = _
    rw [if_neg hx, tw_word cs k w (a + 1) _ (fun y hy => h y (List.mem_cons_of_mem _ hy))]
    rw [mW, Bool.and_assoc, List.length_cons, show a + 1 + w.length = a + (w.length + 1) by omega]
theorem tw_list {T : Nat → Nat} {n p : Nat} : ∀ (ws : List Nat) (k : Nat), (∀ w ∈ ws, 6 ≤ w ∧ w < 24) → twF T n p ((ws.map (fun w => wS w ++ [32])).flatten) k p true = fW T n p ws k
  | [], _, _ => rfl
  | w :: ws, k, h => by
    have hw := h w List.mem_cons_self
    rw [List.map_cons, List.flatten_cons, tw_word _ _ _ _ _ (fun x hx => by have := let_ok ⟨w, hw.2⟩ hw.1 x hx; omega)]
    rw [fW, Bool.true_and, tw_list ws (k + 1) (fun y hy => h y (List.mem_cons_of_mem _ hy))]
theorem fW_rg {T : Nat → Nat} {n p : Nat} : ∀ (ws : List Nat) (k k' p' : Nat), (∀ w ∈ ws, 6 ≤ w ∧ w < 24) → fW T n p ws k = some (k', p') → p < p' ∧ p' ≤ n ∧ k ≤ k' ∧ k' < k + ws.length ∧ mW T n (wS (ws.getD (k' - k) 0)) p = true ∧ p' = p + (wS (ws.getD (k' - k) 0)).length := by
  have mp : ∀ (w : List Nat) p, mW T n w p = true → w.length = 0 ∨ p + w.length ≤ n := by
    intro w
    induction w with
    | nil => intro p _; exact Or.inl rfl
    | cons x w ih =>
      intro p h
      rw [mW, Bool.and_eq_true, decide_eq_true_iff] at h
      rcases ih _ h.2 with e | e
      · right; rw [List.length_cons]; omega
      · right; rw [List.length_cons]; omega
  intro ws
  induction ws with
  | nil => intro k k' p' _ h; simp [fW] at h
  | cons w ws ih =>
    intro k k' p' hw h
    rw [fW] at h
    by_cases c : mW T n (wS w) p = true
    · rw [if_pos c] at h
      obtain ⟨rfl, rfl⟩ := Prod.mk.inj (Option.some.inj h)
      have hw := hw w List.mem_cons_self
      have l0 : 0 < (wS w).length := (show ∀ t : Fin 24, 0 < (wS t.val).length by decide +kernel) ⟨w, hw.2⟩
      rcases mp _ _ c with e | e
      · omega
      · rw [Nat.sub_self]
        exact ⟨by omega, e, Nat.le_refl _, by simp, c, rfl⟩
    · rw [if_neg c] at h
      have := ih (k + 1) k' p' (fun y hy => hw y (List.mem_cons_of_mem _ hy)) h
      refine ⟨this.1, this.2.1, by omega, by rw [List.length_cons]; omega, ?_⟩
      rw [show k' - k = (k' - (k + 1)) + 1 by omega]
      exact this.2.2.2.2
theorem mW_le {T : Nat → Nat} {n p t : Nat} (h : mW T n (wS t) p = true) (ht : 6 ≤ t) (h2 : t < 24) : p + (wS t).length ≤ n := by
  have := fW_rg (T := T) (n := n) (p := p) [t] 0 0 (p + (wS t).length) (fun w hw => by simp at hw; omega) (by rw [fW, if_pos h])
  omega
def sgI (T : Nat → Nat) (n p : Nat) : Int32 := if p < n then nI (T p) else -1
theorem sg_eq {T : Nat → Nat} {n p c : Nat} (hT : ∀ i, i < n → T i < 256) (hc : c < 256) : sgI T n p = nI c ↔ at_ T n p = c := by
  unfold sgI at_
  by_cases h : p < n
  · rw [if_pos h, if_pos h]; exact nI_eq (by have := hT p h; omega) (by omega)
  · rw [if_neg h, if_neg h]
    refine ⟨fun e => ?_, fun e => by omega⟩
    have e2 : (-1 : Int32) < 0 := by decide
    rw [e] at e2
    exact absurd e2 (nI_pos (by omega))
theorem sg_m1 {T : Nat → Nat} {n p : Nat} (hT : ∀ i, i < n → T i < 256) : sgI T n p = -1 ↔ at_ T n p = 1000 := by
  unfold sgI at_
  by_cases h : p < n
  · rw [if_pos h, if_pos h]
    have := hT p h
    refine ⟨fun e => ?_, fun e => by omega⟩
    have e2 : (-1 : Int32) < 0 := by decide
    rw [← e] at e2
    exact absurd e2 (nI_pos (by omega))
  · rw [if_neg h, if_neg h]; exact ⟨fun _ => rfl, fun _ => rfl⟩
theorem sg_c {T : Nat → Nat} {n p : Nat} (hT : ∀ i, i < n → T i < 256) : (sgI T n p = nI (at_ T n p) ∧ at_ T n p < 256) ∨ (sgI T n p = -1 ∧ at_ T n p = 1000) := by
  unfold sgI at_
  by_cases h : p < n
  · rw [if_pos h, if_pos h]; exact Or.inl ⟨rfl, hT p h⟩
  · rw [if_neg h, if_neg h]; exact Or.inr ⟨rfl, rfl⟩
theorem at_lt {T : Nat → Nat} {n p : Nat} (h : at_ T n p < 1000) : p < n := by
  unfold at_ at h
  by_cases c : p < n
  · exact c
  · rw [if_neg c] at h; omega
theorem dgF_rg {T : Nat → Nat} {b : Nat} : ∀ k p v, b ≤ p → v < 10 ^ (min (p - b) 5) → p ≤ (dgF T b k p v).1 ∧ (dgF T b k p v).1 ≤ p + k ∧ (dgF T b k p v).2 ≤ 99999
  | 0, p, v, _, hv => ⟨Nat.le_refl _, Nat.le_refl _, by
    have : 10 ^ (min (p - b) 5) ≤ 10 ^ 5 := Nat.pow_le_pow_right (by omega) (by omega)
    show v ≤ 99999
    omega⟩
  | k + 1, p, v, hb, hv => by
    rw [dgF]
    by_cases c : 48 ≤ T p ∧ T p ≤ 57
    · rw [if_pos c]
      have hv' : (if p - b < 5 then 10 * v + T p - 48 else v) < 10 ^ (min (p + 1 - b) 5) := by
        by_cases c2 : p - b < 5
        · rw [if_pos c2, show min (p + 1 - b) 5 = min (p - b) 5 + 1 by omega, Nat.pow_succ]
          omega
        · rw [if_neg c2, show min (p + 1 - b) 5 = min (p - b) 5 by omega]
          exact hv
      have := dgF_rg (T := T) (b := b) k (p + 1) _ (by omega) hv'
      exact ⟨by omega, by omega, this.2.2⟩
    · rw [if_neg c]
      exact ⟨Nat.le_refl _, by omega, by
        have : 10 ^ (min (p - b) 5) ≤ 10 ^ 5 := Nat.pow_le_pow_right (by omega) (by omega)
        show v ≤ 99999
        omega⟩
theorem dg_rg {T : Nat → Nat} {n p : Nat} (h : p ≤ n) : p ≤ (dgN T n p).1 ∧ (dgN T n p).1 ≤ n ∧ (dgN T n p).2 ≤ 99999 := by
  have := dgF_rg (T := T) (b := p) (n - p) p 0 (Nat.le_refl _) (by rw [Nat.sub_self]; decide)
  unfold dgN
  exact ⟨this.1, by omega, this.2.2⟩
theorem dg_lt {T : Nat → Nat} {n p : Nat} (h : 48 ≤ at_ T n p ∧ at_ T n p ≤ 57) : p < (dgN T n p).1 := by
  have hp : p < n := at_lt (T := T) (by omega)
  unfold at_ at h
  rw [if_pos hp] at h
  unfold dgN
  rw [show n - p = (n - (p + 1)) + 1 by omega, dgF, if_pos h]
  have := dgF_rg (T := T) (b := p) (n - (p + 1)) (p + 1) (if p - p < 5 then 10 * 0 + T p - 48 else 0) (by omega) (by
    rw [if_pos (by omega), show min (p + 1 - p) 5 = 1 by omega]; omega)
  omega
/-- the text that the class reads -/
def CT0 (T : Nat → Nat) (n : Nat) (h : HP) : Prop := Lay h ∧ hR h 29 1 = some 1 ∧ n ≤ 400 ∧ hI h 29 2 = nI n ∧ (∀ i, i < n → hI h 1 i = nI (T i)) ∧ ∀ i, i < n → T i < 256
theorem CT0.fr {T : Nat → Nat} {n : Nat} {A : Nat → Nat → Prop} {h h' : HP} (C : CT0 T n h) (f : FrC A h h') (h1 : ∀ k, ¬ A 1 k) (h2 : ¬ A 29 2) : CT0 T n h' :=
  ⟨f.lay C.1, by rw [f.2.1]; exact C.2.1, C.2.2.1, (f.I h2).trans C.2.2.2.1, fun i hi => (f.I (h1 i)).trans (C.2.2.2.2.1 i hi), C.2.2.2.2.2⟩
def A3 (x k : Nat) : Prop := x = 29 ∧ k = 3
theorem CT0.f3 {T : Nat → Nat} {n : Nat} {h h' : HP} (C : CT0 T n h) (f : FrC A3 h h') : CT0 T n h' := C.fr f (fun k w => by unfold A3 at w; omega) (fun w => by unfold A3 at w; omega)
section CW
variable {g : GT} {d n p : Nat} {T : Nat → Nat} {h : HP}
theorem c_next {Q : Int32 → HP → Prop} (C : CT0 T n h) (hp : hI h 29 3 = nI p) (hpn : p ≤ n) (hQ : ∀ h', FrC A3 h h' → hI h' 29 3 = nI (bl T n p) → Q (sgI T n (bl T n p)) h') : CallI g mX6_next d [.ref 29] h Q := by
  have key : ∀ k p h', p + k = n → FrC A3 h h' → hI h' 29 3 = nI p → (∀ h2, FrC A3 h h2 → hI h2 29 3 = nI (bl T n p) → Q (sgI T n (bl T n p)) h2) → CallI g mX6_next d [.ref 29] h' Q := by
    intro k
    induction k with
    | zero =>
      intro p h' e f hp hQ
      have C' := C.f3 f
      rw [bl_n (by omega)] at hQ
      have e1 : sgI T n p = -1 := if_neg (by omega)
      rw [e1] at hQ
      refine wX6_next_0 C'.1 ?_
      rw [hp, C'.2.2.2.1]
      have c1 := C'.2.2.1
      exact ⟨fun _ => ⟨fun _ => hQ h' f hp, fun w => absurd (nI_le (by omega) (by omega)) w⟩, fun w => absurd (nI_le (by omega) (by omega)) w⟩
    | succ k ih =>
      intro p h' e f hp hQ
      have C' := C.f3 f
      have c1 := C'.2.2.1
      refine wX6_next_0 C'.1 ?_
      rw [hp, C'.2.2.2.1, nI_clamp (n := p) (by omega)]
      have nle : ¬ nI n ≤ nI p := nI_ge (by omega) (by omega)
      refine ⟨fun w => absurd w nle, fun _ => ⟨1, C'.2.1, Lk C'.1 K_1, by rw [Ln C'.1 N_1]; exact vn (by omega) (by omega), ?_⟩⟩
      rw [C'.2.2.2.2.1 p (by omega)]
      refine ⟨fun w => ?_, fun w => ⟨fun w2 => absurd w2 nle, fun _ => ⟨1, C'.2.1, Lk C'.1 K_1, by rw [Ln C'.1 N_1]; exact vn (by omega) (by omega), ?_⟩⟩⟩
      · have t32 : T p = 32 := (nI_eq (by have := C'.2.2.2.2.2 p (by omega); omega) (by omega)).mp w
        rw [nI_1]
        rw [bl_s (by omega) t32] at hQ
        exact ih (p + 1) _ (by omega) (f.tr (FrC.stI ⟨rfl, rfl⟩)) rdI hQ
      · rw [bl_n (fun z => w (by rw [z.2]; rfl))] at hQ
        have := hQ h' f hp
        rw [show sgI T n p = nI (T p) from if_pos (by omega)] at this
        rw [C'.2.2.2.2.1 p (by omega)]
        exact this
  exact key (n - p) p h (by omega) (FrC.rf h) hp hQ
theorem c_isDigit {x : Int32} {y : Nat} {Q : Int32 → HP → Prop} (L : Lay h) (hx : (x = nI y ∧ y < 256) ∨ (x = -1 ∧ y = 1000)) (h1 : 48 ≤ y ∧ y ≤ 57 → Q 1 h) (h0 : ¬ (48 ≤ y ∧ y ≤ 57) → Q 0 h) : CallI g mX6_isDigit d [.int x] h Q := by
  refine wX6_isDigit_0 x L ?_
  rcases hx with ⟨rfl, hy⟩ | ⟨rfl, rfl⟩
  · refine ⟨fun w => h0 ?_, fun w => ⟨fun w2 => h0 ?_, fun w2 => h1 ?_⟩⟩
    · have := (nI_ltI (a := y) (b := 48) (by omega) (by omega)).mp w; omega
    · have := (nI_ltI (a := 57) (b := y) (by omega) (by omega)).mp w2; omega
    · have a1 : ¬ y < 48 := fun z => w (nI_lt (a := y) (b := 48) z (by omega))
      have a2 : ¬ 57 < y := fun z => w2 (nI_lt z (by omega))
      omega
  · exact ⟨fun _ => h0 (by omega), fun w => absurd (by decide) w⟩
theorem c_isLetter {y : Nat} {Q : Int32 → HP → Prop} (L : Lay h) (hy : y < 256) (h1 : 97 ≤ y ∧ y ≤ 122 → Q 1 h) (h0 : ¬ (97 ≤ y ∧ y ≤ 122) → Q 0 h) : CallI g mX6_isLetter d [.int (nI y)] h Q := by
  refine wX6_isLetter_0 _ L ?_
  refine ⟨fun w => h0 ?_, fun w => ⟨fun w2 => h0 ?_, fun w2 => h1 ?_⟩⟩
  · have := (nI_ltI (a := y) (b := 97) (by omega) (by omega)).mp w; omega
  · have := (nI_ltI (a := 122) (b := y) (by omega) (by omega)).mp w2; omega
  · have a1 : ¬ y < 97 := fun z => w (nI_lt (a := y) (b := 97) z (by omega))
    have a2 : ¬ 122 < y := fun z => w2 (nI_lt z (by omega))
    omega
theorem c_takeWord {t : UInt32} {Q : Int32 → HP → Prop} (C : CT0 T n h) (ht : t.toNat < 6) (hp : hI h 29 3 = nI p) (hpn : p ≤ n) (no : fW T n p (tl_ t.toNat) 0 = none → Q (-1) h) (yes : ∀ k p', fW T n p (tl_ t.toNat) 0 = some (k, p') → Q (nI k) (setI h 29 3 (nI p'))) : CallI g mX6_takeWord (d + 5) [.ref 29, .float t] h Q := by
  have c1 := C.2.2.1
  obtain ⟨l1, l2⟩ := len_ok ⟨t.toNat, by omega⟩
  have l1 : (wS t.toNat).length = strn t := l1
  have l2 : (wS t.toNat).length ≤ 80 := l2
  have key : ∀ cs i k a (s : Bool), (wS t.toNat).drop i = cs → i + cs.length = strn t → k ≤ i → p ≤ a → a ≤ p + i → (twF T n p cs k a s = none → Q (-1) h) → (∀ k2 p2, twF T n p cs k a s = some (k2, p2) → Q (nI k2) (setI h 29 3 (nI p2))) → Sat g mX6_takeWord (d + 5) (0, 0) (qI Q) 13 [.ref 29, .float t, .int (nI k), .int (nI a), .int (if s = true then 1 else 0), .int (nI i), .double 0] [] h := by
    intro cs
    induction cs with
    | nil =>
      intro i k a s _ hi hk ha1 ha2 h0 h1
      simp at hi
      refine wX6_takeWord_13 t _ _ _ _ C.1 ⟨by omega, c_len (by omega) ⟨C.1, fun _ => h0 rfl, fun w => absurd (nI_le (by omega) (by omega)) w⟩⟩
    | cons x cs ih =>
      intro i k a s hd hi hk ha1 ha2 h0 h1
      rw [List.length_cons] at hi
      have hx : (wS t.toNat).getD i 0 = x := by
        have := congrArg (fun l => l.headD 0) hd
        simp only [List.headD_cons] at this
        rw [← this, List.getD_eq_getElem?_getD, List.headD_eq_head?_getD, List.head?_drop]
      have hd2 : (wS t.toNat).drop (i + 1) = cs := by
        rw [← List.tail_drop, hd]; rfl
      obtain ⟨e1, e2⟩ := chr_ok ⟨t.toNat, by omega⟩ ⟨i, by omega⟩
      have e1 : strb t i = nI ((wS t.toNat).getD i 0) := e1
      have e2 : (wS t.toNat).getD i 0 < 128 := e2
      rw [hx] at e1 e2
      rw [twF] at h0 h1
      refine wX6_takeWord_13 t _ _ _ _ C.1 ⟨by omega, c_len (by omega) ⟨C.1, fun w => absurd w (nI_ge (by omega) (by omega)), fun _ => c_charAt (by omega) (by omega) ⟨C.1, ?_⟩⟩⟩
      rw [e1, hp, C.2.2.2.1, nI_1, nI_1, nI_1, nI_clamp (n := a) (by omega)]
      have ex : nI x = 32 ↔ x = 32 := nI_eq (a := x) (b := 32) (by omega) (by omega)
      have nxt : x = 32 → ¬ (s && !(decide (a < n ∧ 97 ≤ T a ∧ T a ≤ 122))) = true → Sat g mX6_takeWord (d + 5) (0, 0) (qI Q) 13 [.ref 29, .float t, .int (nI (k + 1)), .int (nI p), .int 1, .int (nI (i + 1)), .double 0] [] h := fun w w2 => by
        rw [if_pos w, if_neg w2] at h0 h1
        exact ih (i + 1) (k + 1) p true hd2 (by omega) (by omega) (by omega) (by omega) h0 h1
      have got : x = 32 → (s && !(decide (a < n ∧ 97 ≤ T a ∧ T a ≤ 122))) = true → Q (nI k) (setI h 29 3 (nI a)) := fun w w2 => by
        rw [if_pos w, if_pos w2] at h1
        exact h1 k a rfl
      have on : ∀ s' : Bool, ¬ x = 32 → (s && decide (a < n ∧ T a = x)) = s' → Sat g mX6_takeWord (d + 5) (0, 0) (qI Q) 13 [.ref 29, .float t, .int (nI k), .int (nI (a + 1)), .int (if s' = true then 1 else 0), .int (nI (i + 1)), .double 0] [] h := fun s' w w2 => by
        rw [if_neg w, w2] at h0 h1
        exact ih (i + 1) k (a + 1) s' hd2 (by omega) (by omega) (by omega) (by omega) h0 h1
      refine ⟨fun w => ?_, fun w => ?_⟩
      · have w := ex.mp w
        cases s with
        | false => exact ⟨fun _ => nxt w (by simp), fun z => absurd rfl z⟩
        | true =>
          refine ⟨fun z => absurd z (by decide), fun _ => ⟨fun z => got w ?_, fun z => ⟨1, C.2.1, Lk C.1 K_1, ?_, ?_⟩⟩⟩
          · have := (nI_leI (by omega) (by omega)).mp z
            simp; omega
          · have : ¬ n ≤ a := fun y => z (nI_le y (by omega))
            rw [Ln C.1 N_1]; exact vn (by omega) (by omega)
          · have ha : ¬ n ≤ a := fun y => z (nI_le y (by omega))
            rw [C.2.2.2.2.1 a (by omega)]
            refine c_isLetter C.1 (C.2.2.2.2.2 a (by omega)) (fun y => ⟨C.1, fun q => absurd q (by decide), fun _ => ?_⟩) (fun y => ⟨C.1, fun _ => got w ?_, fun q => absurd rfl q⟩)
            · rw [hp]; exact nxt w (by simp; omega)
            · simp; omega
      · have w : ¬ x = 32 := fun z => w (ex.mpr z)
        cases s with
        | false => exact ⟨fun _ => on false w (by simp), fun z => absurd rfl z⟩
        | true =>
          refine ⟨fun z => absurd z (by decide), fun _ => ⟨fun z => on false w ?_, fun z => ⟨1, C.2.1, Lk C.1 K_1, ?_, ?_⟩⟩⟩
          · have := (nI_leI (by omega) (by omega)).mp z
            simp; omega
          · have : ¬ n ≤ a := fun y => z (nI_le y (by omega))
            rw [Ln C.1 N_1]; exact vn (by omega) (by omega)
          · have ha : ¬ n ≤ a := fun y => z (nI_le y (by omega))
            rw [C.2.2.2.2.1 a (by omega)]
            have := C.2.2.2.2.2 a (by omega)
            refine ⟨fun y => on true w ?_, fun y => on false w ?_⟩
            · have := (nI_eq (by omega) (by omega)).mp y
              simp; omega
            · have : ¬ T a = x := fun q => y (by rw [q])
              simp; omega
  refine wX6_takeWord_0 t C.1 ?_
  rw [hp]
  have e : twF T n p (wS t.toNat) 0 p true = fW T n p (tl_ t.toNat) 0 := by
    rw [tl_ok ⟨t.toNat, ht⟩]
    exact tw_list _ 0 (tlw_ok ⟨t.toNat, ht⟩)
  exact key (wS t.toNat) 0 0 p true rfl (by omega) (by omega) (by omega) (by omega) (by rw [e]; exact no) (by rw [e]; exact yes)
end CW
