/-! the reference reads words and numbers -/
def byI (v : Nat) : Int32 := if v < 128 then nI v else nI v - 256
theorem by_ok : ∀ v : Fin 256, (byI v.val &&& 255 = nI v.val) ∧ (byI v.val < 97 ↔ (v.val < 97 ∨ 128 ≤ v.val)) ∧ (122 < byI v.val ↔ (122 < v.val ∧ v.val < 128)) := by decide +kernel
theorem by_eq : ∀ v : Fin 256, ∀ c : Fin 128, (byI v.val = nI c.val ↔ v.val = c.val) := by decide +kernel
def rlF (T : Nat → Nat) : Nat → Nat → Nat
  | 0, _ => 0
  | k + 1, p => if 97 ≤ T p ∧ T p ≤ 122 then rlF T k (p + 1) + 1 else 0
def rl (T : Nat → Nat) (n p : Nat) : Nat := rlF T (n - p) p
theorem rl_s {T : Nat → Nat} {n p : Nat} (h : p < n) (h2 : 97 ≤ T p ∧ T p ≤ 122) : rl T n p = rl T n (p + 1) + 1 := by
  unfold rl
  rw [show n - p = (n - (p + 1)) + 1 by omega, rlF, if_pos h2]
theorem rl_n {T : Nat → Nat} {n p : Nat} (h : ¬ (p < n ∧ 97 ≤ T p ∧ T p ≤ 122)) : rl T n p = 0 := by
  unfold rl
  by_cases c : p < n
  · rw [show n - p = (n - (p + 1)) + 1 by omega, rlF, if_neg (fun e => h ⟨c, e⟩)]
  · rw [show n - p = 0 by omega, rlF]
theorem rl_le {T : Nat → Nat} {n : Nat} : ∀ k p, n - p = k → rl T n p ≤ k
  | 0, p, e => by rw [rl_n (by omega)]; exact Nat.le_refl _
  | k + 1, p, e => by
    by_cases c : 97 ≤ T p ∧ T p ≤ 122
    · rw [rl_s (by omega) c]
      have := rl_le (T := T) (n := n) k (p + 1) (by omega)
      omega
    · rw [rl_n (fun w => c w.2)]; omega
theorem mW_iff {T : Nat → Nat} {n : Nat} : ∀ (w : List Nat) (p : Nat), (∀ x ∈ w, 97 ≤ x ∧ x ≤ 122) → (mW T n w p = true ↔ (rl T n p = w.length ∧ ∀ j, j < w.length → T (p + j) = w.getD j 0))
  | [], p, _ => by
    rw [mW]
    by_cases c : p < n ∧ 97 ≤ T p ∧ T p ≤ 122
    · rw [rl_s c.1 c.2]
      constructor
      · intro z; simp [c] at z
      · intro z; exact absurd z.1 (by simp)
    · rw [rl_n c]
      constructor
      · intro _; exact ⟨rfl, fun j hj => absurd hj (by simp)⟩
      · intro _; simp only [Bool.not_eq_true', decide_eq_false_iff_not]; exact c
  | x :: w, p, h => by
    have hx := h x List.mem_cons_self
    have ih := mW_iff (T := T) (n := n) w (p + 1) (fun y hy => h y (List.mem_cons_of_mem _ hy))
    rw [mW, Bool.and_eq_true, decide_eq_true_iff, ih]
    constructor
    · rintro ⟨⟨h1, h2⟩, h3, h4⟩
      rw [rl_s h1 (by omega), h3]
      refine ⟨rfl, fun j hj => ?_⟩
      cases j with
      | zero => exact h2
      | succ j =>
        rw [show p + (j + 1) = p + 1 + j by omega]
        exact h4 j (by simpa using hj)
    · rintro ⟨h1, h2⟩
      have e0 := h2 0 (by simp)
      have e0 : T p = x := e0
      have hp : p < n ∧ 97 ≤ T p ∧ T p ≤ 122 := Decidable.byContradiction (fun c => by rw [rl_n c] at h1; simp at h1)
      rw [rl_s hp.1 hp.2] at h1
      refine ⟨⟨hp.1, e0⟩, by simpa using h1, fun j hj => ?_⟩
      have := h2 (j + 1) (by simpa using hj)
      rw [show p + 1 + j = p + (j + 1) by omega]
      exact this
def MT0 (T : Nat → Nat) (n : Nat) (h : HP) : Prop := Lay h ∧ n ≤ 400 ∧ hI h 252 24 = nI n ∧ (∀ i, i < n → hI h 276 i = byI (T i)) ∧ ∀ i, i < n → T i < 256
theorem MT0.fr {T : Nat → Nat} {n : Nat} {A : Nat → Nat → Prop} {h h' : HP} (C : MT0 T n h) (f : FrC A h h') (h1 : ∀ k, ¬ A 276 k) (h2 : ¬ A 252 24) : MT0 T n h' :=
  ⟨f.lay C.1, C.2.1, (f.I h2).trans C.2.2.1, fun i hi => (f.I (h1 i)).trans (C.2.2.2.1 i hi), C.2.2.2.2⟩
def A25 (x k : Nat) : Prop := x = 252 ∧ k = 25
def A26 (x k : Nat) : Prop := x = 252 ∧ k = 26
def A256 (x k : Nat) : Prop := x = 252 ∧ (k = 25 ∨ k = 26)
theorem MT0.f5 {T : Nat → Nat} {n : Nat} {h h' : HP} (C : MT0 T n h) (f : FrC A25 h h') : MT0 T n h' := C.fr f (fun k w => by unfold A25 at w; omega) (fun w => by unfold A25 at w; omega)
section MWD
variable {g : GT} {d n p : Nat} {T : Nat → Nat} {h : HP}
theorem m_sign {Q : Int32 → HP → Prop} (C : MT0 T n h) (hp : hI h 252 25 = nI p) (hp2 : p < 1000) (hQ : Q (sgI T n p) h) : CallI g mX10_sign d [.ref 252] h Q := by
  have n4 := C.2.1
  refine wX10_sign_0 C.1 ?_
  rw [hp, C.2.2.1, nI_clamp (n := p) (by omega)]
  unfold sgI at hQ
  refine ⟨fun w => ?_, fun w => ?_⟩
  · have := (nI_leI (by omega) (by omega)).mp w
    rw [if_neg (by omega)] at hQ
    exact hQ
  · have hl : p < n := Nat.lt_of_not_le (fun z => w (nI_le z (by omega)))
    rw [if_pos hl] at hQ
    refine ⟨vn (by omega) (by omega), ?_⟩
    rw [C.2.2.2.1 p hl, (by_ok ⟨T p, C.2.2.2.2 p hl⟩).1]
    exact hQ
theorem m_blanks {Q : HP → Prop} (C : MT0 T n h) (hp : hI h 252 25 = nI p) (hp2 : p < 1000) (hQ : ∀ h', FrC A25 h h' → hI h' 252 25 = nI (bl T n p) → Q h') : CallV g mX10_blanks (d + 1) (0, 0) [.ref 252] h Q := by
  have n4 := C.2.1
  have key : ∀ k p h', n - p = k → p < 1000 → FrC A25 h h' → hI h' 252 25 = nI p → (∀ h2, FrC A25 h h2 → hI h2 252 25 = nI (bl T n p) → Q h2) → CallV g mX10_blanks (d + 1) (0, 0) [.ref 252] h' Q := by
    intro k
    induction k with
    | zero =>
      intro p h' e p1 f hp hQ
      have C' := C.f5 f
      rw [bl_n (by omega)] at hQ
      refine wX10_blanks_0 C'.1 (m_sign C' hp p1 ⟨C'.1, fun w => ?_, fun _ => hQ h' f hp⟩)
      have : at_ T n p = 32 := (sg_eq (c := 32) C.2.2.2.2 (by omega)).mp w
      have := at_lt (T := T) (n := n) (p := p) (by omega)
      omega
    | succ k ih =>
      intro p h' e p1 f hp hQ
      have C' := C.f5 f
      refine wX10_blanks_0 C'.1 (m_sign C' hp p1 ⟨C'.1, fun w => ?_, fun w => ?_⟩)
      · have a32 : at_ T n p = 32 := (sg_eq (c := 32) C.2.2.2.2 (by omega)).mp w
        have t32 := at_32.mp a32
        rw [hp, nI_1]
        rw [bl_s t32.1 t32.2] at hQ
        exact ih (p + 1) _ (by omega) (by omega) (f.tr (FrC.stI ⟨rfl, rfl⟩)) rdI hQ
      · have a32 : ¬ at_ T n p = 32 := fun z => w ((sg_eq (c := 32) C.2.2.2.2 (by omega)).mpr z)
        rw [nb_bl a32] at hQ
        exact hQ h' f hp
  exact key (n - p) p h rfl hp2 (FrC.rf h) hp hQ
theorem m_isDigit {Q : Int32 → HP → Prop} (C : MT0 T n h) (hp : hI h 252 25 = nI p) (hp2 : p < 1000) (h1 : 48 ≤ at_ T n p ∧ at_ T n p ≤ 57 → Q 1 h) (h0 : ¬ (48 ≤ at_ T n p ∧ at_ T n p ≤ 57) → Q 0 h) : CallI g mX10_isDigit (d + 1) [.ref 252] h Q := by
  refine wX10_isDigit_0 C.1 (m_sign C hp hp2 ⟨C.1, ?_⟩)
  refine m_in C.1 (a := 48) (b := 57) rfl rfl (by decide) (by decide) (fun j j1 j2 ej => ⟨C.1, rfl, h1 ?_⟩) (fun w => ⟨C.1, rfl, h0 (fun z => ?_)⟩)
  · have := (sg_eq (T := T) (n := n) (p := p) (c := j) C.2.2.2.2 (by omega)).mp ej
    omega
  · rcases sg_c (T := T) (n := n) (p := p) C.2.2.2.2 with q | q
    · rw [q.1] at w
      exact w (IN_j z.1 z.2 (by decide))
    · omega
theorem m_fails {c P : Nat} {Q : HP → Prop} (L : Lay h) (hQ : ∀ h', FrC A26 h h' → hI h' 252 26 = (if hI h 252 26 = 0 then nI (1 + 8 * P + c) else hI h 252 26) → Q h') : CallV g mX10_fails d (0, 0) [.ref 252, .int (nI c), .int (nI P)] h Q := by
  refine wX10_fails_0 _ _ L ⟨fun w => ?_, fun w => ?_⟩
  · refine hQ _ (FrC.stI ⟨rfl, rfl⟩) ?_
    rw [rdI, if_pos w, flt]
  · refine hQ _ (FrC.stI ⟨rfl, rfl⟩) ?_
    rw [rdI, if_neg w]
theorem m_stood {t : UInt32} {Q : Int32 → HP → Prop} (C : MT0 T n h) (ht : 6 ≤ t.toNat ∧ t.toNat < 24) (hp : hI h 252 25 = nI p) (hp2 : p < 1000) (hQ : Q (if mW T n (wS t.toNat) p = true then 1 else 0) h) : CallI g mX10_stood (d + 5) [.ref 252, .float t] h Q := by
  have n4 := C.2.1
  obtain ⟨l1, l2⟩ := len_ok ⟨t.toNat, by omega⟩
  have l1 : (wS t.toNat).length = strn t := l1
  have l2 : (wS t.toNat).length ≤ 80 := l2
  have iff := mW_iff (T := T) (n := n) (wS t.toNat) p (fun x hx => let_ok ⟨t.toNat, by omega⟩ ht.1 x hx)
  have hr := rl_le (T := T) (n := n) (n - p) p rfl
  -- the letters one by one
  have cmp : rl T n p = strn t → ∀ k i, i + k = strn t → (∀ j, j < i → T (p + j) = (wS t.toNat).getD j 0) → Sat g mX10_stood (d + 5) (0, 0) (qI Q) 63 [.ref 252, .float t, .double 0, .int 1, .int (nI i)] [] h := by
    intro er k
    induction k with
    | zero =>
      intro i hi hj
      have yes : mW T n (wS t.toNat) p = true := iff.mpr ⟨er.trans l1.symm, fun j h => hj j (by omega)⟩
      rw [if_pos yes] at hQ
      refine wX10_stood_63 t _ _ C.1 ⟨by omega, c_len (by omega) ⟨C.1, fun _ => ⟨rfl, hQ⟩, fun w => absurd (nI_le (by omega) (by omega)) w⟩⟩
    | succ k ih =>
      intro i hi hj
      obtain ⟨e1, e2⟩ := chr_ok ⟨t.toNat, by omega⟩ ⟨i, by omega⟩
      have e1 : strb t i = nI ((wS t.toNat).getD i 0) := e1
      have e2 : (wS t.toNat).getD i 0 < 128 := e2
      refine wX10_stood_63 t _ _ C.1 ⟨by omega, c_len (by omega) ⟨C.1, fun w => absurd w (nI_ge (by omega) (by omega)), fun _ => ⟨fun z => absurd z (by decide), fun _ => ⟨?_, c_charAt (by omega) (by omega) ⟨C.1, ?_⟩⟩⟩⟩⟩
      · rw [hp, nI_add]; exact vn (by omega) (by omega)
      · rw [hp, nI_add, nI_clamp (n := p + i) (by omega), C.2.2.2.1 (p + i) (by omega), e1, nI_1]
        have be := by_eq ⟨T (p + i), C.2.2.2.2 (p + i) (by omega)⟩ ⟨(wS t.toNat).getD i 0, e2⟩
        have be : byI (T (p + i)) = nI ((wS t.toNat).getD i 0) ↔ T (p + i) = (wS t.toNat).getD i 0 := be
        refine ⟨fun w => ih (i + 1) (by omega) (fun j hj2 => ?_), fun w => ?_⟩
        · by_cases c : j = i
          · subst c; exact be.mp w
          · exact hj j (by omega)
        · have no : ¬ mW T n (wS t.toNat) p = true := fun z => w (be.mpr ((iff.mp z).2 i (by omega)))
          rw [if_neg no] at hQ
          refine wX10_stood_63 t _ _ C.1 ⟨by omega, c_len (by omega) ⟨C.1, fun _ => ⟨rfl, hQ⟩, fun _ => ⟨fun _ => ⟨rfl, hQ⟩, fun z => absurd rfl z⟩⟩⟩
  have not_ : ¬ rl T n p = strn t → Sat g mX10_stood (d + 5) (0, 0) (qI Q) 63 [.ref 252, .float t, .double 0, .int 0, .int 0] [] h := fun er => by
    have no : ¬ mW T n (wS t.toNat) p = true := fun z => er ((iff.mp z).1.trans l1)
    rw [if_neg no] at hQ
    exact wX10_stood_63 t _ _ C.1 ⟨by omega, c_len (by omega) ⟨C.1, fun _ => ⟨rfl, hQ⟩, fun _ => ⟨fun _ => ⟨rfl, hQ⟩, fun z => absurd rfl z⟩⟩⟩
  have key : ∀ k m, m + k = rl T n p → rl T n (p + m) = k → Sat g mX10_stood (d + 5) (0, 0) (qI Q) 5 [.ref 252, .float t, .int (nI (p + m)), .double 0, .double 0] [] h := by
    intro k
    induction k with
    | zero =>
      intro m hm hk
      have fin : t.toNat < 24 ∧ CallI g mJ0_length_8abf5 (d + 4) [Value.float t] h (fun i2 h1 => Lay h1 ∧ ((nI (p + m) - nI p) = i2 → Sat g mX10_stood (d + 5) (0, 0) (qI Q) 63 [Value.ref 252, .float t, .double 0, .int 1, .int 0] [] h1) ∧ (¬ ((nI (p + m) - nI p) = i2) → Sat g mX10_stood (d + 5) (0, 0) (qI Q) 63 [Value.ref 252, .float t, .double 0, .int 0, .int 0] [] h1)) := by
        refine ⟨by omega, c_len (by omega) ⟨C.1, fun w => ?_, fun w => ?_⟩⟩
        · rw [pk_sub (by omega)] at w
          have := (nI_eq (by omega) (by omega)).mp w
          exact cmp (by omega) (strn t) 0 (by omega) (fun j hj => by omega)
        · rw [pk_sub (by omega)] at w
          exact not_ (fun z => w (by rw [show p + m - p = strn t by omega]))
      refine wX10_stood_5 t _ C.1 ?_
      rw [hp, C.2.2.1]
      refine ⟨fun _ => fin, fun w => ?_⟩
      have hl : p + m < n := Nat.lt_of_not_le (fun z => w (nI_le z (by omega)))
      rw [nI_clamp (n := p + m) (by omega), C.2.2.2.1 (p + m) hl]
      obtain ⟨-, b2, b3⟩ := by_ok ⟨T (p + m), C.2.2.2.2 (p + m) hl⟩
      have b2 : byI (T (p + m)) < 97 ↔ (T (p + m) < 97 ∨ 128 ≤ T (p + m)) := b2
      have b3 : 122 < byI (T (p + m)) ↔ (122 < T (p + m) ∧ T (p + m) < 128) := b3
      refine ⟨vn (by omega) (by omega), fun _ => fin, fun w1 => ⟨fun _ => fin, fun w2 => ?_⟩⟩
      have q1 : ¬ (T (p + m) < 97 ∨ 128 ≤ T (p + m)) := fun z => w1 (b2.mpr z)
      have q2 : ¬ (122 < T (p + m) ∧ T (p + m) < 128) := fun z => w2 (b3.mpr z)
      rw [rl_s hl (by omega)] at hk
      omega
    | succ k ih =>
      intro m hm hk
      have hl : p + m < n ∧ 97 ≤ T (p + m) ∧ T (p + m) ≤ 122 := Decidable.byContradiction (fun c => by rw [rl_n c] at hk; omega)
      rw [rl_s hl.1 hl.2] at hk
      refine wX10_stood_5 t _ C.1 ?_
      rw [hp, C.2.2.1]
      refine ⟨fun w => absurd w (nI_ge (by omega) (by omega)), fun _ => ?_⟩
      rw [nI_clamp (n := p + m) (by omega), C.2.2.2.1 (p + m) hl.1]
      obtain ⟨-, b2, b3⟩ := by_ok ⟨T (p + m), C.2.2.2.2 (p + m) hl.1⟩
      have b2 : byI (T (p + m)) < 97 ↔ (T (p + m) < 97 ∨ 128 ≤ T (p + m)) := b2
      have b3 : 122 < byI (T (p + m)) ↔ (122 < T (p + m) ∧ T (p + m) < 128) := b3
      refine ⟨vn (by omega) (by omega), fun w => ?_, fun _ => ⟨fun w => ?_, fun _ => ?_⟩⟩
      · have := b2.mp w; omega
      · have := b3.mp w; omega
      · rw [nI_1]
        exact ih (m + 1) (by omega) (by rw [show p + (m + 1) = p + m + 1 by omega]; omega)
  refine wX10_stood_0 t C.1 ?_
  rw [hp]
  exact key (rl T n p) 0 (by omega) rfl
theorem m_digits {Q : Int32 → HP → Prop} (C : MT0 T n h) (hp : hI h 252 25 = nI p) (hp2 : p < 1000) (yes : (48 ≤ at_ T n p ∧ at_ T n p ≤ 57) → (dgN T n p).1 - p ≤ 5 → ∀ h', FrC A25 h h' → hI h' 252 25 = nI (dgN T n p).1 → Q (nI (dgN T n p).2) h') (no : ∀ c h' p' v, ((¬ (48 ≤ at_ T n p ∧ at_ T n p ≤ 57) ∧ c = 0 ∧ p' = p) ∨ ((48 ≤ at_ T n p ∧ at_ T n p ≤ 57) ∧ ¬ (dgN T n p).1 - p ≤ 5 ∧ c = 1 ∧ p' ≤ n)) → FrC A256 h h' → hI h' 252 25 = nI p' → hI h' 252 26 = (if hI h 252 26 = 0 then nI (1 + 8 * p + c) else hI h 252 26) → Q v h') : CallI g mX10_digits (d + 2) [.ref 252, .int 99999] h Q := by
  have n4 := C.2.1
  refine wX10_digits_0 _ C.1 (m_isDigit C hp hp2 (fun dd => ⟨C.1, fun z => absurd z (by decide), fun _ => ?_⟩) (fun nd => ⟨C.1, fun _ => ?_, fun z => absurd rfl z⟩))
  · have hpn : p < n := at_lt (T := T) (by omega)
    obtain ⟨g1, g2, g3⟩ := dg_rg (T := T) (n := n) (p := p) (by omega)
    rw [hp]
    have fin : ∀ h', FrC A25 h h' → hI h' 252 25 = nI (dgN T n p).1 → (5 < (hI h' 252 25 - nI p) → CallV g mX10_fails (d + 1) (0, 0) [Value.ref 252, .int 1, .int (nI p)] h' (fun h3 => Lay h3 ∧ qI Q (some (.int (nI (dgN T n p).2))) h3)) ∧ (¬ (5 < (hI h' 252 25 - nI p)) → (nI (dgN T n p).2 ≤ 99999 → qI Q (some (.int (nI (dgN T n p).2))) h') ∧ (¬ (nI (dgN T n p).2 ≤ 99999) → CallV g mX10_fails (d + 1) (0, 0) [Value.ref 252, .int 1, .int (nI p)] h' (fun h4 => Lay h4 ∧ qI Q (some (.int (nI (dgN T n p).2))) h4))) := by
      intro h' f e
      have C' := C.f5 f
      rw [e, pk_sub g1]
      refine ⟨fun z => m_fails (c := 1) C'.1 (fun h2 f2 e2 => ⟨f2.lay C'.1, no 1 h2 (dgN T n p).1 _ (Or.inr ⟨dd, ?_, rfl, g2⟩) ((f.wd (fun x k w => by unfold A25 at w; unfold A256; omega)).tr (f2.wd (fun x k w => by unfold A26 at w; unfold A256; omega))) ((f2.I (by unfold A26; omega)).trans e) (by rw [e2, f.I (by unfold A25; omega)])⟩), fun z => ⟨fun _ => yes dd (Nat.le_of_not_lt (fun w => z (nI_lt (a := 5) w (by omega)))) h' f e, fun z2 => absurd (nI_le (b := 99999) g3 (by omega)) z2⟩⟩
      have := (nI_ltI (a := 5) (b := (dgN T n p).1 - p) (by omega) (by omega)).mp z
      omega
    have key : ∀ k q v h', q + k = n → p ≤ q → FrC A25 h h' → hI h' 252 25 = nI q → dgF T p k q v = dgN T n p → Sat g mX10_digits (d + 2) (0, 0) (qI Q) 25 [.ref 252, .int 99999, .int (nI p), .int (nI v)] [] h' := by
      intro k
      induction k with
      | zero =>
        intro q v h' e hq f ep hd
        have C' := C.f5 f
        rw [dgF] at hd
        have F := fin h' f (by rw [← hd]; exact ep)
        rw [← hd] at F
        refine wX10_digits_25 _ _ _ C'.1 (m_isDigit C' ep (by omega) (fun w => ?_) (fun w => ⟨C'.1, fun _ => F, fun z => absurd rfl z⟩))
        have := at_lt (T := T) (n := n) (p := q) (by omega)
        omega
      | succ k ih =>
        intro q v h' e hq f ep hd
        have C' := C.f5 f
        rw [dgF] at hd
        have ea : at_ T n q = T q := if_pos (by omega)
        refine wX10_digits_25 _ _ _ C'.1 (m_isDigit C' ep (by omega) (fun w => ⟨C'.1, fun z => absurd z (by decide), fun _ => ?_⟩) (fun w => ⟨C'.1, fun _ => ?_, fun z => absurd rfl z⟩))
        · rw [ea] at w
          rw [if_pos w] at hd
          rw [ep, nI_1, pk_sub hq]
          have nx : ∀ v', v' = (if q - p < 5 then 10 * v + T q - 48 else v) → Sat g mX10_digits (d + 2) (0, 0) (qI Q) 25 [.ref 252, .int 99999, .int (nI p), .int (nI v')] [] (setI h' 252 25 (nI (q + 1))) := fun v' ev => ih (q + 1) v' _ (by omega) (by omega) (f.tr (FrC.stI ⟨rfl, rfl⟩)) rdI (by rw [ev]; exact hd)
          refine ⟨fun z => nx v ?_, fun z => m_sign C' ep (by omega) ⟨C'.1, ?_⟩⟩
          · rw [if_neg (by have := (nI_leI (a := 5) (b := q - p) (by omega) (by omega)).mp z; omega)]
          · have z : q - p < 5 := Nat.lt_of_not_le (fun w => z (nI_le (a := 5) w (by omega)))
            rw [show sgI T n q = nI (T q) from if_pos (by omega), ep, nI_1]
            rw [show (10 : Int32) * nI v = nI (10 * v) from pk_mul 10 v, nI_add, show (48 : Int32) = nI 48 from rfl, pk_sub (by omega)]
            exact nx _ (by rw [if_pos z])
        · rw [ea] at w
          rw [if_neg w] at hd
          have F := fin h' f (by rw [← hd]; exact ep)
          rw [← hd] at F
          exact F
    exact key (n - p) p 0 h (by omega) (Nat.le_refl _) (FrC.rf h) hp rfl
  · rw [hp]
    refine m_fails (c := 0) C.1 (fun h2 f2 e2 => ⟨f2.lay C.1, no 0 h2 p _ (Or.inl ⟨nd, rfl, rfl⟩) (f2.wd (fun x k w => by unfold A26 at w; unfold A256; omega)) ((f2.I (by unfold A26; omega)).trans hp) e2⟩)
end MWD
