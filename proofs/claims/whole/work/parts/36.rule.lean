/-! RULES: steps for a stack, purely, and as both sides do them -/
/-- how many CLAUSES; where a SUM begins, where its TEST; kinds and values of the steps -/
abbrev Pg : Type := Nat × (Nat → Nat) × (Nat → Nat) × (Nat → Nat) × (Nat → Nat)
def tyR (k : Nat) (ts ts' : List Bool) : Prop := (k ≤ 1 ∧ ts' = false :: ts) ∨ (k = 14 ∧ ∃ r, ts = true :: r ∧ ts' = true :: r) ∨ (2 ≤ k ∧ k ≤ 6 ∧ ∃ r, ts = false :: false :: r ∧ ts' = false :: r) ∨ (7 ≤ k ∧ k ≤ 11 ∧ ∃ r, ts = false :: false :: r ∧ ts' = true :: r) ∨ (12 ≤ k ∧ k ≤ 13 ∧ ∃ r, ts = true :: true :: r ∧ ts' = true :: r)
def OkS (kd vl : Nat → Nat) : Nat → Nat → List Bool → List Bool → Prop
  | _, 0, ts, te => ts = te
  | i, n + 1, ts, te => ts.length ≤ 31 ∧ (kd i = 0 → vl i ≤ 99999) ∧ (kd i = 1 → vl i < 12) ∧ ∃ ts', tyR (kd i) ts ts' ∧ OkS kd vl (i + 1) n ts' te
theorem OkS.app {kd vl : Nat → Nat} : ∀ {n m i : Nat} {a b c : List Bool}, OkS kd vl i n a b → OkS kd vl (i + n) m b c → OkS kd vl i (n + m) a c
  | 0, m, i, a, b, c, h1, h2 => by
    have e : a = b := h1
    subst e
    rw [Nat.zero_add]
    exact h2
  | n + 1, m, i, a, b, c, h1, h2 => by
    obtain ⟨q1, q2, q3, ts, q4, q5⟩ := h1
    rw [show n + 1 + m = (n + m) + 1 by omega]
    exact ⟨q1, q2, q3, ts, q4, OkS.app q5 (by rw [show i + 1 + n = i + (n + 1) by omega]; exact h2)⟩
theorem OkS.congr {kd vl kd' vl' : Nat → Nat} : ∀ {n i : Nat} {a b : List Bool}, OkS kd vl i n a b → (∀ j, i ≤ j → j < i + n → kd' j = kd j ∧ vl' j = vl j) → OkS kd' vl' i n a b
  | 0, _, _, _, h, _ => h
  | n + 1, i, a, b, h, e => by
    obtain ⟨q1, q2, q3, ts, q4, q5⟩ := h
    obtain ⟨e1, e2⟩ := e i (by omega) (by omega)
    refine ⟨q1, ?_, ?_, ts, ?_, OkS.congr q5 (fun j h1 h2 => e j (by omega) (by omega))⟩
    · rw [e1, e2]; exact q2
    · rw [e1, e2]; exact q3
    · rw [e1]; exact q4
def opP (k : Nat) (a b : Int64) : Int64 := match k with
  | 2 => a + b
  | 3 => a - b
  | 4 => a * b
  | 5 => if b = 0 then 0 else a / b
  | 6 => if b = 0 then 0 else a - a / b * b
  | 7 => if a < b then 1 else 0
  | 8 => if a ≤ b then 1 else 0
  | 9 => if a = b then 1 else 0
  | 10 => if b ≤ a then 1 else 0
  | 11 => if b < a then 1 else 0
  | 12 => a &&& b
  | _ => a ||| b
def stP (kd vl : Nat → Nat) (env : Nat → Int64) (i : Nat) (s : List Int64) : List Int64 := if kd i = 0 then (nI (vl i)).toInt64 :: s else if kd i = 1 then env (vl i) :: s else if kd i = 14 then (match s with
  | a :: s => (1 - a) :: s
  | [] => []) else (match s with
  | b :: a :: s => opP (kd i) a b :: s
  | s => s)
def runP (kd vl : Nat → Nat) (env : Nat → Int64) : Nat → Nat → List Int64 → List Int64
  | _, 0, s => s
  | i, n + 1, s => runP kd vl env (i + 1) n (stP kd vl env i s)
def valP (kd vl : Nat → Nat) (env : Nat → Int64) (i n : Nat) : Int64 := (runP kd vl env i n []).headD 0
def evalC (P : Pg) (env : Nat → Int64) : Nat → Nat → Int64
  | 0, _ => 0
  | k + 1, c => if P.2.2.1 c = P.2.1 (c + 1) ∨ ¬ valP P.2.2.2.1 P.2.2.2.2 env (P.2.2.1 c) (P.2.1 (c + 1) - P.2.2.1 c) = 0 then valP P.2.2.2.1 P.2.2.2.2 env (P.2.1 c) (P.2.2.1 c - P.2.1 c) else evalC P env k (c + 1)
def evalR (P : Pg) : Rl := fun env => evalC P env P.1 0
def PgOK (P : Pg) : Prop := P.1 ≤ 12 ∧ ∀ c, c < P.1 → P.2.1 c ≤ P.2.2.1 c ∧ P.2.2.1 c ≤ P.2.1 (c + 1) ∧ P.2.1 (c + 1) ≤ 299 ∧ OkS P.2.2.2.1 P.2.2.2.2 (P.2.1 c) (P.2.2.1 c - P.2.1 c) [] [false] ∧ (P.2.2.1 c < P.2.1 (c + 1) → OkS P.2.2.2.1 P.2.2.2.2 (P.2.2.1 c) (P.2.1 (c + 1) - P.2.2.1 c) [] [true])
theorem PgOK.mono {P : Pg} (h : PgOK P) {c : Nat} : ∀ k, c + k ≤ P.1 → P.2.1 c ≤ P.2.1 (c + k)
  | 0, _ => Nat.le_refl _
  | k + 1, hk => by
    have := PgOK.mono h (c := c) k (by omega)
    have := h.2 (c + k) (by omega)
    rw [show c + (k + 1) = c + k + 1 by omega]
    omega
/-- TESTS answer 0 or 1 -/
def BoS : List Bool → List Int64 → Prop
  | [], [] => True
  | t :: ts, v :: s => (t = true → v = 0 ∨ v = 1) ∧ BoS ts s
  | _, _ => False
theorem BoS.st {kd vl : Nat → Nat} {env : Nat → Int64} {i : Nat} {ts ts' : List Bool} {s : List Int64} (h : BoS ts s) (q : tyR (kd i) ts ts') : BoS ts' (stP kd vl env i s) := by
  unfold stP
  rcases q with ⟨q1, rfl⟩ | ⟨q1, r, rfl, rfl⟩ | ⟨q1, q2, r, rfl, rfl⟩ | ⟨q1, q2, r, rfl, rfl⟩ | ⟨q1, q2, r, rfl, rfl⟩
  · by_cases c : kd i = 0
    · rw [if_pos c]; exact ⟨fun w => absurd w (by simp), h⟩
    · rw [if_neg c, if_pos (by omega)]; exact ⟨fun w => absurd w (by simp), h⟩
  · rw [if_neg (by omega), if_neg (by omega), if_pos q1]
    cases s with
    | nil => exact absurd h id
    | cons a s =>
      refine ⟨fun _ => ?_, h.2⟩
      rcases h.1 rfl with rfl | rfl
      · exact Or.inr rfl
      · exact Or.inl rfl
  · rw [if_neg (by omega), if_neg (by omega), if_neg (by omega)]
    rcases s with _ | ⟨b, _ | ⟨a, s⟩⟩
    · exact absurd h id
    · exact absurd h.2 id
    · exact ⟨fun w => absurd w (by simp), h.2.2⟩
  · rw [if_neg (by omega), if_neg (by omega), if_neg (by omega)]
    rcases s with _ | ⟨b, _ | ⟨a, s⟩⟩
    · exact absurd h id
    · exact absurd h.2 id
    · refine ⟨fun _ => ?_, h.2.2⟩
      rcases (show kd i = 7 ∨ kd i = 8 ∨ kd i = 9 ∨ kd i = 10 ∨ kd i = 11 by omega) with e | e | e | e | e <;> rw [e] <;> simp only [opP] <;> split <;> simp
  · rw [if_neg (by omega), if_neg (by omega), if_neg (by omega)]
    rcases s with _ | ⟨b, _ | ⟨a, s⟩⟩
    · exact absurd h id
    · exact absurd h.2 id
    · refine ⟨fun _ => ?_, h.2.2⟩
      rcases (show kd i = 12 ∨ kd i = 13 by omega) with e | e <;> rw [e] <;> rcases h.1 rfl with rfl | rfl <;> rcases h.2.1 rfl with rfl | rfl <;> decide
theorem BoS.run {kd vl : Nat → Nat} {env : Nat → Int64} : ∀ {n i : Nat} {ts te : List Bool} {s : List Int64}, BoS ts s → OkS kd vl i n ts te → BoS te (runP kd vl env i n s)
  | 0, _, ts, te, s, h, e => by have e : ts = te := e; subst e; exact h
  | n + 1, i, ts, te, s, h, e => by
    obtain ⟨-, -, -, ts', q4, q5⟩ := e
    exact BoS.run (n := n) (i := i + 1) (ts := ts') (te := te) (s := stP kd vl env i s) (h.st q4) q5
theorem BoS.len : ∀ {ts : List Bool} {s : List Int64}, BoS ts s → s.length = ts.length
  | [], [], _ => rfl
  | _ :: ts, _ :: s, h => by simp [BoS.len h.2]
  | [], _ :: _, h => absurd h id
  | _ :: _, [], h => absurd h id
theorem val_bool {kd vl : Nat → Nat} {env : Nat → Int64} {i n : Nat} (h : OkS kd vl i n [] [true]) : valP kd vl env i n = 0 ∨ valP kd vl env i n = 1 := by
  have := BoS.run (env := env) (ts := []) (s := []) (show BoS [] [] from trivial) h
  unfold valP
  generalize runP kd vl env i n [] = r at this ⊢
  rcases r with _ | ⟨v, _ | ⟨w, s⟩⟩
  · exact absurd this id
  · exact this.1 rfl
  · exact absurd this.2 id
/-- a stack in an array of longs -/
def StkIs (h : HP) (A : Nat) : List Int64 → Prop
  | [] => True
  | v :: s => hJ h A s.length = v ∧ StkIs h A s
theorem StkIs.set {h : HP} {A k : Nat} {v : Int64} : ∀ {s : List Int64}, StkIs h A s → s.length ≤ k → StkIs (setJ h A k v) A s
  | [], _, _ => trivial
  | x :: s, hs, hk => by
    simp at hk
    exact ⟨by rw [rdnJ (by omega)]; exact hs.1, hs.2.set (by omega)⟩
theorem StkIs.push {h : HP} {A : Nat} {v : Int64} {s : List Int64} (hs : StkIs h A s) : StkIs (setJ h A s.length v) A (v :: s) := ⟨rdJ, hs.set (Nat.le_refl _)⟩
theorem StkIs.fr {h h' : HP} {A : Nat} : ∀ {s : List Int64}, StkIs h A s → (∀ k, hJ h' A k = hJ h A k) → StkIs h' A s
  | [], _, _ => trivial
  | _ :: _, hs, e => ⟨by rw [e]; exact hs.1, hs.2.fr e⟩
/-- the reference's number of a step's kind -/
def sg (k : Nat) : Nat := match k with
  | 4 => 13
  | 5 => 14
  | 6 => 15
  | 7 => 4
  | 8 => 5
  | 9 => 6
  | 10 => 7
  | 11 => 8
  | 12 => 10
  | 13 => 11
  | 14 => 9
  | k => k
def MRule (h : HP) (r : Nat) (P : Pg) : Prop := r < 6 ∧ PgOK P ∧ hI h 279 r = nI P.1 ∧ (∀ c, c < P.1 → hI h 280 (12 * r + c) = nI (P.2.1 c) ∧ hI h 281 (12 * r + c) = nI (P.2.2.1 c) ∧ hI h 282 (12 * r + c) = nI (P.2.1 (c + 1))) ∧ ∀ i, i < P.2.1 P.1 → hI h 277 (300 * r + i) = nI (sg (P.2.2.2.1 i)) ∧ hI h 278 (300 * r + i) = nI (P.2.2.2.2 i)
theorem MRule.to {h h' : HP} {r : Nat} {P : Pg} (H : MRule h r P) (e : ∀ x k, 277 ≤ x ∧ x ≤ 282 → hI h' x k = hI h x k) : MRule h' r P := by
  obtain ⟨h1, h2, h3, h4, h5⟩ := H
  refine ⟨h1, h2, by rw [e _ _ (by omega)]; exact h3, fun c hc => ?_, fun i hi => ?_⟩
  · rw [e _ _ (by omega), e _ _ (by omega), e _ _ (by omega)]; exact h4 c hc
  · rw [e _ _ (by omega), e _ _ (by omega)]; exact h5 i hi
section RU
variable {g : GT} {d : Nat} {h : HP}
theorem m_truth1 {QJ : Int64 → HP → Prop} (L : Lay h) (hQ : QJ 1 h) : CallJ g mX10_truth d [.int 1] h QJ := wX10_truth_0 1 L ⟨fun c => absurd c (by decide), fun _ => hQ⟩
theorem m_truth0 {QJ : Int64 → HP → Prop} (L : Lay h) (hQ : QJ 0 h) : CallJ g mX10_truth d [.int 0] h QJ := wX10_truth_0 0 L ⟨fun _ => hQ, fun c => absurd rfl c⟩
theorem l0_eq (x : Int64) : (lg_cmp x 0 = 0) ↔ x = 0 := lg_cmp_eq x 0
theorem m_both {k : Nat} {a b : Int64} {QJ : Int64 → HP → Prop} (L : Lay h) (h1 : 2 ≤ k) (h2 : k ≤ 13) (hQ : QJ (opP k a b) h) : CallJ g mX10_both (d + 1) [.int (nI (sg k)), .long a, .long b] h QJ := by
  refine wX10_both_0 _ a b L ?_
  simp only [lg_cmp_ge, lg_cmp_gt, lg_cmp_eq, lg_cmp_lt, lg_cmp_le]
  rcases (show k = 2 ∨ k = 3 ∨ k = 4 ∨ k = 5 ∨ k = 6 ∨ k = 7 ∨ k = 8 ∨ k = 9 ∨ k = 10 ∨ k = 11 ∨ k = 12 ∨ k = 13 by omega) with rfl | rfl | rfl | rfl | rfl | rfl | rfl | rfl | rfl | rfl | rfl | rfl <;> simp only [opP] at hQ <;> (repeat refine ⟨fun c => absurd c (by decide), fun _ => ?_⟩) <;> refine ⟨fun _ => ?_, fun c => absurd rfl c⟩
  · exact hQ
  · exact hQ
  · exact hQ
  · refine ⟨fun c => ?_, fun c => ⟨c, ?_⟩⟩
    · rw [if_pos c] at hQ; exact hQ
    · rw [if_neg c] at hQ; exact hQ
  · refine ⟨fun c => ?_, fun c => ⟨c, ?_⟩⟩
    · rw [if_pos c] at hQ; exact hQ
    · rw [if_neg c] at hQ; exact hQ
  · refine ⟨fun c => ?_, fun c => ?_⟩
    · rw [if_neg (Int64.not_lt.mpr c)] at hQ; exact m_truth0 L ⟨L, hQ⟩
    · rw [if_pos (Int64.not_le.mp c)] at hQ; exact m_truth1 L ⟨L, hQ⟩
  · refine ⟨fun c => ?_, fun c => ?_⟩
    · rw [if_neg (Int64.not_le.mpr c)] at hQ; exact m_truth0 L ⟨L, hQ⟩
    · rw [if_pos (Int64.not_lt.mp c)] at hQ; exact m_truth1 L ⟨L, hQ⟩
  · refine ⟨fun c => ?_, fun c => ?_⟩
    · rw [if_pos c] at hQ; exact m_truth1 L ⟨L, hQ⟩
    · rw [if_neg c] at hQ; exact m_truth0 L ⟨L, hQ⟩
  · refine ⟨fun c => ?_, fun c => ?_⟩
    · rw [if_neg (Int64.not_le.mpr c)] at hQ; exact m_truth0 L ⟨L, hQ⟩
    · rw [if_pos (Int64.not_lt.mp c)] at hQ; exact m_truth1 L ⟨L, hQ⟩
  · refine ⟨fun c => ?_, fun c => ?_⟩
    · rw [if_neg (Int64.not_lt.mpr c)] at hQ; exact m_truth0 L ⟨L, hQ⟩
    · rw [if_pos (Int64.not_le.mp c)] at hQ; exact m_truth1 L ⟨L, hQ⟩
  · exact hQ
  · exact hQ
theorem c_join {k : Nat} {a b : Int64} {QJ : Int64 → HP → Prop} (L : Lay h) (h1 : 2 ≤ k) (h2 : k ≤ 13) (hQ : QJ (opP k a b) h) : CallJ g mX4_join d [.int (nI k), .long a, .long b] h QJ := by
  refine wX4_join_0 _ a b L ?_
  simp only [lg_cmp_ge, lg_cmp_gt, lg_cmp_eq, lg_cmp_lt, lg_cmp_le]
  rcases (show k = 2 ∨ k = 3 ∨ k = 4 ∨ k = 5 ∨ k = 6 ∨ k = 7 ∨ k = 8 ∨ k = 9 ∨ k = 10 ∨ k = 11 ∨ k = 12 ∨ k = 13 by omega) with rfl | rfl | rfl | rfl | rfl | rfl | rfl | rfl | rfl | rfl | rfl | rfl <;> simp only [opP] at hQ <;> (repeat refine ⟨fun c => absurd c (by decide), fun _ => ?_⟩) <;> refine ⟨fun _ => ?_, fun c => absurd rfl c⟩
  · exact hQ
  · exact hQ
  · exact hQ
  · refine ⟨fun c => ?_, fun c => ⟨c, ?_⟩⟩
    · rw [if_pos c] at hQ; exact hQ
    · rw [if_neg c] at hQ; exact hQ
  · refine ⟨fun c => ?_, fun c => ⟨c, ?_⟩⟩
    · rw [if_pos c] at hQ; exact hQ
    · rw [if_neg c] at hQ; exact hQ
  · refine ⟨fun c => ?_, fun c => ?_⟩
    · rw [if_neg (Int64.not_lt.mpr c)] at hQ; exact hQ
    · rw [if_pos (Int64.not_le.mp c)] at hQ; exact hQ
  · refine ⟨fun c => ?_, fun c => ?_⟩
    · rw [if_neg (Int64.not_le.mpr c)] at hQ; exact hQ
    · rw [if_pos (Int64.not_lt.mp c)] at hQ; exact hQ
  · refine ⟨fun c => ?_, fun c => ?_⟩
    · rw [if_pos c] at hQ; exact hQ
    · rw [if_neg c] at hQ; exact hQ
  · refine ⟨fun c => ?_, fun c => ?_⟩
    · rw [if_neg (Int64.not_le.mpr c)] at hQ; exact hQ
    · rw [if_pos (Int64.not_lt.mp c)] at hQ; exact hQ
  · refine ⟨fun c => ?_, fun c => ?_⟩
    · rw [if_neg (Int64.not_lt.mpr c)] at hQ; exact hQ
    · rw [if_pos (Int64.not_le.mp c)] at hQ; exact hQ
  · exact hQ
  · exact hQ
theorem sg_ne {k : Nat} : (k ≤ 1 → sg k = k) ∧ (k = 14 → sg k = 9) ∧ (2 ≤ k → k ≤ 13 → 2 ≤ sg k ∧ sg k ≤ 15 ∧ ¬ sg k = 9) := by
  refine ⟨fun h => ?_, fun h => by subst h; rfl, fun h1 h2 => ?_⟩
  · rcases (show k = 0 ∨ k = 1 by omega) with rfl | rfl <;> rfl
  · rcases (show k = 2 ∨ k = 3 ∨ k = 4 ∨ k = 5 ∨ k = 6 ∨ k = 7 ∨ k = 8 ∨ k = 9 ∨ k = 10 ∨ k = 11 ∨ k = 12 ∨ k = 13 by omega) with rfl | rfl | rfl | rfl | rfl | rfl | rfl | rfl | rfl | rfl | rfl | rfl <;> decide
theorem l_answer {b0 : Nat × Nat} {Q : Option Value → HP → Prop} {r : Nat} {kd vl : Nat → Nat} {env : Nat → Int64} {e : Nat} (hr : r < 6) (he : e ≤ 299) (L : Lay h) (hS : ∀ i, i < e → hI h 277 (300 * r + i) = nI (sg (kd i)) ∧ hI h 278 (300 * r + i) = nI (vl i)) (hA : ∀ k, k < 12 → hJ h 284 k = env k) : ∀ n i (ts te : List Bool) (s : List Int64) (h' : HP), i + n = e → OkS kd vl i n ts te → BoS ts s → te.length = 1 → FrC (fun x _ => x = 285) h h' → StkIs h' 285 s → (∀ h'', FrC (fun x _ => x = 285) h h'' → Q (some (.long ((runP kd vl env i n s).headD 0))) h'') → Sat g mX10_answer (d + 2) b0 Q 6 [.ref 252, .int (nI r), .double 0, .int (nI e), .int (nI s.length), .int (nI i), .double 0, .double 0] [] h'
  | 0, i, ts, te, s, h', hi, ok, bo, h1, f, st, hQ => by
    have e1 : ts = te := ok
    subst e1
    have hl := bo.len
    rw [h1] at hl
    refine wX10_answer_6 _ _ _ _ (f.lay L) ⟨fun _ => ?_, fun c => absurd (nI_le (by omega) (by omega)) c⟩
    have := hQ h' f
    rcases s with _ | ⟨v, _ | ⟨w, s⟩⟩
    · simp at hl
    · rw [show hJ h' 285 0 = v from st.1]
      exact this
    · simp at hl
  | n + 1, i, ts, te, s, h', hi, ok, bo, h1, f, st, hQ => by
    obtain ⟨q1, q2, q3, ts', q4, q5⟩ := ok
    have bo' := bo.st (vl := vl) (env := env) q4
    have hl := bo.len
    have hls : s.length ≤ 31 := by rw [hl]; exact q1
    have L' := f.lay L
    obtain ⟨s1, s2⟩ := hS i (by omega)
    have ei : 300 * nI r + nI i = nI (300 * r + i) := by rw [show (300 : Int32) = nI 300 from rfl, pk_mul, nI_add]
    refine wX10_answer_6 _ _ _ _ L' ?_
    rw [ei, nI_clamp (n := 300 * r + i) (by omega), f.I (by omega), f.I (by omega), s1, s2, nI_1, nI_clamp (n := s.length) (by omega), nI_1]
    refine ⟨fun c => absurd c (nI_ge (by omega) (by omega)), fun _ => ⟨vn (by omega) (by omega), ?_⟩⟩
    have next : ∀ h2, FrC (fun x _ => x = 285) h' h2 → StkIs h2 285 (stP kd vl env i s) → Sat g mX10_answer (d + 2) b0 Q 6 [.ref 252, .int (nI r), .double 0, .int (nI e), .int (nI (stP kd vl env i s).length), .int (nI (i + 1)), .double 0, .double 0] [] h2 := fun h2 f2 st2 => l_answer hr he L hS hA n (i + 1) ts' te _ h2 (by omega) q5 bo' h1 (f.tr f2) st2 hQ
    unfold stP at next
    rcases q4 with ⟨z1, -⟩ | ⟨z1, r1, rfl, -⟩ | z
    · rw [sg_ne.1 z1]
      rcases (show kd i = 0 ∨ kd i = 1 by omega) with c | c
      · rw [c]
        rw [c] at next
        refine ⟨fun _ => ⟨fun _ => ⟨vn (by omega) (by omega), next _ (FrC.stJ rfl) st.push⟩, fun w => absurd rfl w⟩, fun w => absurd rfl w⟩
      · rw [c]
        rw [c] at next
        have hv := q3 c
        rw [nI_clamp (n := vl i) (by omega), f.J (by omega), hA _ hv]
        refine ⟨fun w => absurd w (by decide), fun _ => ⟨fun _ => ⟨fun w => absurd w (by decide), fun _ => ⟨vn (by omega) (by omega), vn (by omega) (by omega), next _ (FrC.stJ rfl) st.push⟩⟩, fun w => absurd rfl w⟩⟩
    · rw [sg_ne.2.1 z1]
      rw [z1] at next
      rcases s with _ | ⟨v, s⟩
      · exact absurd bo id
      · simp only [List.length_cons] at hls next ⊢
        rw [nI_pred, nI_clamp (n := s.length) (by omega), st.1]
        refine ⟨fun w => absurd w (by decide), fun _ => ⟨fun w => absurd w (by decide), fun _ => ⟨fun _ => ⟨vn (by omega) (by omega), next _ (FrC.stJ rfl) st.2.push⟩, fun w => absurd rfl w⟩⟩⟩
    · have zz : 2 ≤ kd i ∧ kd i ≤ 13 ∧ ∃ x y r1, ts = x :: y :: r1 := by
        rcases z with ⟨z1, z2, r1, z3, -⟩ | ⟨z1, z2, r1, z3, -⟩ | ⟨z1, z2, r1, z3, -⟩ <;> exact ⟨by omega, by omega, _, _, r1, z3⟩
      obtain ⟨z1, z2, x, y, r1, rfl⟩ := zz
      obtain ⟨g1, g2, g3⟩ := sg_ne.2.2 z1 z2
      rw [if_neg (by omega), if_neg (by omega), if_neg (by omega)] at next
      rcases s with _ | ⟨v, _ | ⟨u, s⟩⟩
      · exact absurd bo id
      · exact absurd bo.2 id
      · simp only [List.length_cons] at hls next ⊢
        rw [pk_m1, nI_pred s.length, nI_clamp (n := s.length) (by omega), nI_clamp (n := s.length + 1) (by omega), st.2.1, show hJ h' 285 (s.length + 1) = v from st.1]
        refine ⟨fun w => absurd w (nI_ne0 (by omega) (by omega)), fun _ => ⟨fun w => ?_, fun _ => ⟨fun w => ?_, fun _ => ⟨vn (by omega) (by omega), vn (by omega) (by omega), m_both L' z1 z2 ⟨L', next _ (FrC.stJ rfl) st.2.2.push⟩⟩⟩⟩⟩
        · have := (nI_eq (a := sg (kd i)) (b := 1) (by omega) (by omega)).mp w
          omega
        · have := (nI_eq (a := sg (kd i)) (b := 9) (by omega) (by omega)).mp w
          omega
end RU
