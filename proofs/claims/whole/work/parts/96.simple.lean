/-! force, seed, note, count on both sides -/
section SI
variable {g : GT} {d : Nat} {h : HP} {t : Tw} {ρ : Option Rl}
theorem fo_cases (x : Int32) {cnt : Nat} (hc : cnt ≤ 6) : (∃ c, c ≤ cnt ∧ x = pl c) ∨ ((x < -1 ∨ (¬ x < -1 ∧ ¬ x < nI cnt)) ∧ ∀ c, c ≤ cnt → ¬ x = pl c) := by
  by_cases e : x = -1
  · exact Or.inl ⟨0, Nat.zero_le _, e⟩
  by_cases c0 : x < 0
  · right
    have m1 : x < -1 := by
      rw [Int32.lt_iff_toInt_lt] at c0 ⊢
      have h0 : (0 : Int32).toInt = 0 := rfl
      have h1 : (-1 : Int32).toInt = -1 := rfl
      have : ¬ x.toInt = -1 := fun z => e (Int32.toInt_inj.mp (by rw [z, h1]))
      omega
    refine ⟨Or.inl m1, fun c hc' z => ?_⟩
    rcases pl_cases c with ⟨q, _⟩ | ⟨j, _, q⟩
    · exact e (z.trans q)
    · rw [z, q] at c0; exact nI_pos (by omega) c0
  · obtain ⟨j, hj, rfl⟩ := nI_of c0
    by_cases c1 : j < cnt
    · exact Or.inl ⟨j + 1, by omega, (pl_s j).symm⟩
    · right
      have n1 : ¬ nI j < -1 := fun z => by
        rw [Int32.lt_iff_toInt_lt, nI_toInt hj] at z
        have h1 : (-1 : Int32).toInt = -1 := rfl
        omega
      refine ⟨Or.inr ⟨n1, fun z => c1 ((nI_ltI hj (by omega)).mp z)⟩, fun c hc' z => ?_⟩
      rcases pl_cases c with ⟨q, _⟩ | ⟨j', hj', q⟩
      · exact e (z.trans q)
      · have := (nI_eq hj (by omega)).mp (z.trans q)
        omega
theorem pl_lt {c cnt : Nat} (h : c ≤ cnt) (hc : cnt ≤ 6) : ¬ pl c < -1 ∧ pl c < nI cnt := by
  rcases pl_cases c with ⟨q, _⟩ | ⟨j, hj, q⟩
  · rw [q]
    refine ⟨by decide, ?_⟩
    rw [Int32.lt_iff_toInt_lt, nI_toInt (by omega)]
    have h1 : (-1 : Int32).toInt = -1 := rfl
    omega
  · rw [q]
    refine ⟨fun z => ?_, nI_lt (by omega) (by omega)⟩
    rw [Int32.lt_iff_toInt_lt, nI_toInt (by omega)] at z
    have h1 : (-1 : Int32).toInt = -1 := rfl
    omega
theorem c_force {x : Int32} {cnt : Nat} {Q : Int32 → HP → Prop} (L : Lay h) (hc : cnt ≤ 6) (e03 : hI h 0 3 = nI cnt) (no : (∀ c, c ≤ cnt → ¬ x = pl c) → Q (-2) h) (yes : ∀ c, c ≤ cnt → x = pl c → Q (hI h 3 7) (setI h 3 7 (pl c))) : CallI g mX9_force d [.ref 0, .int x] h Q := by
  refine wX9_force_0 _ L ?_
  rw [e03]
  rcases fo_cases x hc with ⟨c, hc', rfl⟩ | ⟨z, n⟩
  · have := pl_lt hc' hc
    exact ⟨fun w => absurd w this.1, fun _ => ⟨fun _ => yes c hc' rfl, fun w => absurd this.2 w⟩⟩
  · exact ⟨fun _ => no n, fun w => ⟨fun w2 => absurd w2 (z.elim (fun y => absurd y w) (fun y => y.2)), fun _ => no n⟩⟩
theorem i64_le {a b : Int32} : a.toInt64 ≤ b.toInt64 ↔ a ≤ b := by
  rw [Int64.le_iff_toInt_le, Int32.le_iff_toInt_le, Int32.toInt_toInt64, Int32.toInt_toInt64]
theorem i64_lt {a b : Int32} : a.toInt64 < b.toInt64 ↔ a < b := by
  rw [Int64.lt_iff_toInt_lt, Int32.lt_iff_toInt_lt, Int32.toInt_toInt64, Int32.toInt_toInt64]
def aCount (t : Tw) (cnt : Nat) (c : Nat) (nts ac x n : Nat) (w : Int32) : Int32 := if w = 0 then nI (t.1 0) else if w = 1 then nI (t.1 1) else if w = 2 then nI (t.1 2) else if w = 3 then nI (t.1 3) else if w = 4 then nI cnt else if w = 5 then pl c else if w = 6 then nI (t.1 4) else if w = 7 then sumI (farT t) (t.1 3) else if w = 8 then sumI (t.2 1) (t.1 2) else if w = 9 then sumI (t.2 8) (t.1 3) else if w = 10 then nI nts else if w = 11 then nI ac else if w = 12 then nI x else if w = 13 then nI n else -1
theorem m_force {x : Int32} {cnt : Nat} {Q : Int32 → HP → Prop} (L : Lay h) (hc : cnt ≤ 6) (e28 : hI h 252 28 = nI cnt) (no : (∀ c, c ≤ cnt → ¬ x = pl c) → Q (-2) h) (yes : ∀ c, c ≤ cnt → x = pl c → Q (hI h 253 7) (setI h 253 7 (pl c))) : CallI g mX10_force (d + 1) [.ref 252, .int x] h Q := by
  refine wX10_force_0 _ L ?_
  rw [e28]
  refine wX10_in_0 _ _ _ L ?_
  have e1 : lg_cmp x.toInt64 (-1) < 0 ↔ x < -1 := by
    rw [lg_cmp_lt, show (-1 : Int64) = (-1 : Int32).toInt64 from rfl]; exact i64_lt
  have e2 : 0 < lg_cmp x.toInt64 (nI cnt - 1).toInt64 ↔ pl cnt < x := by
    rw [lg_cmp_gt]; exact i64_lt
  have plle : ∀ c, c ≤ cnt → ¬ pl cnt < pl c := fun c hc' z => by
    have q := pl_lt hc' hc
    rcases pl_cases cnt with ⟨q1, q2⟩ | ⟨j, hj, q1⟩
    · rcases pl_cases c with ⟨q3, _⟩ | ⟨j', hj', q3⟩
      · rw [q1, q3] at z; exact absurd z (by decide)
      · omega
    · rcases pl_cases c with ⟨q3, _⟩ | ⟨j', hj', q3⟩
      · rw [q1, q3] at z
        rw [Int32.lt_iff_toInt_lt, nI_toInt (by omega)] at z
        have h1 : (-1 : Int32).toInt = -1 := rfl
        omega
      · rw [q1, q3] at z
        have := (nI_ltI (by omega) (by omega)).mp z
        omega
  rw [e1, e2]
  rcases fo_cases x hc with ⟨c, hc', rfl⟩ | ⟨z, n⟩
  · exact ⟨fun w => absurd w (pl_lt hc' hc).1, fun _ => ⟨fun w => absurd w (plle c hc'), fun _ => ⟨L, fun w => absurd w (by decide), fun _ => yes c hc' rfl⟩⟩⟩
  · refine ⟨fun _ => ⟨L, fun _ => no n, fun w => absurd rfl w⟩, fun w => ⟨fun _ => ⟨L, fun _ => no n, fun w => absurd rfl w⟩, fun w2 => ?_⟩⟩
    have z2 := z.elim (fun y => absurd y w) (fun y => y.2)
    -- between -1 and cnt - 1 after all
    exfalso
    by_cases c0 : x < 0
    · have : x = -1 := by
        rw [Int32.lt_iff_toInt_lt] at c0 w
        apply Int32.toInt_inj.mp
        have h0 : (0 : Int32).toInt = 0 := rfl
        have h1 : (-1 : Int32).toInt = -1 := rfl
        omega
      exact n 0 (Nat.zero_le _) this
    · obtain ⟨j, hj, rfl⟩ := nI_of c0
      have j1 : cnt ≤ j := Nat.le_of_not_lt (fun y => z2 (nI_lt y (by omega)))
      apply w2
      rcases pl_cases cnt with ⟨q1, q2⟩ | ⟨j', hj', q1⟩
      · rw [q1, Int32.lt_iff_toInt_lt, nI_toInt hj]
        have h1 : (-1 : Int32).toInt = -1 := rfl
        omega
      · rw [q1]; exact nI_lt (by omega) hj
theorem c_note {n q b : Int32} {N : Nts} {Q : Int32 → HP → Prop} (C : CZ h ρ t) (H : CNt h N) (hN : NtOK N t) (h0 : n = -1 → Q 0 (setI h 3 6 0)) (no : ¬ n = -1 → (∀ n' q' : Nat, n' ≤ 60 → q' < t.1 3 → n = nI n' → q = nI q' → (b = -1 ∨ ∃ j, j < t.1 2 ∧ b = nI j) → N.1 = 10) → Q (-2) h) (yes : ¬ n = -1 → ∀ n' q' : Nat, n' ≤ 60 → q' < t.1 3 → n = nI n' → q = nI q' → (b = -1 ∨ ∃ j, j < t.1 2 ∧ b = nI j) → N.1 < 10 → Q (nI (N.1 + 1)) (setI (setI (setI (setI h 24 N.1 n) 25 N.1 q) 26 N.1 b) 3 6 (nI (N.1 + 1)))) : CallI g mX9_note (d + 2) [.ref 0, .int n, .int q, .int b] h Q := by
  obtain ⟨L, T, R, F⟩ := C
  have hB := T.2.1
  unfold TB at hB
  have n10 := hN.1
  obtain ⟨kE, ⟨-, -, -, r3, r4, r5⟩, -, -, ⟨k3, k4, k5⟩, nn3, nn4, nn5⟩ := Lle_3 L
  -- it is a NIGHT, and the LODGER is asked for
  have tail : ¬ n = -1 → (b = -1 ∨ ∃ j, j < t.1 2 ∧ b = nI j) → (n < 0 → qI Q (some (.int (-2))) h) ∧ (¬ (n < 0) → (60 < n → qI Q (some (.int (-2))) h) ∧ (¬ (60 < n) → CallI g mX8_hasLodger (d + 1) [Value.ref 4, .int q] h (fun i4 h3 => Lay h3 ∧ (i4 = 0 → qI Q (some (.int (-2))) h3) ∧ (¬ (i4 = 0) → CallI g mX3_addNote (d + 1) [Value.ref 3, .int n, .int q, .int b] h3 (fun i7 h6 => Lay h6 ∧ qI Q (some (.int i7)) h6))))) := by
    intro n1 hb
    refine ⟨fun w => no n1 (fun n' q' hn' _ en _ _ => absurd w (by rw [en]; exact nI_pos (by omega))), fun w => ⟨fun w2 => no n1 (fun n' q' hn' _ en _ _ => absurd w2 (by rw [en]; exact nI_nlt (a := 60) (b := n') hn' (by omega))), fun w2 => c_hasLodger T (fun q' hq' eq => ⟨L, fun z => absurd z (by decide), fun _ => ?_⟩) (fun nq => ⟨L, fun _ => no n1 (fun n' q' _ hq' _ eq _ => absurd eq (nq q' hq')), fun z => absurd rfl z⟩)⟩⟩
    obtain ⟨n', hn', en⟩ : ∃ n', n' ≤ 60 ∧ n = nI n' := by
      obtain ⟨j, hj, rfl⟩ := nI_of w
      exact ⟨j, Nat.le_of_not_lt (fun z => w2 (nI_lt (a := 60) z hj)), rfl⟩
    refine vX3_addNote_0 3 _ _ _ h ⟨kE, ?_⟩
    rw [H.1, nI_clamp (n := N.1) (by omega)]
    refine ⟨fun z => ?_, fun z => ⟨L, no n1 (fun _ _ _ _ _ _ _ => by
      have : ¬ N.1 < 10 := fun y => z (nI_lt (a := N.1) (b := 10) y (by omega))
      omega)⟩⟩
    have z : N.1 < 10 := (nI_ltI (a := N.1) (b := 10) (by omega) (by omega)).mp z
    refine ⟨kE, _, r3, kE, k3, by rw [nn3]; exact vn (by omega) (by omega), kE, _, r4, kE, k4, ?_⟩
    rw [show hI (setI h (3 + 21) N.1 n) 3 6 = nI N.1 by rw [rdn (by omega)]; exact H.1, nI_clamp (n := N.1) (by omega)]
    refine ⟨by have z4 : vp_in (nI N.1) 10 := vn (by omega) (by omega); rw [← nn4] at z4; exact z4, ?_⟩
    intro h3 e3
    subst e3
    have e6 : hI (setI (setI h (3 + 21) N.1 n) (3 + 22) N.1 q) 3 6 = nI N.1 := by rw [rdn (by omega), rdn (by omega)]; exact H.1
    refine ⟨kE, _, r5, kE, k5, ?_⟩
    rw [e6, nI_clamp (n := N.1) (by omega)]
    refine ⟨by have z4 : vp_in (nI N.1) 10 := vn (by omega) (by omega); rw [← nn5] at z4; exact z4, kE, kE, ?_⟩
    intro h5 e5
    rw [show hI (setI (setI (setI h (3 + 21) N.1 n) (3 + 22) N.1 q) (3 + 23) N.1 b) 3 6 = nI N.1 by rw [rdn (by omega)]; exact e6, nI_1] at e5
    subst e5
    refine ⟨kE, ⟨L.to rfl rfl rfl, ?_⟩⟩
    rw [rdI]
    exact yes n1 n' q' hn' hq' en eq hb z
  refine wX9_note_0 _ _ _ L ⟨fun w => h0 w, fun w => ⟨fun wb => tail w (Or.inl wb), fun wb => c_hasBed T (fun j hj ej => ⟨L, fun z => absurd z (by decide), fun _ => tail w (Or.inr ⟨j, hj, ej⟩)⟩) (fun nb => ⟨L, fun _ => ?_, fun z => absurd rfl z⟩)⟩⟩
  have bad : Q (-2) h := no w (fun _ _ _ _ _ _ hb => by
    rcases hb with hb | ⟨j, hj, ej⟩
    · exact absurd hb wb
    · exact absurd ej (nb j hj))
  exact ⟨fun _ => bad, fun _ => ⟨fun _ => bad, fun _ => bad⟩⟩
theorem m_note {n q b : Int32} {N : Nts} {Q : Int32 → HP → Prop} (O : MZ h ρ t) (H : MNt h N) (hN : NtOK N t) (h0 : n = -1 → Q 0 (setI h 253 5 0)) (no : ¬ n = -1 → (∀ n' q' : Nat, n' ≤ 60 → q' < t.1 3 → n = nI n' → q = nI q' → (b = -1 ∨ ∃ j, j < t.1 2 ∧ b = nI j) → N.1 = 10) → Q (-2) h) (yes : ¬ n = -1 → ∀ n' q' : Nat, n' ≤ 60 → q' < t.1 3 → n = nI n' → q = nI q' → (b = -1 ∨ ∃ j, j < t.1 2 ∧ b = nI j) → N.1 < 10 → Q (nI (N.1 + 1)) (setI (setI (setI (setI h 262 N.1 n) 263 N.1 q) 264 N.1 b) 253 5 (nI (N.1 + 1)))) : CallI g mX10_note (d + 2) [.ref 252, .int n, .int q, .int b] h Q := by
  obtain ⟨L, T, R, -, -⟩ := O
  have n10 := hN.1
  refine wX10_note_0 _ _ _ L ⟨fun w => h0 w, fun w => m_in L (a := 0) (b := 60) rfl rfl (by decide) (by decide) (fun n' _ hn' en => ⟨L, fun z => absurd z (by decide), fun _ => m_isLodger L T (fun q' hq' eq => ⟨L, fun z => absurd z (by decide), fun _ => ?_⟩) (fun nq => ⟨L, fun _ => no w (fun n' q' _ hq' _ eq _ => absurd eq (nq q' hq')), fun z => absurd rfl z⟩)⟩) (fun nin => ⟨L, fun _ => no w (fun n' q' hn' _ en _ _ => absurd (by rw [en]; exact IN_j (Nat.zero_le _) hn' (by decide)) nin), fun z => absurd rfl z⟩)⟩
  rw [H.1, nI_clamp (n := N.1) (by omega), nI_1]
  have e10 : nI N.1 = 10 ↔ N.1 = 10 := nI_eq (a := N.1) (b := 10) (by omega) (by omega)
  have fin : (b = -1 ∨ ∃ j, j < t.1 2 ∧ b = nI j) → (nI N.1 = 10 → qI Q (some (.int (-2))) h) ∧ (¬ (nI N.1 = 10) → vp_in (nI N.1) 10 ∧ qI Q (some (.int (nI (N.1 + 1)))) (setI (setI (setI (setI h 262 N.1 n) 263 N.1 q) 264 N.1 b) 253 5 (nI (N.1 + 1)))) := fun hb => ⟨fun z => no w (fun _ _ _ _ _ _ _ => e10.mp z), fun z => by
    have : ¬ N.1 = 10 := fun y => z (e10.mpr y)
    exact ⟨vn (by omega) (by omega), yes w n' q' hn' hq' en eq hb (by omega)⟩⟩
  refine ⟨fun wb => fin (Or.inl wb), fun wb => m_isBed L T (fun j hj ej => ⟨L, fun z => absurd z (by decide), fun _ => by rw [H.1, nI_1]; exact fin (Or.inr ⟨j, hj, ej⟩)⟩) (fun nb => ⟨L, fun _ => no w (fun _ _ _ _ _ _ hb => ?_), fun z => absurd rfl z⟩)⟩
  rcases hb with hb | ⟨j, hj, ej⟩
  · exact absurd hb wb
  · exact absurd ej (nb j hj)
theorem c_seed {x : Int32} {Q : Int32 → HP → Prop} (L : Lay h) (no : x < 0 → Q (-1) h) (yes : ∀ j, j < 2147483648 → x = nI j → Q (hI h 3 8) (setI h 3 8 (nI j))) : CallI g mX9_seed d [.ref 0, .int x] h Q := by
  refine wX9_seed_0 _ L ⟨fun w => ?_, fun w => no (Int32.not_le.mp w)⟩
  obtain ⟨j, hj, rfl⟩ := nI_of (Int32.not_lt.mpr w)
  exact yes j (by omega) rfl
theorem m_seed {x : Int32} {Q : Int32 → HP → Prop} (L : Lay h) (no : x < 0 → Q (-1) h) (yes : ∀ j, j < 2147483648 → x = nI j → Q (hI h 253 6) (setI h 253 6 (nI j))) : CallI g mX10_seed d [.ref 252, .int x] h Q := by
  refine wX10_seed_0 _ L ⟨fun w => ?_, fun w => no (Int32.not_le.mp w)⟩
  obtain ⟨j, hj, rfl⟩ := nI_of (Int32.not_lt.mpr w)
  exact yes j (by omega) rfl
theorem c_cnt {cnt c nts ac y n : Nat} {x : Int32} {Q : Int32 → HP → Prop} (C : CZ h ρ t) (e03 : hI h 0 3 = nI cnt) (e37 : hI h 3 7 = pl c) (e36 : hI h 3 6 = nI nts) (e22 : hI h 22 1 = nI ac) (e38 : hI h 3 8 = nI y) (e01 : hI h 0 1 = nI n) (hQ : Q (aCount t cnt c nts ac y n x) h) : CallI g mX9_count (d + 3) [.ref 0, .int x] h Q := by
  obtain ⟨L, T, R, F⟩ := C
  unfold aCount at hQ
  exact wX9_count_0 _ L ⟨fun w => by rw [if_pos w] at hQ; rw [T.2.2.1 0 (by omega)]; exact hQ, fun w0 => ⟨fun w => by rw [if_neg w0, if_pos w] at hQ; rw [T.2.2.1 1 (by omega)]; exact hQ, fun w1 => ⟨fun w => by rw [if_neg w0, if_neg w1, if_pos w] at hQ; rw [T.2.2.1 2 (by omega)]; exact hQ, fun w2 => ⟨fun w => by rw [if_neg w0, if_neg w1, if_neg w2, if_pos w] at hQ; rw [T.2.2.1 3 (by omega)]; exact hQ, fun w3 => ⟨fun w => by rw [if_neg w0, if_neg w1, if_neg w2, if_neg w3, if_pos w] at hQ; rw [e03]; exact hQ, fun w4 => ⟨fun w => by rw [if_neg w0, if_neg w1, if_neg w2, if_neg w3, if_neg w4, if_pos w] at hQ; rw [e37]; exact hQ, fun w5 => ⟨fun w => by rw [if_neg w0, if_neg w1, if_neg w2, if_neg w3, if_neg w4, if_neg w5, if_pos w] at hQ; rw [T.2.2.1 4 (by omega)]; exact hQ, fun w6 => ⟨fun w => c_farOfAll T ⟨L, by rw [if_neg w0, if_neg w1, if_neg w2, if_neg w3, if_neg w4, if_neg w5, if_neg w6, if_pos w] at hQ; exact hQ⟩, fun w7 => ⟨fun w => c_hollowOfAll T ⟨L, by rw [if_neg w0, if_neg w1, if_neg w2, if_neg w3, if_neg w4, if_neg w5, if_neg w6, if_neg w7, if_pos w] at hQ; exact hQ⟩, fun w8 => ⟨fun w => c_sleptOfAll T ⟨L, by rw [if_neg w0, if_neg w1, if_neg w2, if_neg w3, if_neg w4, if_neg w5, if_neg w6, if_neg w7, if_neg w8, if_pos w] at hQ; exact hQ⟩, fun w9 => ⟨fun w => by rw [if_neg w0, if_neg w1, if_neg w2, if_neg w3, if_neg w4, if_neg w5, if_neg w6, if_neg w7, if_neg w8, if_neg w9, if_pos w] at hQ; rw [e36]; exact hQ, fun w10 => ⟨fun w => by rw [if_neg w0, if_neg w1, if_neg w2, if_neg w3, if_neg w4, if_neg w5, if_neg w6, if_neg w7, if_neg w8, if_neg w9, if_neg w10, if_pos w] at hQ; rw [e22]; exact hQ, fun w11 => ⟨fun w => by rw [if_neg w0, if_neg w1, if_neg w2, if_neg w3, if_neg w4, if_neg w5, if_neg w6, if_neg w7, if_neg w8, if_neg w9, if_neg w10, if_neg w11, if_pos w] at hQ; rw [e38]; exact hQ, fun w12 => ⟨fun w => by rw [if_neg w0, if_neg w1, if_neg w2, if_neg w3, if_neg w4, if_neg w5, if_neg w6, if_neg w7, if_neg w8, if_neg w9, if_neg w10, if_neg w11, if_neg w12, if_pos w] at hQ; rw [e01]; exact hQ, fun w13 => by rw [if_neg w0, if_neg w1, if_neg w2, if_neg w3, if_neg w4, if_neg w5, if_neg w6, if_neg w7, if_neg w8, if_neg w9, if_neg w10, if_neg w11, if_neg w12, if_neg w13] at hQ; exact hQ⟩⟩⟩⟩⟩⟩⟩⟩⟩⟩⟩⟩⟩⟩
theorem m_cnt {cnt c nts ac y n : Nat} {x : Int32} {Q : Int32 → HP → Prop} (C : MZ h ρ t) (e03 : hI h 252 28 = nI cnt) (e37 : hI h 253 7 = pl c) (e36 : hI h 253 5 = nI nts) (e22 : hI h 252 51 = nI ac) (e38 : hI h 253 6 = nI y) (e01 : hI h 252 24 = nI n) (hQ : Q (aCount t cnt c nts ac y n x) h) : CallI g mX10_count (d + 3) [.ref 252, .int x] h Q := by
  obtain ⟨L, T, R, -, -⟩ := C
  unfold aCount at hQ
  exact wX10_count_0 _ L ⟨fun w => by rw [if_pos w] at hQ; rw [T.2.1 0 (by omega)]; exact hQ, fun w0 => ⟨fun w => by rw [if_neg w0, if_pos w] at hQ; rw [T.2.1 1 (by omega)]; exact hQ, fun w1 => ⟨fun w => by rw [if_neg w0, if_neg w1, if_pos w] at hQ; rw [T.2.1 2 (by omega)]; exact hQ, fun w2 => ⟨fun w => by rw [if_neg w0, if_neg w1, if_neg w2, if_pos w] at hQ; rw [T.2.1 3 (by omega)]; exact hQ, fun w3 => ⟨fun w => by rw [if_neg w0, if_neg w1, if_neg w2, if_neg w3, if_pos w] at hQ; rw [e03]; exact hQ, fun w4 => ⟨fun w => by rw [if_neg w0, if_neg w1, if_neg w2, if_neg w3, if_neg w4, if_pos w] at hQ; rw [e37]; exact hQ, fun w5 => ⟨fun w => by rw [if_neg w0, if_neg w1, if_neg w2, if_neg w3, if_neg w4, if_neg w5, if_pos w] at hQ; rw [T.2.1 4 (by omega)]; exact hQ, fun w6 => ⟨fun w => m_allFar L T R ⟨L, by rw [if_neg w0, if_neg w1, if_neg w2, if_neg w3, if_neg w4, if_neg w5, if_neg w6, if_pos w] at hQ; exact hQ⟩, fun w7 => ⟨fun w => m_allHollows L T ⟨L, by rw [if_neg w0, if_neg w1, if_neg w2, if_neg w3, if_neg w4, if_neg w5, if_neg w6, if_neg w7, if_pos w] at hQ; exact hQ⟩, fun w8 => ⟨fun w => m_allNights L T ⟨L, by rw [if_neg w0, if_neg w1, if_neg w2, if_neg w3, if_neg w4, if_neg w5, if_neg w6, if_neg w7, if_neg w8, if_pos w] at hQ; exact hQ⟩, fun w9 => ⟨fun w => by rw [if_neg w0, if_neg w1, if_neg w2, if_neg w3, if_neg w4, if_neg w5, if_neg w6, if_neg w7, if_neg w8, if_neg w9, if_pos w] at hQ; rw [e36]; exact hQ, fun w10 => ⟨fun w => by rw [if_neg w0, if_neg w1, if_neg w2, if_neg w3, if_neg w4, if_neg w5, if_neg w6, if_neg w7, if_neg w8, if_neg w9, if_neg w10, if_pos w] at hQ; rw [e22]; exact hQ, fun w11 => ⟨fun w => by rw [if_neg w0, if_neg w1, if_neg w2, if_neg w3, if_neg w4, if_neg w5, if_neg w6, if_neg w7, if_neg w8, if_neg w9, if_neg w10, if_neg w11, if_pos w] at hQ; rw [e38]; exact hQ, fun w12 => ⟨fun w => by rw [if_neg w0, if_neg w1, if_neg w2, if_neg w3, if_neg w4, if_neg w5, if_neg w6, if_neg w7, if_neg w8, if_neg w9, if_neg w10, if_neg w11, if_neg w12, if_pos w] at hQ; rw [e01]; exact hQ, fun w13 => by rw [if_neg w0, if_neg w1, if_neg w2, if_neg w3, if_neg w4, if_neg w5, if_neg w6, if_neg w7, if_neg w8, if_neg w9, if_neg w10, if_neg w11, if_neg w12, if_neg w13] at hQ; exact hQ⟩⟩⟩⟩⟩⟩⟩⟩⟩⟩⟩⟩⟩⟩
end SI
