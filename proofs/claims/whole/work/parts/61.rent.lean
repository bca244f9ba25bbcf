/-! rent, and what beds and lodgers are -/
def slN (t : Tw) (i : Nat) : Nat := (t.2 8 i).toNatClampNeg
def alN (t : Tw) : Nat → Nat
  | 0 => 0
  | n + 1 => alN t n + slN t n
theorem sl_rg {t : Tw} (hR : TR t) (hb : t.1 4 ≤ 2000) {i : Nat} (hi : i < t.1 3) : slN t i ≤ 2000 ∧ t.2 8 i = nI (slN t i) := by
  obtain ⟨-, -, -, -, n, h1, h2⟩ := hR.2.2 i hi
  unfold slN
  rw [h2, nI_clamp (by omega)]
  exact ⟨by omega, rfl⟩
theorem al_rg {t : Tw} (hR : TR t) (hb : t.1 4 ≤ 2000) : ∀ n, n ≤ t.1 3 → alN t n ≤ 2000 * n ∧ sumI (t.2 8) n = nI (alN t n)
  | 0, _ => ⟨Nat.le_refl _, rfl⟩
  | n + 1, h => by
    obtain ⟨h1, h2⟩ := al_rg hR hb n (by omega)
    obtain ⟨h3, h4⟩ := sl_rg hR hb (i := n) (by omega)
    rw [alN]
    refine ⟨by omega, ?_⟩
    show sumI (t.2 8) n + t.2 8 n = _
    rw [h2, h4, nI_add]
def rmN (t : Tw) (m i : Nat) : Nat := m * slN t i % alN t (t.1 3)
def dvN (t : Tw) (m i : Nat) : Nat := m * slN t i / alN t (t.1 3)
def lfI (t : Tw) (m : Nat) : Nat → Int32
  | 0 => nI m
  | n + 1 => lfI t m n - nI (dvN t m n)
def ahN (t : Tw) (m q : Nat) : Nat → Nat
  | 0 => 0
  | n + 1 => if rmN t m q < rmN t m n ∨ (rmN t m n = rmN t m q ∧ n < q) then ahN t m q n + 1 else ahN t m q n
def aRent (t : Tw) (m q : Int32) : Int32 := if IN m 0 9999 ∧ IX q (t.1 3) then (if alN t (t.1 3) = 0 then 0 else nI (dvN t m.toNatClampNeg q.toNatClampNeg) + (if lfI t m.toNatClampNeg (t.1 3) ≤ nI (ahN t m.toNatClampNeg q.toNatClampNeg (t.1 3)) then 0 else 1)) else -1
def aBed (t : Tw) (b w : Int32) : Int32 := if IX b (t.1 2) then (if w = 0 then t.2 1 b.toNatClampNeg else if w = 1 then t.2 2 b.toNatClampNeg else if w = 2 then t.2 3 b.toNatClampNeg else if w = 3 then bitsT (t.2 7) b (t.1 3) else -1) else -1
def aLodger (t : Tw) (q w : Int32) : Int32 := if IX q (t.1 3) then (if w = 0 then t.2 4 q.toNatClampNeg else if w = 1 then t.2 5 q.toNatClampNeg else if w = 2 then t.2 6 q.toNatClampNeg else if w = 3 then t.2 7 q.toNatClampNeg else if w = 4 then t.2 8 q.toNatClampNeg else if w = 5 then farT t q.toNatClampNeg else -2) else -2
theorem sb_pos {a b : Nat} (ha : a < 2 ^ 30) (hb : b < 2 ^ 30) : 0 < nI a - nI b ↔ b < a := by
  rw [Int32.lt_iff_toInt_lt, pk_sub_toInt ha hb]
  have : (0 : Int32).toInt = 0 := rfl
  omega
theorem sb_zero {a b : Nat} (ha : a < 2 ^ 30) (hb : b < 2 ^ 30) : nI a - nI b = 0 ↔ a = b := by
  rw [← Int32.toInt_inj, pk_sub_toInt ha hb]
  have : (0 : Int32).toInt = 0 := rfl
  omega
section REN
variable {g : GT} {d : Nat} {h : HP} {t : Tw} {ρ : Option Rl}
theorem m_rent {m q : Int32} {Q : Int32 → HP → Prop} (O : MZ h ρ t) (hb : t.1 4 ≤ 2000) (hQ : Q (aRent t m q) h) : CallI g mX10_rent (d + 2) [.ref 252, .int m, .int q] h Q := by
  obtain ⟨L, T, R, -, -⟩ := O
  have hB := T.1
  unfold TB at hB
  unfold aRent at hQ
  have no : ¬ (IN m 0 9999 ∧ IX q (t.1 3)) → Q (-1) h := fun c => by rwa [if_neg c] at hQ
  refine wX10_rent_0 _ _ L (m_isLodger L T (fun q hq eq => ⟨L, fun z => absurd z (by decide), fun _ => m_in L (a := 0) (b := 9999) rfl rfl (by decide) (by decide) (fun m m1 m2 em => ⟨L, fun z => absurd z (by decide), fun _ => m_allNights L T ⟨L, ?_⟩⟩) (fun z => ⟨L, fun _ => no (fun y => z y.1), fun z => absurd rfl z⟩)⟩) (fun z => ⟨L, fun _ => no (fun y => IX_no z y.2), fun z => absurd rfl z⟩))
  subst eq em
  rw [if_pos ⟨IN_j m1 m2 (by decide), IX_j hq (by omega)⟩, nI_clamp (n := m) (by omega), nI_clamp (n := q) (by omega)] at hQ
  obtain ⟨a1, a2⟩ := al_rg R hb (t.1 3) (Nat.le_refl _)
  rw [a2]
  refine ⟨fun z => ?_, fun z => ?_⟩
  · rw [if_pos ((nI_eq (a := alN t (t.1 3)) (b := 0) (by omega) (by omega)).mp z)] at hQ
    exact hQ
  · have nz : ¬ alN t (t.1 3) = 0 := fun y => z (by rw [y]; rfl)
    rw [if_neg nz] at hQ
    have ms : ∀ i, i < t.1 3 → m * slN t i ≤ 9999 * 2000 := fun i hi => Nat.mul_le_mul m2 (sl_rg R hb hi).1
    have e8 : ∀ i, i < t.1 3 → hI h 261 i = nI (slN t i) := fun i hi => (mNi T hi).trans (sl_rg R hb hi).2
    have eD : ∀ i, i < t.1 3 → nI m * nI (slN t i) / nI (alN t (t.1 3)) = nI (dvN t m i) := fun i hi => by
      have := ms i hi
      rw [pk_mul, pk_div (by omega) (by omega) (by omega)]; rfl
    have eM : ∀ i, i < t.1 3 → nI m * nI (slN t i) - nI m * nI (slN t i) / nI (alN t (t.1 3)) * nI (alN t (t.1 3)) = nI (rmN t m i) := fun i hi => by
      have := ms i hi
      rw [pk_mul, pk_rem (by omega) (by omega) (by omega)]; rfl
    have rl : ∀ i, rmN t m i < 2 ^ 30 := fun i => Nat.lt_of_lt_of_le (Nat.mod_lt _ (by omega)) (by omega)
    refine loopN (σ := Unit) (P := fun i _ h' => Sat g mX10_rent (d + 2) (0, 0) (qI Q) 42 [.ref 252, .int (nI m), .int (nI q), .int (nI (alN t (t.1 3))), .int (lfI t m i), .int (nI (ahN t m q i)), .int (nI i), .double 0] [] h') (I := fun _ _ h' => h' = h) (t.1 3) (fun _ h' e => ?_) (fun i _ h' hi e ih => ?_) 0 () h (by omega) rfl
    · subst e
      refine wX10_rent_42 _ _ _ _ _ _ L ?_
      rw [mS T 3 (by omega), nI_clamp (n := q) (by omega), e8 q hq, eD q hq]
      refine ⟨fun _ => ⟨vn (by omega) (by omega), z, fun y => ?_, fun y => ?_⟩, fun y => absurd (nI_le (Nat.le_refl _) (by omega)) y⟩
      · rw [if_pos y] at hQ; exact hQ
      · rw [if_neg y] at hQ; exact hQ
    · subst e
      have nx := ih () h' rfl
      rw [ahN] at nx
      have nx : Sat g mX10_rent (d + 2) (0, 0) (qI Q) 42 [.ref 252, .int (nI m), .int (nI q), .int (nI (alN t (t.1 3))), .int (lfI t m i - nI (dvN t m i)), .int (nI (if rmN t m q < rmN t m i ∨ (rmN t m i = rmN t m q ∧ i < q) then ahN t m q i + 1 else ahN t m q i)), .int (nI (i + 1)), .double 0] [] h' := nx
      refine wX10_rent_42 _ _ _ _ _ _ L ?_
      rw [mS T 3 (by omega), nI_clamp (n := q) (by omega), nI_clamp (n := i) (by omega), e8 q hq, e8 i hi, eM q hq, eM i hi, eD i hi, nI_1 (ahN t m q i), nI_1 i, Int32.add_zero (nI (ahN t m q i)), sb_pos (rl i) (rl q), sb_zero (rl i) (rl q)]
      refine ⟨fun y => absurd y (nI_ge hi (by omega)), fun _ => ⟨vn (by omega) (by omega), z, vn (by omega) (by omega), fun y => ?_, fun y => ⟨fun y2 => ⟨fun y3 => ?_, fun y3 => ?_⟩, fun y2 => ?_⟩⟩⟩
      · rw [if_pos (Or.inl y)] at nx; exact nx
      · have := (nI_leI (by omega) (by omega)).mp y3
        rw [if_neg (fun w => w.elim y (fun w => by omega))] at nx; exact nx
      · rw [if_pos (Or.inr ⟨y2, Nat.lt_of_not_le (fun w => y3 (nI_le w (by omega)))⟩)] at nx; exact nx
      · rw [if_neg (fun w => w.elim y (fun w => y2 w.1))] at nx; exact nx
theorem c_rentOf {m q : Nat} {Q : Int32 → HP → Prop} (hT : TownIs h 4 t) (R : TR t) (hb : t.1 4 ≤ 2000) (m2 : m ≤ 9999) (hq : q < t.1 3) (hQ : Q (if alN t (t.1 3) = 0 then 0 else nI (dvN t m q) + (if lfI t m (t.1 3) ≤ nI (ahN t m q (t.1 3)) then 0 else 1)) h) : CallI g mX8_rentOf (d + 1) [.ref 4, .int (nI m), .int (nI q)] h Q := by
  have hB := hT.2.1
  unfold TB at hB
  obtain ⟨k0, ⟨r5, r6, r7, r8, r9, r10, r11, r12⟩, ⟨k1, k2, k3, k4, k5, k6, k7, k8⟩, n1, n2, n3, n4, n5, n6, n7, n8⟩ := hT.1
  obtain ⟨a1, a2⟩ := al_rg R hb (t.1 3) (Nat.le_refl _)
  refine vX8_rentOf_0 4 _ _ h ⟨k0, c_sleptOfAll hT ?_⟩
  rw [a2]
  refine ⟨fun z => ?_, fun z => ⟨k0, c_hasLodger hT (fun _ _ _ => ⟨fun y => absurd y (by decide), fun _ => ⟨k0, _, r12, k8, by rw [n8]; exact vn (by omega) (by omega), ?_⟩⟩) (fun y => absurd rfl (y q hq))⟩⟩
  · have : alN t (t.1 3) = 0 := by
      have := (nI_ltI (a := alN t (t.1 3)) (b := 1) (by omega) (by omega)).mp z
      omega
    rw [if_pos this] at hQ
    exact hQ
  · have nz : ¬ alN t (t.1 3) = 0 := fun y => z (by rw [y]; decide)
    rw [if_neg nz] at hQ
    have nz' : ¬ nI (alN t (t.1 3)) = 0 := nI_ne0 (by omega) (by omega)
    have ms : ∀ i, i < t.1 3 → m * slN t i ≤ 9999 * 2000 := fun i hi => Nat.mul_le_mul m2 (sl_rg R hb hi).1
    have e8 : ∀ i, i < t.1 3 → hI h (4 + 8) i = nI (slN t i) := fun i hi => (hT.lod 8 (by omega) (by omega) hi).trans (sl_rg R hb hi).2
    have eD : ∀ i, i < t.1 3 → nI m * nI (slN t i) / nI (alN t (t.1 3)) = nI (dvN t m i) := fun i hi => by
      have := ms i hi
      rw [pk_mul, pk_div (by omega) (by omega) (by omega)]; rfl
    have eM : ∀ i, i < t.1 3 → nI m * nI (slN t i) - nI m * nI (slN t i) / nI (alN t (t.1 3)) * nI (alN t (t.1 3)) = nI (rmN t m i) := fun i hi => by
      have := ms i hi
      rw [pk_mul, pk_rem (by omega) (by omega) (by omega)]; rfl
    have rl : ∀ i, rmN t m i < 2 ^ 30 := fun i => Nat.lt_of_lt_of_le (Nat.mod_lt _ (by omega)) (by omega)
    rw [nI_clamp (n := q) (by omega), e8 q hq, eM q hq]
    refine ⟨nz', ?_⟩
    refine loopN (σ := Unit) (P := fun i _ h' => Sat g mX8_rentOf (d + 1) (0, 0) (qI Q) 41 [.ref 4, .int (nI m), .int (nI q), .int (nI (alN t (t.1 3))), .int (lfI t m i), .int (nI (ahN t m q i)), .int (nI (rmN t m q)), .int (nI i), .double 0] [] h') (I := fun _ _ h' => h' = h) (t.1 3) (fun _ h' e => ?_) (fun i _ h' hi e ih => ?_) 0 () h (by omega) rfl
    · subst e
      refine vX8_rentOf_41 4 _ _ _ _ _ _ _ h' ⟨k0, ?_⟩
      rw [hT.2.2.1 3 (by omega)]
      refine ⟨fun _ => ⟨k0, _, r12, k8, by rw [n8]; exact vn (by omega) (by omega), nz', ?_⟩, fun y => absurd (nI_le (Nat.le_refl _) (by omega)) y⟩
      rw [nI_clamp (n := q) (by omega), e8 q hq, eD q hq]
      refine ⟨fun y => ?_, fun y => ?_⟩
      · rw [if_pos y] at hQ; exact hQ
      · rw [if_neg y] at hQ; exact hQ
    · subst e
      have nx := ih () h' rfl
      rw [ahN] at nx
      have nx : Sat g mX8_rentOf (d + 1) (0, 0) (qI Q) 41 [.ref 4, .int (nI m), .int (nI q), .int (nI (alN t (t.1 3))), .int (lfI t m i - nI (dvN t m i)), .int (nI (if rmN t m q < rmN t m i ∨ (rmN t m i = rmN t m q ∧ i < q) then ahN t m q i + 1 else ahN t m q i)), .int (nI (rmN t m q)), .int (nI (i + 1)), .double 0] [] h' := nx
      have rq := rl q
      have ri := rl i
      refine vX8_rentOf_41 4 _ _ _ _ _ _ _ h' ⟨k0, ?_⟩
      rw [hT.2.2.1 3 (by omega)]
      refine ⟨fun y => absurd y (nI_ge hi (by omega)), fun _ => ⟨fun y => absurd y (nI_ge (a := i) (b := 6) (by omega) (by omega)), fun _ => ⟨k0, _, r12, k8, by rw [n8]; exact vn (by omega) (by omega), nz', k0, _, r12, k8, by rw [n8]; exact vn (by omega) (by omega), nz', ?_⟩⟩⟩
      rw [nI_clamp (n := i) (by omega), e8 i hi, eM i hi, eD i hi, nI_1 (ahN t m q i), nI_1 i, nI_ltI (by omega) (by omega), nI_eq (a := rmN t m i) (b := rmN t m q) (by omega) (by omega)]
      refine ⟨fun y => ?_, fun y => ⟨fun y2 => ⟨fun y3 => ?_, fun y3 => ?_⟩, fun y2 => ?_⟩⟩
      · rw [if_pos (Or.inl y)] at nx; exact nx
      · have := (nI_leI (by omega) (by omega)).mp y3
        rw [if_neg (fun w => w.elim y (fun w => by omega))] at nx; exact nx
      · rw [if_pos (Or.inr ⟨y2, Nat.lt_of_not_le (fun w => y3 (nI_le w (by omega)))⟩)] at nx; exact nx
      · rw [if_neg (fun w => w.elim y (fun w => y2 w.1))] at nx; exact nx
theorem c_rent {m q : Int32} {Q : Int32 → HP → Prop} (C : CZ h ρ t) (hb : t.1 4 ≤ 2000) (hQ : Q (aRent t m q) h) : CallI g mX9_rent (d + 2) [.ref 0, .int m, .int q] h Q := by
  obtain ⟨L, hT, R, -⟩ := C
  have hB := hT.2.1
  unfold TB at hB
  unfold aRent at hQ
  have no : ¬ (IN m 0 9999 ∧ IX q (t.1 3)) → Q (-1) h := fun c => by rwa [if_neg c] at hQ
  refine wX9_rent_0 _ _ L ⟨fun z => no (fun y => IN_lt (b := 9999) (by decide) z y.1), fun q1 => ⟨fun z => no (fun y => IN_gt (a := 0) (by decide) z y.1), fun q2 => c_hasLodger hT (fun j hj ej => ⟨L, fun z => absurd z (by decide), fun _ => ?_⟩) (fun z => ⟨L, fun _ => no (fun y => IX_no z y.2), fun z => absurd rfl z⟩)⟩⟩
  obtain ⟨m, m1, m2, rfl⟩ := rg_of (a := 0) (b := 9999) rfl rfl (by decide) (by decide) q1 q2
  subst ej
  rw [if_pos ⟨IN_j m1 m2 (by decide), IX_j hj (by omega)⟩, nI_clamp (n := m) (by omega), nI_clamp (n := j) (by omega)] at hQ
  exact c_rentOf hT R hb m2 hj ⟨L, hQ⟩
theorem m_bed {b w : Int32} {Q : Int32 → HP → Prop} (O : MZ h ρ t) (hQ : Q (aBed t b w) h) : CallI g mX10_bed (d + 2) [.ref 252, .int b, .int w] h Q := by
  obtain ⟨L, T, R, -, -⟩ := O
  have hB := T.1
  unfold TB at hB
  unfold aBed at hQ
  refine wX10_bed_0 _ _ L (m_isBed L T (fun j hj e => ⟨L, fun z => absurd z (by decide), fun _ => ?_⟩) (fun z => ⟨L, fun _ => by rwa [if_neg (IX_no z)] at hQ, fun z => absurd rfl z⟩))
  subst e
  rw [if_pos (IX_j hj (by omega)), nI_clamp (n := j) (by omega)] at hQ
  rw [nI_clamp (n := j) (by omega), mHo T hj, mUn T hj, mSt T hj]
  refine ⟨fun z => ⟨vn (by omega) (by omega), by rwa [if_pos z] at hQ⟩, fun z0 => ⟨fun z => ⟨vn (by omega) (by omega), by rwa [if_neg z0, if_pos z] at hQ⟩, fun z1 => ⟨fun z => ⟨vn (by omega) (by omega), by rwa [if_neg z0, if_neg z1, if_pos z] at hQ⟩, fun z2 => ⟨fun z => m_layOn L T ⟨L, by rwa [if_neg z0, if_neg z1, if_neg z2, if_pos z] at hQ⟩, fun z => by rwa [if_neg z0, if_neg z1, if_neg z2, if_neg z] at hQ⟩⟩⟩⟩
theorem c_bed {b w : Int32} {Q : Int32 → HP → Prop} (C : CZ h ρ t) (hQ : Q (aBed t b w) h) : CallI g mX9_bed (d + 2) [.ref 0, .int b, .int w] h Q := by
  obtain ⟨L, hT, R, -⟩ := C
  have hB := hT.2.1
  unfold TB at hB
  unfold aBed at hQ
  refine wX9_bed_0 _ _ L (c_hasBed hT (fun j hj e => ⟨L, fun z => absurd z (by decide), fun _ => ?_⟩) (fun z => ⟨L, fun _ => by rwa [if_neg (IX_no z)] at hQ, fun z => absurd rfl z⟩))
  subst e
  rw [if_pos (IX_j hj (by omega)), nI_clamp (n := j) (by omega)] at hQ
  rw [nI_clamp (n := j) (by omega), show hI h 5 j = t.2 1 j from hT.bed 1 (by omega) (by omega) hj, show hI h 6 j = t.2 2 j from hT.bed 2 (by omega) (by omega) hj, show hI h 7 j = t.2 3 j from hT.bed 3 (by omega) (by omega) hj]
  refine ⟨fun z => ⟨vn (by omega) (by omega), by rwa [if_pos z] at hQ⟩, fun z0 => ⟨fun z => ⟨vn (by omega) (by omega), by rwa [if_neg z0, if_pos z] at hQ⟩, fun z1 => ⟨fun z => ⟨vn (by omega) (by omega), by rwa [if_neg z0, if_neg z1, if_pos z] at hQ⟩, fun z2 => ⟨fun z => c_lodgersOn hT ⟨L, by rwa [if_neg z0, if_neg z1, if_neg z2, if_pos z] at hQ⟩, fun z => by rwa [if_neg z0, if_neg z1, if_neg z2, if_neg z] at hQ⟩⟩⟩⟩
theorem m_lodger {q w : Int32} {Q : Int32 → HP → Prop} (O : MZ h ρ t) (hQ : Q (aLodger t q w) h) : CallI g mX10_lodger (d + 2) [.ref 252, .int q, .int w] h Q := by
  obtain ⟨L, T, R, -, -⟩ := O
  have hB := T.1
  unfold TB at hB
  unfold aLodger at hQ
  refine wX10_lodger_0 _ _ L (m_isLodger L T (fun j hj e => ⟨L, fun z => absurd z (by decide), fun _ => ?_⟩) (fun z => ⟨L, fun _ => by rwa [if_neg (IX_no z)] at hQ, fun z => absurd rfl z⟩))
  subst e
  rw [if_pos (IX_j hj (by omega)), nI_clamp (n := j) (by omega)] at hQ
  rw [nI_clamp (n := j) (by omega), mSh T hj, mBo T hj, mWa T hj, mLa T hj, mNi T hj]
  refine ⟨fun z => ⟨vn (by omega) (by omega), by rwa [if_pos z] at hQ⟩, fun z0 => ⟨fun z => ⟨vn (by omega) (by omega), by rwa [if_neg z0, if_pos z] at hQ⟩, fun z1 => ⟨fun z => ⟨vn (by omega) (by omega), by rwa [if_neg z0, if_neg z1, if_pos z] at hQ⟩, fun z2 => ⟨fun z => ⟨vn (by omega) (by omega), by rwa [if_neg z0, if_neg z1, if_neg z2, if_pos z] at hQ⟩, fun z3 => ⟨fun z => ⟨vn (by omega) (by omega), by rwa [if_neg z0, if_neg z1, if_neg z2, if_neg z3, if_pos z] at hQ⟩, fun z4 => ⟨fun z => m_farOf L T R hj ⟨L, by rwa [if_neg z0, if_neg z1, if_neg z2, if_neg z3, if_neg z4, if_pos z] at hQ⟩, fun z => by rwa [if_neg z0, if_neg z1, if_neg z2, if_neg z3, if_neg z4, if_neg z] at hQ⟩⟩⟩⟩⟩⟩
theorem c_lodger {q w : Int32} {Q : Int32 → HP → Prop} (C : CZ h ρ t) (hQ : Q (aLodger t q w) h) : CallI g mX9_lodger (d + 2) [.ref 0, .int q, .int w] h Q := by
  obtain ⟨L, hT, R, -⟩ := C
  have hB := hT.2.1
  unfold TB at hB
  unfold aLodger at hQ
  refine wX9_lodger_0 _ _ L (c_hasLodger hT (fun j hj e => ⟨L, fun z => absurd z (by decide), fun _ => ?_⟩) (fun z => ⟨L, fun _ => by rwa [if_neg (IX_no z)] at hQ, fun z => absurd rfl z⟩))
  subst e
  rw [if_pos (IX_j hj (by omega)), nI_clamp (n := j) (by omega)] at hQ
  rw [nI_clamp (n := j) (by omega), show hI h 8 j = t.2 4 j from hT.lod 4 (by omega) (by omega) hj, show hI h 9 j = t.2 5 j from hT.lod 5 (by omega) (by omega) hj, show hI h 10 j = t.2 6 j from hT.lod 6 (by omega) (by omega) hj, show hI h 11 j = t.2 7 j from hT.lod 7 (by omega) (by omega) hj, show hI h 12 j = t.2 8 j from hT.lod 8 (by omega) (by omega) hj]
  refine ⟨fun z => ⟨vn (by omega) (by omega), by rwa [if_pos z] at hQ⟩, fun z0 => ⟨fun z => ⟨vn (by omega) (by omega), by rwa [if_neg z0, if_pos z] at hQ⟩, fun z1 => ⟨fun z => ⟨vn (by omega) (by omega), by rwa [if_neg z0, if_neg z1, if_pos z] at hQ⟩, fun z2 => ⟨fun z => ⟨vn (by omega) (by omega), by rwa [if_neg z0, if_neg z1, if_neg z2, if_pos z] at hQ⟩, fun z3 => ⟨fun z => ⟨vn (by omega) (by omega), by rwa [if_neg z0, if_neg z1, if_neg z2, if_neg z3, if_pos z] at hQ⟩, fun z4 => ⟨fun z => c_far hT hj ⟨L, by rwa [if_neg z0, if_neg z1, if_neg z2, if_neg z3, if_neg z4, if_pos z] at hQ⟩, fun z => by rwa [if_neg z0, if_neg z1, if_neg z2, if_neg z3, if_neg z4, if_neg z] at hQ⟩⟩⟩⟩⟩⟩
end REN
