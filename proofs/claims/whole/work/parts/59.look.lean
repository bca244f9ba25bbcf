/-! where to look next; of the class -/
def cntE (f : Nat → Int32) (p : Int32) : Nat → Nat
  | 0 => 0
  | m + 1 => if f m = p then cntE f p m + 1 else cntE f p m
theorem cntE_le (f : Nat → Int32) (p : Int32) : ∀ m, cntE f p m ≤ m
  | 0 => Nat.le_refl _
  | m + 1 => by
    have := cntE_le f p m
    rw [cntE]
    by_cases c : f m = p
    · rw [if_pos c]; omega
    · rw [if_neg c]; omega
theorem cntE_pos {f : Nat → Int32} {p : Int32} : ∀ {m}, ¬ cntE f p m = 0 → ∃ k, k < m ∧ f k = p
  | 0, h => absurd rfl h
  | m + 1, h => by
    by_cases c : f m = p
    · exact ⟨m, by omega, c⟩
    · rw [cntE, if_neg c] at h
      obtain ⟨k, h1, h2⟩ := cntE_pos h
      exact ⟨k, by omega, h2⟩
theorem cntE_congr {f f' : Nat → Int32} {p : Int32} : ∀ m, (∀ k, k < m → f k = f' k) → cntE f p m = cntE f' p m
  | 0, _ => rfl
  | m + 1, h => by rw [cntE, cntE, h m (by omega), cntE_congr m (fun k hk => h k (by omega))]
/-- the greatest of g 0 .. g (n - 1) -/
def mx (g : Nat → Nat) : Nat → Nat
  | 0 => 0
  | i + 1 => if mx g i < g i then g i else mx g i
theorem mx_ub {g : Nat → Nat} : ∀ n i, i < n → g i ≤ mx g n
  | 0, _, h => by omega
  | n + 1, i, h => by
    rw [mx]
    by_cases z : i = n
    · subst z
      by_cases c : mx g i < g i
      · rw [if_pos c]; exact Nat.le_refl _
      · rw [if_neg c]; omega
    · have := mx_ub (g := g) n i (by omega)
      by_cases c : mx g n < g n
      · rw [if_pos c]; omega
      · rw [if_neg c]; exact this
theorem mx_at {g : Nat → Nat} : ∀ n, mx g n = 0 ∨ ∃ i, i < n ∧ mx g n = g i
  | 0 => Or.inl rfl
  | n + 1 => by
    rw [mx]
    by_cases c : mx g n < g n
    · rw [if_pos c]; exact Or.inr ⟨n, by omega, rfl⟩
    · rw [if_neg c]
      rcases mx_at (g := g) n with h | ⟨i, h1, h2⟩
      · exact Or.inl h
      · exact Or.inr ⟨i, by omega, h2⟩
theorem mx_le {g : Nat → Nat} {b : Nat} (n : Nat) (h : ∀ i, i < n → g i ≤ b) : mx g n ≤ b := by
  rcases mx_at (g := g) n with e | ⟨i, h1, h2⟩
  · omega
  · rw [h2]; exact h i h1
/-- by those who lie, or by the places -/
theorem mx_pl {f : Nat → Int32} {m : Nat} (h : ∀ k, k < m → ∃ c, c < 6 ∧ f k = pl c) : mx (fun c => cntE f (pl c) m) 6 = mx (fun i => cntE f (f i) m) m := by
  refine Nat.le_antisymm ?_ ?_
  · refine mx_le 6 (fun c hc => ?_)
    by_cases z : cntE f (pl c) m = 0
    · omega
    · obtain ⟨k, h1, h2⟩ := cntE_pos z
      have := mx_ub (g := fun i => cntE f (f i) m) m k h1
      rw [h2] at this
      exact this
  · refine mx_le m (fun i hi => ?_)
    obtain ⟨c, h1, h2⟩ := h i hi
    rw [h2]
    exact mx_ub (g := fun c => cntE f (pl c) m) 6 c h1
def loA (M : Nat → Nat) : Nat → Nat
  | 0 => 0
  | q + 1 => if M (q + 1) < M (loA M q) then q + 1 else loA M q
theorem loA_le (M : Nat → Nat) : ∀ q, loA M q ≤ q
  | 0 => Nat.le_refl _
  | q + 1 => by
    have := loA_le M q
    rw [loA]
    by_cases c : M (q + 1) < M (loA M q)
    · rw [if_pos c]; exact Nat.le_refl _
    · rw [if_neg c]; omega
noncomputable def loN (P : Nat → Pg) (t0 : Tw) (N : Nts) (n : Nat) : Nat → Nat × (Nat → Nat → Int32)
  | 0 => (0, fun _ _ => 0)
  | c + 1 => if agB (rhoC P c) t0 N = true then ((loN P t0 N n c).1 + 1, up1 (loN P t0 N n c).2 (loN P t0 N n c).1 (fun q => (itN (rhoC P c) t0 (n + 1)).2 7 q)) else loN P t0 N n c
theorem loN_le (P : Nat → Pg) (t0 : Tw) (N : Nts) (n : Nat) : ∀ c, (loN P t0 N n c).1 ≤ c
  | 0 => Nat.le_refl _
  | c + 1 => by
    have := loN_le P t0 N n c
    rw [loN]
    by_cases y : agB (rhoC P c) t0 N = true
    · rw [if_pos y]; show (loN P t0 N n c).1 + 1 ≤ _; omega
    · rw [if_neg y]; omega
theorem last_pl {t : Tw} (hR : TR t) {q : Nat} (hq : q < t.1 3) : ∃ c, c ≤ t.1 2 ∧ t.2 7 q = pl c := by
  obtain ⟨-, -, -, h | ⟨j, h1, h2⟩, -⟩ := hR.2.2 q hq
  · exact ⟨0, by omega, h⟩
  · exact ⟨j + 1, by omega, by rw [h2, pl_s]⟩
theorem loN_pl {P : Nat → Pg} {t0 : Tw} {N : Nts} {n : Nat} (hB : TB t0) (hR : TR t0) (h4 : t0.1 4 = 0) (hn : n ≤ 60) {q : Nat} (hq : q < t0.1 3) : ∀ c k, k < (loN P t0 N n c).1 → ∃ e, e < 6 ∧ (loN P t0 N n c).2 k q = pl e
  | 0, k, h => absurd h (by show ¬ k < 0; omega)
  | c + 1, k, h => by
    rw [loN] at h ⊢
    by_cases y : agB (rhoC P c) t0 N = true
    · rw [if_pos y] at h ⊢
      have h : k < (loN P t0 N n c).1 + 1 := h
      show ∃ e, e < 6 ∧ up1 (loN P t0 N n c).2 (loN P t0 N n c).1 (fun q => (itN (rhoC P c) t0 (n + 1)).2 7 q) k q = pl e
      unfold up1
      by_cases z : k = (loN P t0 N n c).1
      · rw [if_pos z]
        have hok := itN_ok (ρ := rhoC P c) hB hR (n + 1) (by omega)
        obtain ⟨e, h1, h2⟩ := last_pl hok.2 (q := q) (by rw [itN_k _ _ _ (by decide)]; exact hq)
        rw [itN_k _ _ _ (by decide)] at h1
        unfold TB at hB
        exact ⟨e, by omega, h2⟩
      · rw [if_neg z]
        exact loN_pl hB hR h4 hn hq c k (by omega)
    · rw [if_neg y] at h ⊢
      exact loN_pl hB hR h4 hn hq c k h
noncomputable def moA (P : Nat → Pg) (t0 : Tw) (N : Nts) (n cnt q : Nat) : Nat := mx (fun i => cntE (fun k => (loN P t0 N n cnt).2 k q) ((loN P t0 N n cnt).2 i q) (loN P t0 N n cnt).1) (loN P t0 N n cnt).1
noncomputable def aLook (P : Nat → Pg) (t0 : Tw) (N : Nts) (cnt : Nat) (n w : Int32) : Int32 := if ¬ t0.1 0 = 0 ∧ IN n 0 60 ∧ IN w 0 1 then (if (loN P t0 N n.toNatClampNeg (cnt + 1)).1 = 0 ∨ t0.1 3 = 0 then -2 else if w = 0 then nI (loA (moA P t0 N n.toNatClampNeg (cnt + 1)) (t0.1 3 - 1)) else nI (moA P t0 N n.toNatClampNeg (cnt + 1) (loA (moA P t0 N n.toNatClampNeg (cnt + 1)) (t0.1 3 - 1)))) else -1
def ALk (h : HP) (L m : Nat) (f : Nat → Nat → Int32) : Prop := ∀ q c, q < L → c < 6 → hI h 124 (6 * q + c) = nI (cntE (fun k => f k q) (pl c) m)
theorem pl_inj {a b : Nat} (ha : a < 2 ^ 30) (hb : b < 2 ^ 30) (h : pl a = pl b) : a = b := by
  have h2 : pl a + 1 = pl b + 1 := by rw [h]
  rw [pl_1, pl_1, pl_s, pl_s] at h2
  exact (nI_eq (by omega) (by omega)).mp h2
section CLK
variable {g : GT} {d : Nat} {h : HP} {t0 t : Tw} {ρ : Option Rl} {N : Nts} {P : Nat → Pg} {cnt : Nat}
theorem c_countPlaces {L0 m : Nat} {f : Nat → Nat → Int32} {y : Nat → Int32} {Q : HP → Prop} (L : Lay h) (hL : L0 ≤ 6) (hm : m ≤ 100) (H : ALk h L0 m f) (hy : ∀ q, q < L0 → hI h 123 q = y q ∧ ∃ c, c < 6 ∧ y q = pl c) (hQ : ∀ h', Fr (fun x => x = 124) h h' → ALk h' L0 (m + 1) (up1 f m y) → Q h') : CallV g mX2_countPlaces d (0, 0) [.ref 113, .int (nI L0)] h Q := by
  refine wX2_countPlaces_0 _ L ?_
  have eU : ∀ q c, cntE (fun k => up1 f m y k q) (pl c) (m + 1) = if y q = pl c then cntE (fun k => f k q) (pl c) m + 1 else cntE (fun k => f k q) (pl c) m := fun q c => by
    rw [cntE, cntE_congr (f' := fun k => f k q) m (fun k hk => by show up1 f m y k q = _; unfold up1; rw [if_neg (by omega)])]
    show (if up1 f m y m q = pl c then _ else _) = _
    rw [show up1 f m y m q = y q by unfold up1; rw [if_pos rfl]]
  refine loopN (σ := Unit) (P := fun q _ h' => Sat g mX2_countPlaces d (0, 0) (qV Q) 2 [.ref 113, .int (nI L0), .int (nI q), .double 0] [] h') (I := fun i _ h' => Fr (fun x => x = 124) h h' ∧ (∀ q c, q < i → c < 6 → hI h' 124 (6 * q + c) = nI (cntE (fun k => up1 f m y k q) (pl c) (m + 1))) ∧ ∀ q c, i ≤ q → q < L0 → c < 6 → hI h' 124 (6 * q + c) = nI (cntE (fun k => f k q) (pl c) m)) L0 (fun _ h' e => ?_) (fun i _ h' hi e ih => ?_) 0 () h (by omega) ⟨Fr.rf h, fun q c hq => by omega, fun q c _ h1 h2 => H q c h1 h2⟩
  · exact wX2_countPlaces_2 _ _ (L.fr e.1) ⟨fun _ => hQ h' e.1 (fun q c h1 h2 => e.2.1 q c h1 h2), fun z => absurd (nI_le (Nat.le_refl _) (by omega)) z⟩
  · obtain ⟨f', e1, e2⟩ := e
    obtain ⟨hyi, c, hc, eyc⟩ := hy i hi
    refine wX2_countPlaces_2 _ _ (L.fr f') ?_
    rw [nI_clamp (n := i) (by omega), (f'.2.2 123 (by omega)).1, hyi, eyc, pl_1, pl_s, n6', nI_clamp (n := 6 * i + c) (by omega), nI_1 i, e2 i c (Nat.le_refl _) hi hc, nI_1]
    refine ⟨fun z => absurd z (nI_ge hi (by omega)), fun _ => ⟨fun z => absurd z (nI_ge (a := i) (b := 6) (by omega) (by omega)), fun _ => ⟨vn (by omega) (by omega), fun z => absurd z (nI_pos (by omega)), fun _ => ⟨fun z => absurd z (nI_ge (a := c) (b := 6) hc (by omega)), fun _ => ⟨vn (by omega) (by omega), ?_⟩⟩⟩⟩⟩
    refine ih () _ ⟨f'.tr (Fr.stI rfl), fun q e hq he => ?_, fun q e h1 h2 h3 => ?_⟩
    · by_cases z : q = i
      · subst z
        rw [eU q e]
        by_cases y2 : e = c
        · subst y2; rw [rdI, if_pos eyc]
        · rw [rdn (by omega), if_neg (fun w => y2 (pl_inj (by omega) (by omega) (w.symm.trans eyc))), e2 q e (Nat.le_refl _) hi he]
      · rw [rdn (by omega)]; exact e1 q e (by omega) he
    · rw [rdn (by omega)]; exact e2 q e (by omega) h2 h3
theorem c_mostAlike {q L0 m : Nat} {f : Nat → Nat → Int32} {Q : Int32 → HP → Prop} (L : Lay h) (hL : L0 ≤ 6) (hq : q < L0) (hm : m ≤ 100) (H : ALk h L0 m f) (hQ : Q (nI (mx (fun c => cntE (fun k => f k q) (pl c) m) 6)) h) : CallI g mX2_mostAlike (d + 1) [.ref 113, .int (nI q)] h Q := by
  refine wX2_mostAlike_0 _ L ?_
  refine loopN (σ := Unit) (P := fun c _ h' => Sat g mX2_mostAlike (d + 1) (0, 0) (qI Q) 4 [.ref 113, .int (nI q), .int (nI (mx (fun c => cntE (fun k => f k q) (pl c) m) c)), .int (nI c)] [] h') (I := fun c _ h' => h' = h) 6 (fun _ h' e => ?_) (fun c _ h' hc e ih => ?_) 0 () h (by omega) rfl
  · subst e
    exact wX2_mostAlike_4 _ _ _ L ⟨fun _ => hQ, fun z => absurd (by decide) z⟩
  · subst e
    have := ih () h' rfl
    have h1 := mx_le (g := fun c => cntE (fun k => f k q) (pl c) m) (b := m) c (fun i _ => cntE_le _ _ m)
    have h2 := cntE_le (fun k => f k q) (pl c) m
    rw [mx] at this
    refine wX2_mostAlike_4 _ _ _ L ?_
    rw [n6', nI_clamp (n := 6 * q + c) (by omega), H q c hq hc, nI_1]
    refine ⟨fun z => absurd z (nI_ge (a := c) (b := 6) hc (by omega)), fun _ => ⟨fun z => absurd z (nI_pos (by omega)), fun _ => ⟨fun z => absurd z (nI_ge (a := q) (b := 6) (by omega) (by omega)), fun _ => ⟨vn (by omega) (by omega), c_max ⟨L, ?_⟩⟩⟩⟩⟩
    by_cases z : mx (fun c => cntE (fun k => f k q) (pl c) m) c < cntE (fun k => f k q) (pl c) m
    · rw [if_pos z] at this
      rw [if_pos (nI_lt z (by omega))]
      exact this
    · rw [if_neg z] at this
      rw [if_neg (nI_nlt (by omega) (by omega))]
      exact this
theorem c_findLook {n : Nat} {Q : HP → Prop} (L : Lay h) (hT : TownIs h 13 t0) (R : TR t0) (h4 : t0.1 4 = 0) (H : CNt h N) (hN : NtOK N t0) (hC : CRs h P cnt) (hn : n ≤ 60) (hQ : ∀ h', RC h h' → hI h' 125 0 = (if (loN P t0 N n (cnt + 1)).1 = 0 ∨ t0.1 3 = 0 then -2 else nI (loA (moA P t0 N n (cnt + 1)) (t0.1 3 - 1))) → hI h' 125 1 = (if (loN P t0 N n (cnt + 1)).1 = 0 ∨ t0.1 3 = 0 then -2 else nI (moA P t0 N n (cnt + 1) (loA (moA P t0 N n (cnt + 1)) (t0.1 3 - 1)))) → Q h') : CallV g mX2_findLook (d + 6) (0, 0) [.ref 113, .ref 3, .ref 2, .int (nI cnt), .int (nI n)] h Q := by
  have hc6 := hC.1
  have hB := hT.2.1
  have hB' := hB
  unfold TB at hB
  refine wX2_findLook_0 2 _ _ L ?_
  refine loopN (σ := Unit) (P := fun i _ h' => Sat g mX2_findLook (d + 6) (0, 0) (qV Q) 3 [.ref 113, .ref 3, .ref 2, .int (nI cnt), .int (nI n), .int (nI i), .double 0, .double 0] [] h') (I := fun i _ h' => RC h h' ∧ ∀ k, k < i → hI h' 124 k = 0) 36 (fun _ h' e => ?_) (fun i _ h' hi e ih => ?_) 0 () h (by omega) ⟨RC.rf, fun k hk => by omega⟩
  · refine wX2_findLook_3 2 _ _ _ (L.fr e.1) ⟨fun _ => ?_, fun z => absurd (by decide) z⟩
    refine loopN (σ := Unit) (P := fun c _ h' => Sat g mX2_findLook (d + 6) (0, 0) (qV Q) 30 [.ref 113, .ref 3, .ref 2, .int (nI cnt), .int (nI n), .int (nI (loN P t0 N n c).1), .int (pl c), .double 0] [] h') (I := fun c _ h' => RC h h' ∧ ALk h' (t0.1 3) (loN P t0 N n c).1 (loN P t0 N n c).2) (cnt + 1) (fun _ h' e => ?_) (fun c _ h' hc e ih => ?_) 0 () h' (by omega) ⟨e.1, fun q c h1 h2 => e.2 _ (by omega)⟩
    · obtain ⟨f, A⟩ := e
      have f2 : RC h (setI (setI h' 125 0 (-2)) 125 1 (-2)) := f.tr ((Fr.stI (by omega)).tr (Fr.stI (by omega)))
      have A2 : ALk (setI (setI h' 125 0 (-2)) 125 1 (-2)) (t0.1 3) (loN P t0 N n (cnt + 1)).1 (loN P t0 N n (cnt + 1)).2 := fun q c h1 h2 => by rw [rdn (by omega), rdn (by omega)]; exact A q c h1 h2
      have v0 : hI (setI (setI h' 125 0 (-2)) 125 1 (-2)) 125 0 = -2 := (rdn (by omega)).trans rdI
      have v1 : hI (setI (setI h' 125 0 (-2)) 125 1 (-2)) 125 1 = -2 := rdI
      have hle := loN_le P t0 N n (cnt + 1)
      have hmo : ∀ q, q < t0.1 3 → mx (fun c => cntE (fun k => (loN P t0 N n (cnt + 1)).2 k q) (pl c) (loN P t0 N n (cnt + 1)).1) 6 = moA P t0 N n (cnt + 1) q := fun q hq => mx_pl (fun k hk => loN_pl hB' R h4 hn hq (cnt + 1) k hk)
      have hmb : ∀ q, moA P t0 N n (cnt + 1) q ≤ 100 := fun q => Nat.le_trans (mx_le _ (fun i _ => cntE_le _ _ _)) (by omega)
      refine wX2_findLook_30 2 _ _ _ _ (L.fr f) ?_
      rw [pl_s]
      refine ⟨fun _ => ?_, fun z => absurd (nI_le (Nat.le_refl _) (by omega)) z⟩
      generalize setI (setI h' 125 0 (-2)) 125 1 (-2) = h2 at *
      refine loopN (σ := Unit) (P := fun q _ h' => Sat g mX2_findLook (d + 6) (0, 0) (qV Q) 105 [.ref 113, .ref 3, .double 0, .double 0, .double 0, .int (nI (loN P t0 N n (cnt + 1)).1), .int (nI q), .double 0] [] h') (I := fun q _ h' => RC h h' ∧ ALk h' (t0.1 3) (loN P t0 N n (cnt + 1)).1 (loN P t0 N n (cnt + 1)).2 ∧ (q = 0 → hI h' 125 0 = -2 ∧ hI h' 125 1 = -2) ∧ (0 < q → ¬ (loN P t0 N n (cnt + 1)).1 = 0 ∧ hI h' 125 0 = nI (loA (moA P t0 N n (cnt + 1)) (q - 1)) ∧ hI h' 125 1 = nI (moA P t0 N n (cnt + 1) (loA (moA P t0 N n (cnt + 1)) (q - 1))))) (t0.1 3) (fun _ h' e => ?_) (fun q _ h' hq e ih => ?_) 0 () h2 (by omega) ⟨f2, A2, fun _ => ⟨v0, v1⟩, fun z => by omega⟩
      · obtain ⟨f, A, z0, z1⟩ := e
        have T' := hT.fr f (fun x h1 h2 => by omega)
        refine wX2_findLook_105 _ _ (L.fr f) ?_
        rw [show hI h' 13 3 = nI (t0.1 3) from T'.2.2.1 3 (by omega)]
        refine ⟨fun _ => ?_, fun z => absurd (nI_le (Nat.le_refl _) (by omega)) z⟩
        by_cases y : t0.1 3 = 0
        · exact hQ h' f (by rw [if_pos (Or.inr y)]; exact (z0 y).1) (by rw [if_pos (Or.inr y)]; exact (z0 y).2)
        · obtain ⟨w1, w2, w3⟩ := z1 (by omega)
          have nn : ¬ ((loN P t0 N n (cnt + 1)).1 = 0 ∨ t0.1 3 = 0) := fun z => z.elim w1 y
          exact hQ h' f (by rw [if_neg nn]; exact w2) (by rw [if_neg nn]; exact w3)
      · obtain ⟨f, A, z0, z1⟩ := e
        have L' := L.fr f
        have T' := hT.fr f (fun x h1 h2 => by omega)
        refine wX2_findLook_105 _ _ L' ?_
        rw [show hI h' 13 3 = nI (t0.1 3) from T'.2.2.1 3 (by omega)]
        refine ⟨fun z => absurd z (nI_ge hq (by omega)), fun _ => ⟨fun z => ?_, fun z => c_mostAlike L' (by omega) hq (by omega) A ?_⟩⟩
        · have m0 : (loN P t0 N n (cnt + 1)).1 = 0 := by
            have := (nI_leI (a := (loN P t0 N n (cnt + 1)).1) (b := 0) (by omega) (by omega)).mp z
            omega
          have q0 : q = 0 := by
            rcases Nat.eq_zero_or_pos q with y | y
            · exact y
            · exact absurd m0 (z1 y).1
          exact hQ h' f (by rw [if_pos (Or.inl m0)]; exact (z0 q0).1) (by rw [if_pos (Or.inl m0)]; exact (z0 q0).2)
        · have nz : ¬ (loN P t0 N n (cnt + 1)).1 = 0 := fun y => z (by rw [y]; decide)
          rw [hmo q hq, nI_1]
          have st : ∀ v, v = q → RC h (setI (setI h' 125 0 (nI v)) 125 1 (nI (moA P t0 N n (cnt + 1) v))) ∧ ALk (setI (setI h' 125 0 (nI v)) 125 1 (nI (moA P t0 N n (cnt + 1) v))) (t0.1 3) (loN P t0 N n (cnt + 1)).1 (loN P t0 N n (cnt + 1)).2 := fun v _ => ⟨f.tr ((Fr.stI (by omega)).tr (Fr.stI (by omega))), fun q c h1 h2 => by rw [rdn (by omega), rdn (by omega)]; exact A q c h1 h2⟩
          rcases Nat.eq_zero_or_pos q with y | y
          · subst y
            rw [(z0 rfl).1]
            refine ⟨L', fun _ => ih () _ ⟨(st 0 rfl).1, (st 0 rfl).2, fun z => by omega, fun _ => ⟨nz, (rdn (by omega)).trans rdI, rdI⟩⟩, fun z => absurd rfl z⟩
          · obtain ⟨-, w2, w3⟩ := z1 y
            obtain ⟨p, rfl⟩ : ∃ p, q = p + 1 := ⟨q - 1, by omega⟩
            rw [Nat.add_sub_cancel] at w2 w3
            have hl := loA_le (moA P t0 N n (cnt + 1)) p
            rw [w2, w3]
            refine ⟨L', fun z => absurd (nI_pos (n := loA (moA P t0 N n (cnt + 1)) p) (by omega)) (by rw [z]; decide), fun _ => ⟨fun z => ?_, fun z => ?_⟩⟩
            · have hb1 := hmb (loA (moA P t0 N n (cnt + 1)) p)
              have hb2 := hmb (p + 1)
              have := (nI_leI (by omega) (by omega)).mp z
              have el : loA (moA P t0 N n (cnt + 1)) (p + 1) = loA (moA P t0 N n (cnt + 1)) p := by rw [loA, if_neg (by omega)]
              refine ih () h' ⟨f, A, fun z => by omega, fun _ => ?_⟩
              rw [Nat.add_sub_cancel, el]
              exact ⟨nz, w2, w3⟩
            · have hb1 := hmb (loA (moA P t0 N n (cnt + 1)) p)
              have hb2 := hmb (p + 1)
              have hlt : moA P t0 N n (cnt + 1) (p + 1) < moA P t0 N n (cnt + 1) (loA (moA P t0 N n (cnt + 1)) p) := Nat.lt_of_not_le (fun w => z (nI_le w (by omega)))
              have el : loA (moA P t0 N n (cnt + 1)) (p + 1) = p + 1 := by rw [loA, if_pos hlt]
              refine ih () _ ⟨(st (p + 1) rfl).1, (st (p + 1) rfl).2, fun z => by omega, fun _ => ?_⟩
              rw [Nat.add_sub_cancel, el]
              exact ⟨nz, (rdn (by omega)).trans rdI, rdI⟩
    · obtain ⟨f, A⟩ := e
      have L' := L.fr f
      have hle := loN_le P t0 N n c
      have ih := ih ()
      rw [loN] at ih
      have body : CallI g mX2_agrees (d + 5) [.ref 113, .ref 3, ov (rrC c), .int (nI n)] h' (fun i7 h6 => Lay h6 ∧ (i7 = 0 → Sat g mX2_findLook (d + 6) (0, 0) (qV Q) 30 [.ref 113, .ref 3, .ref 2, .int (nI cnt), .int (nI n), .int (nI (loN P t0 N n c).1), .int (pl c + 1), .double 0] [] h6) ∧ (¬ (i7 = 0) → CallV g mX2_countPlaces (d + 5) (0, 0) [.ref 113, .int (hI h6 13 3)] h6 (fun h9 => Lay h9 ∧ Sat g mX2_findLook (d + 6) (0, 0) (qV Q) 30 [.ref 113, .ref 3, .ref 2, .int (nI cnt), .int (nI n), .int (nI (loN P t0 N n c).1 + 1), .int (pl c + 1), .double 0] [] h9))) := by
        rw [pl_1, ← pl_s n, nI_1]
        refine c_agrees (m := n + 1) L' (hT.fr f (fun x h1 h2 => by omega)) R h4 (H.to (fun x k hx => by rw [(f.2.2 x (by omega)).1])) hN ((hC.to (fun x k hx => by rw [(f.2.2 x (by omega)).1])).rho (by omega)) (by omega) (fun ag h2 f2 e2 => ?_) (fun ag h2 f2 => ?_)
        · have f02 : RC h h2 := f.tr (f2.wd (fun x hx => by unfold QA at hx; omega))
          rw [if_pos ag] at ih
          have T2 := hT.fr f02 (fun x h1 h2 => by omega)
          refine ⟨L.fr f02, fun z => absurd z (by decide), fun _ => ?_⟩
          rw [show hI h2 13 3 = nI (t0.1 3) from T2.2.2.1 3 (by omega)]
          refine c_countPlaces (m := (loN P t0 N n c).1) (L.fr f02) (by omega) (by omega) (f := (loN P t0 N n c).2) (fun q e h1 h3 => by rw [(f2.2.2 124 (by unfold QA; omega)).1]; exact A q e h1 h3) (y := fun q => (itN (rhoC P c) t0 (n + 1)).2 7 q) (fun q hq => ⟨e2 (by omega) q hq, ?_⟩) (fun h3 f3 A3 => ⟨(L.fr f02).fr f3, ?_⟩)
          · obtain ⟨e, h1, h2⟩ := last_pl (itN_ok (ρ := rhoC P c) hB' R (n + 1) (by omega)).2 (q := q) (by rw [itN_k _ _ _ (by decide)]; exact hq)
            rw [itN_k _ _ _ (by decide)] at h1
            exact ⟨e, by omega, h2⟩
          · rw [pl_s n]
            exact ih h3 ⟨f02.tr (f3.wd (fun x hx => by omega)), A3⟩
        · have f02 : RC h h2 := f.tr (f2.wd (fun x hx => by unfold QA at hx; omega))
          rw [if_neg (by rw [ag]; decide)] at ih
          rw [pl_s n]
          exact ⟨L.fr f02, fun _ => ih h2 ⟨f02, fun q e h1 h3 => by rw [(f2.2.2 124 (by unfold QA; omega)).1]; exact A q e h1 h3⟩, fun z => absurd rfl z⟩
      refine wX2_findLook_30 2 _ _ _ _ L' ⟨fun z => absurd z (pl_nle (by omega) (by omega)), fun _ => ⟨Lk L' K_2, ?_⟩⟩
      rw [Ln L' N_2]
      refine ⟨fun z => absurd z (pl_nle (n := 6) (by omega) (by omega)), fun _ => ⟨fun z => ?_, fun z => ?_⟩⟩
      · rcases pl_cases c with ⟨y, w⟩ | ⟨v, w, y⟩
        · rw [y] at z; exact absurd z (by decide)
        · rw [y, nI_clamp (by omega)]
          rw [y] at body
          refine ⟨vn (by omega) (by omega), _, Lrl L' (by omega), ?_⟩
          have : rrC c = some (126 + 5 * v) := by unfold rrC; rw [if_neg (by omega), show c - 1 = v by omega]
          rw [this] at body
          exact body
      · rcases pl_cases c with ⟨y, w⟩ | ⟨v, w, y⟩
        · have : rrC c = none := by unfold rrC; rw [if_pos w]
          rw [this] at body
          exact body
        · rw [y] at z; exact absurd (nI_pos' (by omega)) z
  · refine wX2_findLook_3 2 _ _ _ (L.fr e.1) ⟨fun z => absurd z (nI_ge (a := i) (b := 36) hi (by omega)), fun _ => ⟨vn (by omega) (by omega), ?_⟩⟩
    rw [nI_clamp (n := i) (by omega), nI_1]
    refine ih () _ ⟨e.1.tr (Fr.stI (by omega)), fun k hk => ?_⟩
    by_cases z : k = i
    · subst z; exact rdI
    · rw [rdn (by omega)]; exact e.2 k (by omega)
theorem c_ruled {w : Int32} {Q : Int32 → HP → Prop} (C : CZ h ρ t) (hT : TownIs h 13 t0) (R : TR t0) (h4 : t0.1 4 = 0) (h0 : t0.1 0 = t.1 0) (H : CNt h N) (hN : NtOK N t0) (hC : CRs h P cnt) (hcn : hI h 0 3 = nI cnt) (hQ : ∀ h', RC h h' → Q (aRuled P t0 N cnt w) h') : CallI g mX9_ruled (d + 7) [.ref 0, .int w] h Q := by
  obtain ⟨L, hT4, -, -⟩ := C
  have no : ¬ (¬ t0.1 0 = 0 ∧ IN w 0 1) → Q (-3) h := fun c => by
    have := hQ h RC.rf
    unfold aRuled at this
    rwa [if_neg c] at this
  refine wX9_ruled_0 _ L (c_stand hT4 (fun c => ⟨L, fun q => absurd q (by decide), fun _ => ⟨fun q => no (fun y => IN_lt (b := 1) (by decide) q y.2), fun q3 => ⟨fun q4 => ?_, fun q => no (fun y => IN_gt (a := 0) (by decide) (Int32.not_le.mp q) y.2)⟩⟩⟩) (fun z => ⟨L, fun _ => no (fun y => y.1 (h0.trans z)), fun q => absurd rfl q⟩))
  obtain ⟨v, v1, v2, rfl⟩ := rg_of (a := 0) (b := 1) rfl rfl (by decide) (by decide) q3 (Int32.not_lt.mpr q4)
  rw [hcn]
  refine c_findRuled L hT R h4 H hN hC (fun h1 f1 e0 e1 => ⟨L.fr f1, told2q (L.fr f1) (by omega) ⟨L.fr f1, ?_⟩⟩)
  have yes := hQ h1 f1
  unfold aRuled at yes
  rw [if_pos ⟨by rw [h0]; exact c, IN_j v1 v2 (by decide)⟩] at yes
  rcases (show v = 0 ∨ v = 1 by omega) with rfl | rfl
  · rw [e0]; exact yes
  · rw [e1]; exact yes
theorem c_look {n w : Int32} {Q : Int32 → HP → Prop} (C : CZ h ρ t) (hT : TownIs h 13 t0) (R : TR t0) (h4 : t0.1 4 = 0) (h0 : t0.1 0 = t.1 0) (H : CNt h N) (hN : NtOK N t0) (hC : CRs h P cnt) (hcn : hI h 0 3 = nI cnt) (hQ : ∀ h', RC h h' → Q (aLook P t0 N cnt n w) h') : CallI g mX9_look (d + 7) [.ref 0, .int n, .int w] h Q := by
  obtain ⟨L, hT4, -, -⟩ := C
  have no : ¬ (¬ t0.1 0 = 0 ∧ IN n 0 60 ∧ IN w 0 1) → Q (-1) h := fun c => by
    have := hQ h RC.rf
    unfold aLook at this
    rwa [if_neg c] at this
  refine wX9_look_0 _ _ L (c_stand hT4 (fun c => ⟨L, fun q => absurd q (by decide), fun _ => ⟨fun q => no (fun y => IN_lt (b := 60) (by decide) q y.2.1), fun q1 => ⟨fun q => no (fun y => IN_gt (a := 0) (by decide) q y.2.1), fun q2 => ⟨fun q => no (fun y => IN_lt (b := 1) (by decide) q y.2.2), fun q3 => ⟨fun q4 => ?_, fun q => no (fun y => IN_gt (a := 0) (by decide) (Int32.not_le.mp q) y.2.2)⟩⟩⟩⟩⟩) (fun z => ⟨L, fun _ => no (fun y => y.1 (h0.trans z)), fun q => absurd rfl q⟩))
  obtain ⟨n, n1, n2, rfl⟩ := rg_of (a := 0) (b := 60) rfl rfl (by decide) (by decide) q1 q2
  obtain ⟨v, v1, v2, rfl⟩ := rg_of (a := 0) (b := 1) rfl rfl (by decide) (by decide) q3 (Int32.not_lt.mpr q4)
  rw [hcn]
  refine c_findLook L hT R h4 H hN hC n2 (fun h1 f1 e0 e1 => ⟨L.fr f1, told2q (L.fr f1) (by omega) ⟨L.fr f1, ?_⟩⟩)
  have yes := hQ h1 f1
  unfold aLook at yes
  rw [if_pos ⟨by rw [h0]; exact c, IN_j n1 n2 (by decide), IN_j v1 v2 (by decide)⟩, nI_clamp (n := n) (by omega)] at yes
  by_cases z : (loN P t0 N n (cnt + 1)).1 = 0 ∨ t0.1 3 = 0
  · rw [if_pos z] at yes e0 e1
    rcases (show v = 0 ∨ v = 1 by omega) with rfl | rfl
    · rw [e0]; exact yes
    · rw [e1]; exact yes
  · rw [if_neg z] at yes e0 e1
    rcases (show v = 0 ∨ v = 1 by omega) with rfl | rfl
    · rw [e0]; exact yes
    · rw [e1]; exact yes
end CLK
