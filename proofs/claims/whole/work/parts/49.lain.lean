/-! who can have lain there -/
def bt (m i : Nat) : Bool := decide (m / 2 ^ i % 2 = 1)
theorem bt_16 : ∀ k : Fin 16, ∀ m : Fin 64, ((nI m.val >>> (nI k.val &&& 31)) &&& 1) = (if bt m.val k.val = true then 1 else 0) := by decide +kernel
theorem bt_p16 : ∀ m : Fin 64, cntB (bt m.val) 16 = popc m.val := by decide +kernel
theorem bt_pL : ∀ L : Fin 7, ∀ m : Fin 64, m.val < 2 ^ L.val → cntB (bt m.val) L.val = popc m.val := by decide +kernel
theorem sh_L : ∀ L : Fin 7, (1 : Int32) <<< (nI L.val &&& 31) = nI (2 ^ L.val) := by decide +kernel
theorem pw_L : ∀ L : Fin 7, 2 ^ L.val ≤ 64 := by decide +kernel
theorem pc_le : ∀ m : Fin 64, popc m.val ≤ 6 := by decide +kernel
theorem an_1 : ∀ m : Fin 64, (-1 : Int32) &&& nI m.val = nI m.val := by decide +kernel
def laN (t : Tw) (j : Nat) (w : Int32) : Nat → Nat × Int32 × Int32
  | 0 => (0, -2, 0)
  | m + 1 => if popc m ≤ t.1 1 ∧ hoB t j (bt m) = w then ((laN t j w m).1 + 1, if (laN t j w m).1 = 0 then nI m else (laN t j w m).2.1, if (laN t j w m).1 = 0 then nI m else (laN t j w m).2.2 &&& nI m) else laN t j w m
theorem laN_le (t : Tw) (j : Nat) (w : Int32) : ∀ m, (laN t j w m).1 ≤ m
  | 0 => Nat.le_refl _
  | m + 1 => by
    have := laN_le t j w m
    rw [laN]
    by_cases c : popc m ≤ t.1 1 ∧ hoB t j (bt m) = w
    · rw [if_pos c]; show (laN t j w m).1 + 1 ≤ _; omega
    · rw [if_neg c]; omega
def aLain (t : Tw) (b hw w : Int32) : Int32 := if IX b (t.1 2) ∧ IN hw 0 99 ∧ IN w 0 2 then (if w = 0 then nI (laN t b.toNatClampNeg hw (2 ^ t.1 3)).1 else if w = 1 then (laN t b.toNatClampNeg hw (2 ^ t.1 3)).2.1 else (laN t b.toNatClampNeg hw (2 ^ t.1 3)).2.2) else -3
section LAI
variable {g : GT} {d : Nat} {h : HP} {t : Tw} {ρ : Option Rl}
theorem m_bits {n : Nat} {Q : Int32 → HP → Prop} (L : Lay h) (hn : n < 64) (hQ : Q (nI (popc n)) h) : CallI g mX10_bits d [.int (nI n)] h Q := by
  refine wX10_bits_0 _ L ?_
  refine loopN (σ := Unit) (P := fun k _ h' => Sat g mX10_bits d (0, 0) (qI Q) 4 [.int (nI n), .int (nI (cntB (bt n) k)), .int (nI k)] [] h') (I := fun k _ h' => h' = h) 16 (fun _ h' e => ?_) (fun k _ h' hk e ih => ?_) 0 () h (by omega) rfl
  · subst e
    refine wX10_bits_4 _ _ _ L ⟨fun _ => ?_, fun c => absurd (by decide) c⟩
    rw [bt_p16 ⟨n, hn⟩]
    exact hQ
  · subst e
    refine wX10_bits_4 _ _ _ L ⟨fun c => absurd c (nI_ge (a := k) (b := 16) hk (by omega)), fun _ => ?_⟩
    have := ih () h' rfl
    rw [show cntB (bt n) (k + 1) = (if bt n k = true then cntB (bt n) k + 1 else cntB (bt n) k) from rfl] at this
    rw [bt_16 ⟨k, hk⟩ ⟨n, hn⟩, nI_1 k]
    by_cases c : bt n k = true
    · rw [if_pos c] at this ⊢
      rw [nI_1]; exact this
    · rw [if_neg c] at this ⊢
      rw [show nI (cntB (bt n) k) + 0 = nI (cntB (bt n) k) from nI_add _ 0]; exact this
theorem m_hollowBy {j m : Nat} {Q : Int32 → HP → Prop} (L : Lay h) (T : TD h 253 t) (R : TR t) (hj : j < t.1 2) (hm : m < 2 ^ t.1 3) (hQ : Q (hoB t j (bt m)) h) : CallI g mX10_hollowBy (d + 1) [.ref 252, .int (nI j), .int (nI m)] h Q := by
  have hB := T.1
  unfold TB at hB
  have hm64 : m < 64 := Nat.lt_of_lt_of_le hm (pw_L ⟨t.1 3, by omega⟩)
  have hpc : popc m ≤ 6 := pc_le ⟨m, hm64⟩
  have hcnt : cntB (bt m) (t.1 3) = popc m := bt_pL ⟨t.1 3, by omega⟩ ⟨m, hm64⟩ hm
  refine wX10_hollowBy_0 _ _ L (m_bits L hm64 ⟨L, ?_⟩)
  refine loopN (σ := Unit) (P := fun i _ h' => Sat g mX10_hollowBy (d + 1) (0, 0) (qI Q) 11 [.ref 252, .int (nI j), .int (nI m), .int (sumB (bt m) (t.2 4) i), .int (nI (popc m)), .int (nI i)] [] h') (I := fun i _ h' => h' = h) (t.1 3) (fun _ h' e => ?_) (fun i _ h' hi e ih => ?_) 0 () h (by omega) rfl
  · subst e
    refine wX10_hollowBy_11 _ _ _ _ _ L ?_
    rw [mS T 3 (by omega), nI_clamp (n := j) (by omega), mHo T hj, mSt T hj]
    unfold hoB at hQ
    rw [hcnt] at hQ
    obtain ⟨-, -, n9, h91, h92, e9⟩ := R.2.1 j hj
    refine ⟨fun _ => ⟨fun z => ⟨vn (by omega) (by omega), ?_⟩, fun z => ⟨vn (by omega) (by omega), z, ?_, ?_⟩⟩, fun c => absurd (nI_le (Nat.le_refl _) (by omega)) c⟩
    · have : popc m = 0 := (nI_eq (by omega) (by omega)).mp z
      rw [if_pos this] at hQ
      exact hQ
    · rw [e9]; exact nI_ne0 (by omega) (by omega)
    · rw [if_neg (fun y => z (by rw [y]; rfl))] at hQ
      exact hQ
  · subst e
    refine wX10_hollowBy_11 _ _ _ _ _ L ?_
    rw [mS T 3 (by omega)]
    refine ⟨fun c => absurd c (nI_ge hi (by omega)), fun _ => wX10_has_0 _ _ L ?_⟩
    have := ih () h' rfl
    rw [sumB_s] at this
    rw [bt_16 ⟨i, by omega⟩ ⟨m, hm64⟩]
    by_cases c : bt m i = true
    · rw [if_pos c] at this ⊢
      refine ⟨fun _ => ⟨L, fun q => absurd q (by decide), fun _ => ⟨vn (by omega) (by omega), ?_⟩⟩, fun q => absurd rfl q⟩
      rw [nI_clamp (n := i) (by omega), mSh T hi, nI_1]
      exact this
    · rw [if_neg c] at this ⊢
      refine ⟨fun q => absurd q (by decide), fun _ => ⟨L, fun _ => ?_, fun q => absurd rfl q⟩⟩
      rw [nI_1, Int32.add_zero]
      exact this
theorem m_lain {b hw w : Int32} {Q : Int32 → HP → Prop} (O : MZ h ρ t) (hQ : Q (aLain t b hw w) h) : CallI g mX10_lain (d + 2) [.ref 252, .int b, .int hw, .int w] h Q := by
  have no : ¬ (IX b (t.1 2) ∧ IN hw 0 99 ∧ IN w 0 2) → Q (-3) h := fun c => by
    unfold aLain at hQ
    rwa [if_neg c] at hQ
  obtain ⟨L, T, R, -, -⟩ := O
  have hB := T.1
  unfold TB at hB
  refine wX10_lain_0 _ _ _ L (m_isBed L T (fun j hj eb => ⟨L, fun q => absurd q (by decide), fun _ => m_in L (a := 0) (b := 99) rfl rfl (by decide) (by decide) (fun x x1 x2 ex => ⟨L, fun q => absurd q (by decide), fun _ => m_in L (a := 0) (b := 2) rfl rfl (by decide) (by decide) (fun v v1 v2 ev => ⟨L, fun q => absurd q (by decide), fun _ => ?_⟩) (fun z => ⟨L, fun _ => no (fun y => z y.2.2), fun q => absurd rfl q⟩)⟩) (fun z => ⟨L, fun _ => no (fun y => z y.2.1), fun q => absurd rfl q⟩)⟩) (fun z => ⟨L, fun _ => no (fun y => IX_no z y.1), fun q => absurd rfl q⟩))
  unfold aLain at hQ
  rw [if_pos ⟨by rw [eb]; exact IX_j hj (by omega), by rw [ex]; exact IN_j x1 x2 (by decide), by rw [ev]; exact IN_j v1 v2 (by decide)⟩] at hQ
  subst eb
  rw [nI_clamp (n := j) (by omega)] at hQ
  clear ex ev no
  have h64 := pw_L ⟨t.1 3, by omega⟩
  have hsh := sh_L ⟨t.1 3, by omega⟩
  simp only at h64 hsh
  refine loopN (σ := Unit) (P := fun m _ h' => Sat g mX10_lain (d + 2) (0, 0) (qI Q) 48 [.ref 252, .int (nI j), .int hw, .int w, .int (nI (laN t j hw m).1), .int (laN t j hw m).2.1, .int (laN t j hw m).2.2, .int (nI m)] [] h') (I := fun i _ h' => h' = h) (2 ^ t.1 3) (fun _ h' e => ?_) (fun m _ h' hm e ih => ?_) 0 () h (Nat.zero_le _) rfl
  · subst e
    refine wX10_lain_48 _ _ _ _ _ _ _ L ?_
    rw [mS T 3 (by omega), hsh]
    refine ⟨fun _ => ⟨fun q => by rwa [if_pos q] at hQ, fun q => ⟨fun q2 => by rwa [if_neg q, if_pos q2] at hQ, fun q2 => by rwa [if_neg q, if_neg q2] at hQ⟩⟩, fun c => absurd (nI_le (Nat.le_refl _) (by omega)) c⟩
  · subst e
    have := ih () h' rfl
    have hle := laN_le t j hw m
    rw [laN] at this
    generalize laN t j hw m = p at *
    refine wX10_lain_48 _ _ _ _ _ _ _ L ?_
    rw [mS T 3 (by omega), hsh]
    have hpc := pc_le ⟨m, by omega⟩
    simp only at hpc
    refine ⟨fun c => absurd c (nI_ge hm (by omega)), fun _ => m_bits L (by omega) ⟨L, ?_⟩⟩
    rw [mS T 1 (by omega), nI_ltI (by omega) (by omega), nI_1 m, nI_1 p.1]
    refine ⟨fun c => ?_, fun c => m_hollowBy L T R hj hm ⟨L, fun c2 => ?_, fun c2 => ?_⟩⟩
    · rw [if_neg (fun y => by omega)] at this
      exact this
    · rw [if_pos ⟨by omega, c2⟩] at this
      refine ⟨fun z => ?_, fun z => ?_⟩
      · have z1 : p.1 = 0 := (nI_eq (by omega) (by omega)).mp z
        rw [if_pos z1, if_pos z1] at this
        exact ⟨fun _ => this, fun q => absurd z q⟩
      · have z1 : ¬ p.1 = 0 := fun y => z (by rw [y]; rfl)
        rw [if_neg z1, if_neg z1] at this
        exact ⟨fun q => absurd q z, fun _ => this⟩
    · rw [if_neg (fun y => c2 y.2)] at this
      exact this
theorem told7 {h' : HP} {v : Nat} {Q : Int32 → HP → Prop} (L : Lay h') (hv : v < 7) (hQ : Q (hI h' 62 v) h') : CallI g mX0_told d [.ref 58, .int (nI v)] h' Q := by
  refine wX0_told_0 (nI v) L ⟨fun c => absurd c (nI_pos (by omega)), fun _ => ?_⟩
  rw [Ln L N_62, nI_clamp (by omega)]
  exact ⟨fun c => absurd c (nI_ge (a := v) (b := 7) hv (by omega)), fun _ => ⟨vn (by omega) (by omega), hQ⟩⟩
theorem c_findLain {j : Nat} {hw : Int32} {Q : HP → Prop} (L : Lay h) (hT : TownIs h 4 t) (R : TR t) (hj : j < t.1 2) (hQ : ∀ h', RC h h' → hI h' 62 0 = nI (laN t j hw (2 ^ t.1 3)).1 → hI h' 62 1 = (laN t j hw (2 ^ t.1 3)).2.1 → hI h' 62 2 = (laN t j hw (2 ^ t.1 3)).2.2 → Q h') : CallV g mX0_findLain (d + 2) (0, 0) [.ref 58, .ref 4, .int (nI j), .int hw] h Q := by
  have hB := hT.2.1
  unfold TB at hB
  have h64 := pw_L ⟨t.1 3, by omega⟩
  have hsh := sh_L ⟨t.1 3, by omega⟩
  simp only at h64 hsh
  have e3 : hI h 4 3 = nI (t.1 3) := hT.2.2.1 3 (by omega)
  have e1 : hI h 4 1 = nI (t.1 1) := hT.2.2.1 1 (by omega)
  have emin : (if (6 : Int32) < nI (t.1 3) then 6 else nI (t.1 3)) = nI (t.1 3) := if_neg (nI_nlt (a := 6) (b := t.1 3) (by omega) (by omega))
  refine wX0_findLain_0 _ _ L ?_
  refine loopN (σ := Unit) (P := fun m _ h' => Sat g mX0_findLain (d + 2) (0, 0) (qV Q) 13 [.ref 58, .ref 4, .int (nI j), .int hw, .int (nI (laN t j hw m).1), .int (laN t j hw m).2.1, .int (if (laN t j hw m).1 = 0 then -1 else (laN t j hw m).2.2), .int (nI m)] [] h') (I := fun i _ h' => h' = h) (2 ^ t.1 3) (fun _ h' e => ?_) (fun m _ h' hm e ih => ?_) 0 () h (Nat.zero_le _) rfl
  · subst e
    refine wX0_findLain_13 _ _ _ _ _ _ L (c_min ⟨L, ?_⟩)
    have hle := laN_le t j hw (2 ^ t.1 3)
    have e0 : (laN t j hw (2 ^ t.1 3)).1 = 0 → (laN t j hw (2 ^ t.1 3)).2.2 = 0 := by
      generalize 2 ^ t.1 3 = n
      induction n with
      | zero => intro _; rfl
      | succ n ih =>
        rw [laN]
        by_cases c : popc n ≤ t.1 1 ∧ hoB t j (bt n) = hw
        · rw [if_pos c]; intro z; exact absurd z (by omega)
        · rw [if_neg c]; exact ih
    rw [e3, emin, hsh]
    refine ⟨fun _ => ⟨fun z => hQ _ (((Fr.stI (by omega)).tr (Fr.stI (by omega))).tr (Fr.stI (by omega))) ?_ ?_ ?_, fun z => hQ _ (((Fr.stI (by omega)).tr (Fr.stI (by omega))).tr (Fr.stI (by omega))) ?_ ?_ ?_⟩, fun c => absurd (nI_le (Nat.le_refl _) (by omega)) c⟩
    · rw [rdn (by omega), rdn (by omega), rdI]
    · rw [rdn (by omega), rdI]
    · rw [rdI]; exact (e0 ((nI_eq (by omega) (by omega)).mp z)).symm
    · rw [rdn (by omega), rdn (by omega), rdI]
    · rw [rdn (by omega), rdI]
    · rw [rdI, if_neg (fun y => z (by rw [y]; rfl))]
  · subst e
    have := ih () h' rfl
    have hle := laN_le t j hw m
    rw [laN] at this
    generalize laN t j hw m = p at *
    refine wX0_findLain_13 _ _ _ _ _ _ L (c_min ⟨L, ?_⟩)
    rw [e3, emin, hsh]
    have hm64 : m < 64 := by omega
    have hpc := pc_le ⟨m, hm64⟩
    have han := an_1 ⟨m, hm64⟩
    simp only at hpc han
    refine ⟨fun c => absurd c (nI_ge hm (by omega)), fun _ => c_bitCount hm64 ⟨L, ?_⟩⟩
    rw [e1, nI_ltI (by omega) (by omega), nI_1 m, nI_1 p.1]
    obtain ⟨-, -, n9, h91, h92, e9⟩ := R.2.1 j hj
    obtain ⟨S, hS, eS⟩ := sumB_rg (bt m) (t.2 4) (t.1 3) (fun i hi => (R.2.2 i hi).1)
    have hcl : cntB (bt m) (t.1 3) ≤ 64 := by rw [bt_pL ⟨t.1 3, by omega⟩ ⟨m, hm64⟩ hm]; simp only; omega
    refine ⟨fun c => ?_, fun c => c_hollowBehind hT hj (by rw [e9]; exact nI_nle (by omega) (by omega)) (by rw [e9]; exact nI_ne0 (by omega) (by omega)) (f := bt m) (fun i hi => ?_) (by rw [eS]; exact nI_pos' (by omega)) ⟨L, fun c2 => ?_, fun c2 => ?_⟩⟩
    · rw [if_neg (fun y => by omega)] at this
      exact this
    · rw [bt_16 ⟨i, by omega⟩ ⟨m, hm64⟩]
      by_cases z : bt m i = true
      · rw [if_pos z]; exact ⟨fun _ => z, fun _ => rfl⟩
      · rw [if_neg z]; exact ⟨fun q => absurd q (by decide), fun q => absurd q z⟩
    · rw [if_pos ⟨by omega, c2⟩] at this
      refine ⟨fun z => ?_, fun z => ?_⟩
      · have z1 : p.1 = 0 := (nI_eq (by omega) (by omega)).mp z
        rw [if_pos z1, if_pos z1, if_neg (show ¬ p.1 + 1 = 0 by omega)] at this
        rw [if_pos z1, han]
        exact this
      · have z1 : ¬ p.1 = 0 := fun y => z (by rw [y]; rfl)
        rw [if_neg z1, if_neg z1, if_neg (show ¬ p.1 + 1 = 0 by omega)] at this
        rw [if_neg z1]
        exact this
    · rw [if_neg (fun y => c2 y.2)] at this
      exact this
theorem c_lain {b hw w : Int32} {Q : Int32 → HP → Prop} (C : CZ h ρ t) (hQ : ∀ h', RC h h' → Q (aLain t b hw w) h') : CallI g mX9_lain (d + 3) [.ref 0, .int b, .int hw, .int w] h Q := by
  obtain ⟨L, hT, R, F⟩ := C
  have hB := hT.2.1
  unfold TB at hB
  have no : ¬ (IX b (t.1 2) ∧ IN hw 0 99 ∧ IN w 0 2) → Q (-3) h := fun c => by
    have := hQ h RC.rf
    unfold aLain at this
    rwa [if_neg c] at this
  refine wX9_lain_0 _ _ _ L ⟨fun q => no (fun y => IN_lt (b := 99) (by decide) q y.2.1), fun q1 => ⟨fun q => no (fun y => IN_gt (a := 0) (by decide) q y.2.1), fun q2 => ⟨fun q => no (fun y => IN_lt (b := 2) (by decide) q y.2.2), fun q3 => ⟨fun q => no (fun y => IN_gt (a := 0) (by decide) q y.2.2), fun q4 => c_hasBed hT (fun j hj eb => ⟨L, fun q => absurd q (by decide), fun _ => ?_⟩) (fun z => ⟨L, fun _ => no (fun y => IX_no z y.1), fun q => absurd rfl q⟩)⟩⟩⟩⟩
  obtain ⟨x, x1, x2, ex⟩ := rg_of (a := 0) (b := 99) rfl rfl (by decide) (by decide) q1 q2
  obtain ⟨v, v1, v2, rfl⟩ := rg_of (a := 0) (b := 2) rfl rfl (by decide) (by decide) q3 q4
  subst eb
  refine c_findLain L hT R hj (fun h1 f1 e0 e1 e2 => ⟨L.fr f1, told7 (L.fr f1) (by omega) ⟨L.fr f1, ?_⟩⟩)
  have := hQ h1 f1
  unfold aLain at this
  rw [if_pos ⟨IX_j hj (by omega), by rw [ex]; exact IN_j x1 x2 (by decide), IN_j v1 v2 (by decide)⟩, nI_clamp (n := j) (by omega)] at this
  rcases (show v = 0 ∨ v = 1 ∨ v = 2 by omega) with rfl | rfl | rfl
  · rw [e0]; exact this
  · rw [e1]; exact this
  · rw [e2]; exact this
end LAI
