/-! acts, of the reference, on -/
def AMa (x k : Nat) : Prop := (x = 252 ∧ (k = 48 ∨ k = 51 ∨ k = 52 ∨ k = 53)) ∨ (x = 253 ∧ k = 4) ∨ (254 ≤ x ∧ x ≤ 257) ∨ x = 260 ∨ x = 261 ∨ x = 284 ∨ x = 285 ∨ (287 ≤ x ∧ x ≤ 290)
def RMa (h h' : HP) (t : Tw) (p : Pst) : Prop := FrC AMa h h' ∧ TD h' 253 t ∧ MPs h' p
def AKe (x k : Nat) : Prop := x = 290 ∨ (x = 252 ∧ (k = 51 ∨ k = 52 ∨ k = 53))
section MA2
variable {g : GT} {d : Nat} {h : HP} {t : Tw} {ρ : Option Rl} {p : Pst}
theorem m_keepsAct {Q : HP → Prop} (L : Lay h) (T : TD h 253 t) (hP : MPs h p) (hO : PsOK p t) (hQ : ∀ h', FrC AKe h h' → MPs h' (kpS p t) → Q h') : CallV g mX10_keepsAct (d + 3) (0, 0) [.ref 252] h Q := by
  obtain ⟨hn, e51, hS⟩ := hP
  have hB := T.1
  have hB' := hB
  unfold TB at hB
  have pkT : ∀ (h1 h2 : HP) b, (∀ k, k < 5 → hI h1 253 k = hI h 253 k) → (∀ r j, 1 ≤ r → r ≤ 8 → hI h1 (253 + r) j = hI h (253 + r) j) → hI h2 290 b = hI h1 253 4 → (∀ j, j < 5 → hI h2 290 (b + 1 + j) = hI h1 254 j ∧ hI h2 290 (b + 6 + j) = hI h1 255 j ∧ hI h2 290 (b + 11 + j) = hI h1 256 j) → (∀ j, j < 6 → hI h2 290 (b + 16 + j) = hI h1 257 j ∧ hI h2 290 (b + 22 + j) = hI h1 260 j ∧ hI h2 290 (b + 28 + j) = hI h1 261 j) → PkM h2 290 b t := fun h1 h2 b c1 c2 u0 u1 u2 => by
    have T1 := T.to c1 c2
    exact ⟨u0.trans (mS T1 4 (by omega)), fun j hj => ⟨(u1 j (by omega)).1.trans (mHo T1 hj), (u1 j (by omega)).2.1.trans (mUn T1 hj), (u1 j (by omega)).2.2.trans (mSt T1 hj)⟩, fun i hi => ⟨(u2 i (by omega)).1.trans (mSh T1 hi), (u2 i (by omega)).2.1.trans (mLa T1 hi), (u2 i (by omega)).2.2.trans (mNi T1 hi)⟩⟩
  refine wX10_keepsAct_0 L ?_
  rw [e51]
  refine ⟨fun z => ?_, fun z => ?_⟩
  · have c : p.1 = 20 := (nI_eq (a := p.1) (b := 20) (by omega) (by omega)).mp z
    have ek : kpS p t = (20, fun i => if i = 19 then t else p.2 (i + 1)) := if_pos c
    refine loopN (σ := Unit) (P := fun i _ h' => Sat g mX10_keepsAct (d + 3) (0, 0) (qV Q) 12 [.ref 252, .int (nI (34 + i))] [] h') (I := fun i _ h' => FrC (fun x _ => x = 290) h h' ∧ (∀ k, k < i → hI h' 290 k = hI h 290 (k + 34)) ∧ ∀ k, i ≤ k → hI h' 290 k = hI h 290 k) 646 (fun _ h' e => ?_) (fun i _ h' hi e ih => ?_) 0 () h (by omega) ⟨FrC.rf h, fun k hk => by omega, fun _ _ => rfl⟩
    · obtain ⟨f, e1, e2⟩ := e
      refine wX10_keepsAct_12 _ (f.lay L) ⟨fun _ => ?_, fun y => absurd (by decide) y⟩
      rw [f.I (by omega), e51, c, show nI 20 - 1 = nI 19 from rfl]
      have f2 : FrC AKe h (setI h' 252 51 (nI 19)) := (f.wd (fun x k hx => by unfold AKe; omega)).tr (FrC.stI (by unfold AKe; omega))
      have e3 : ∀ x k, ¬ x = 252 → hI (setI h' 252 51 (nI 19)) x k = hI h' x k := fun x k hx => rdn (by omega)
      have v51 : hI (setI h' 252 51 (nI 19)) 252 51 = nI 19 := rdI
      generalize setI h' 252 51 (nI 19) = h2 at *
      refine m_movesAllS (m := 19) (b := 34 * 19) (f2.lay L) (by omega) rfl (fun h3 f3 u0 u1 u2 => ⟨f3.lay (f2.lay L), ?_⟩)
      rw [f3.I (by unfold AMs; omega), v51, nI_1]
      refine hQ _ (f2.tr ((f3.wd (fun x k hx => by unfold AMs at hx; unfold AKe; omega)).tr (FrC.stI (by unfold AKe; omega)))) ?_
      rw [ek]
      refine ⟨Nat.le_refl _, rdI, fun i hi => ?_⟩
      have hi : i < 20 := hi
      show PkM _ _ _ (if i = 19 then t else p.2 (i + 1))
      by_cases c2 : i = 19
      · rw [if_pos c2]
        subst c2
        refine (pkT h2 h3 (34 * 19) (fun k hk => by rw [e3 _ _ (by omega), f.I (by omega)]) (fun r j _ _ => by rw [e3 _ _ (by omega), f.I (by omega)]) u0 u1 u2).to hB' (fun k hk => rdn (by omega))
      · rw [if_neg c2]
        refine (hS (i + 1) (by omega)).to (hO.2 (i + 1) (by omega)).1 (fun k hk => ?_)
        rw [rdn (by omega), f3.I (by unfold AMs; omega), e3 _ _ (by omega), e1 _ (by omega)]
        congr 1
        omega
    · obtain ⟨f, e1, e2⟩ := e
      refine wX10_keepsAct_12 _ (f.lay L) ?_
      rw [show nI (34 + i) - 34 = nI i from (pk_sub (a := 34 + i) (b := 34) (by omega)).trans (by rw [show 34 + i - 34 = i by omega]), nI_clamp (n := i) (by omega), nI_clamp (n := 34 + i) (by omega), nI_1, e2 (34 + i) (by omega)]
      refine ⟨fun y => absurd y (nI_ge (a := 34 + i) (b := 680) (by omega) (by omega)), fun _ => ⟨vn (by omega) (by omega), vn (by omega) (by omega), ?_⟩⟩
      rw [show 34 + i + 1 = 34 + (i + 1) by omega]
      refine ih () _ ⟨f.tr (FrC.stI rfl), fun k hk => ?_, fun k hk => ?_⟩
      · by_cases y : k = i
        · subst y; rw [rdI, Nat.add_comm]
        · rw [rdn (by omega)]; exact e1 k (by omega)
      · rw [rdn (by omega)]; exact e2 k (by omega)
  · have c : ¬ p.1 = 20 := fun y => z (by rw [y]; rfl)
    have ek : kpS p t = (p.1 + 1, up1 p.2 p.1 t) := if_neg c
    refine m_movesAllS (m := p.1) (b := 34 * p.1) L (by omega) rfl (fun h3 f3 u0 u1 u2 => ⟨f3.lay L, ?_⟩)
    rw [f3.I (by unfold AMs; omega), e51, nI_1]
    refine hQ _ ((f3.wd (fun x k hx => by unfold AMs at hx; unfold AKe; omega)).tr (FrC.stI (by unfold AKe; omega))) ?_
    rw [ek]
    refine ⟨show p.1 + 1 ≤ 20 by omega, rdI, fun i hi => ?_⟩
    have hi : i < p.1 + 1 := hi
    show PkM _ _ _ (up1 p.2 p.1 t i)
    unfold up1
    by_cases c2 : i = p.1
    · rw [if_pos c2]
      subst c2
      exact (pkT h h3 (34 * p.1) (fun _ _ => rfl) (fun _ _ _ _ => rfl) u0 u1 u2).to hB' (fun k hk => rdn (by omega))
    · rw [if_neg c2]
      refine (hS i (by omega)).to (hO.2 i (by omega)).1 (fun k hk => ?_)
      rw [rdn (by omega), f3.I (by unfold AMs; omega)]
theorem MPs.fr {h' : HP} (H : MPs h p) (hO : PsOK p t) (e1 : hI h' 252 51 = hI h 252 51) (e : ∀ k, hI h' 290 k = hI h 290 k) : MPs h' p := ⟨H.1, e1.trans H.2.1, fun i hi => (H.2.2 i hi).to (hO.2 i hi).1 (fun k _ => e _)⟩
theorem m_night {Q : Int32 → HP → Prop} (O : MZ h ρ t) (hP : MPs h p) (hO : PsOK p t) (h9 : t.1 4 ≤ 999) (no : (t.1 0 = 0 ∨ t.1 4 = 999) → Q (-1) h) (yes : ¬ t.1 0 = 0 → t.1 4 < 999 → ∀ h', RMa h h' (nightT t ρ frH) (kpS p t) → Q (nI (cntL (lieS t ρ frH (t.1 3)).1 (t.1 3))) h') : CallI g mX10_night (d + 8) [.ref 252] h Q := by
  have O' := O
  obtain ⟨L, T, R, M, F⟩ := O
  have hB := T.1
  unfold TB at hB
  refine wX10_night_0 L (m_city O' (fun c => ⟨L, fun z => absurd z (by decide), fun _ => ?_⟩) (fun z => ⟨L, fun _ => no (Or.inl z), fun z => absurd rfl z⟩))
  rw [mS T 4 (by omega)]
  refine ⟨fun z => no (Or.inr ((nI_eq (a := t.1 4) (b := 999) (by omega) (by omega)).mp z)), fun z => m_keepsAct L T hP hO (fun h1 f1 P1 => ⟨f1.lay L, ?_⟩)⟩
  have lt : t.1 4 < 999 := by
    have : ¬ t.1 4 = 999 := fun y => z (by rw [y]; rfl)
    omega
  have T1 : TD h1 253 t := T.to (fun k hk => f1.I (by unfold AKe; omega)) (fun r j _ _ => f1.I (by unfold AKe; omega))
  have M1 : MRho h1 ρ := M.to (fun x k hx => f1.I (by unfold AKe; omega))
  have F1 : MF h1 := fun q hq => (f1.I (by unfold AKe; omega)).trans (F q hq)
  refine m_goes (d := d + 3) (f1.lay L) T1 R c (F1.mu T1.1) M1.rl (by omega) (fun h2 f2 T2 _ => ⟨f2.lay (f1.lay L), yes c lt h2 ⟨(f1.wd (fun x k hx => by unfold AKe at hx; unfold AMa; omega)).tr (f2.wd (fun x k hx => by unfold AG at hx; unfold AMa; omega)), T2, P1.fr (t := t) (kp_ok hO T.1 R h9 One.rf) (f2.I (by unfold AG; omega)) (fun k => f2.I (by unfold AG; omega))⟩⟩)
theorem m_turn {x : Int32} {Q : Int32 → HP → Prop} (O : MZ h ρ t) (hP : MPs h p) (hO : PsOK p t) (h9 : t.1 4 ≤ 999) (no : (∀ j, j < t.1 2 → ¬ x = nI j) → Q (-1) h) (yes : ∀ j, j < t.1 2 → x = nI j → ∀ h', RMa h h' (swapT t j) (kpS p t) → Q (t.2 2 j) h') : CallI g mX10_turn (d + 4) [.ref 252, .int x] h Q := by
  obtain ⟨L, T, R, M, F⟩ := O
  have hB := T.1
  unfold TB at hB
  refine wX10_turn_0 _ L (m_isBed L T (fun j hj ej => ⟨L, fun z => absurd z (by decide), fun _ => m_keepsAct L T hP hO (fun h1 f1 P1 => ⟨f1.lay L, ?_⟩)⟩) (fun z => ⟨L, fun _ => no z, fun z => absurd rfl z⟩))
  subst ej
  have T1 : TD h1 253 t := T.to (fun k hk => f1.I (by unfold AKe; omega)) (fun r j _ _ => f1.I (by unfold AKe; omega))
  refine wX10_turns_0 _ (f1.lay L) ⟨vn (by omega) (by omega), ?_⟩
  rw [nI_clamp (n := j) (by omega), mUn T1 hj, mHo T1 hj]
  have f2 : FrC AMa h1 (setI (setI h1 254 j (t.2 2 j)) 255 j (t.2 1 j)) := (FrC.stI (by unfold AMa; omega)).tr (FrC.stI (by unfold AMa; omega))
  have T2 : TD (setI (setI h1 254 j (t.2 2 j)) 255 j (t.2 1 j)) 253 (swapT t j) := (T1.set 1 j (t.2 2 j) (by omega) (by omega)).set 2 j (t.2 1 j) (by omega) (by omega)
  have e9 : ∀ x k, ¬ x = 254 → ¬ x = 255 → hI (setI (setI h1 254 j (t.2 2 j)) 255 j (t.2 1 j)) x k = hI h1 x k := fun x k c1 c2 => by rw [rdn (by omega), rdn (by omega)]
  have ev : hI (setI (setI h1 254 j (t.2 2 j)) 255 j (t.2 1 j)) 254 j = t.2 2 j := (rdn (by omega)).trans rdI
  generalize setI (setI h1 254 j (t.2 2 j)) 255 j (t.2 1 j) = h2 at *
  refine ⟨f2.lay (f1.lay L), vn (by omega) (by omega), ?_⟩
  rw [ev]
  exact yes j hj rfl h2 ⟨(f1.wd (fun x k hx => by unfold AKe at hx; unfold AMa; omega)).tr f2, T2, P1.fr (t := t) (kp_ok hO T.1 R h9 One.rf) (e9 _ _ (by omega) (by omega)) (fun k => e9 _ _ (by omega) (by omega))⟩
theorem m_stuff {x y : Int32} {Q : Int32 → HP → Prop} (O : MZ h ρ t) (hP : MPs h p) (hO : PsOK p t) (h9 : t.1 4 ≤ 999) (no : (∀ j m, j < t.1 2 → 1 ≤ m → m ≤ 9 → x = nI j → y = nI m → t.2 3 j = y) → Q (-1) h) (yes : ∀ j m, j < t.1 2 → 1 ≤ m → m ≤ 9 → x = nI j → y = nI m → ¬ t.2 3 j = y → ∀ h', RMa h h' (setT t 3 j y) (kpS p t) → Q (t.2 3 j) h') : CallI g mX10_stuff (d + 4) [.ref 252, .int x, .int y] h Q := by
  obtain ⟨L, T, R, M, F⟩ := O
  have hB := T.1
  unfold TB at hB
  refine wX10_stuff_0 _ _ L (m_isBed L T (fun j hj ej => ⟨L, fun z => absurd z (by decide), fun _ => m_in L (a := 1) (b := 9) rfl rfl (by decide) (by decide) (fun m m1 m2 em => ⟨L, fun z => absurd z (by decide), fun _ => ?_⟩) (fun z => ⟨L, fun _ => no (fun j m _ m1 m2 _ em => absurd (em ▸ IN_j m1 m2 (by decide)) z), fun z => absurd rfl z⟩)⟩) (fun z => ⟨L, fun _ => no (fun j m hj _ _ ej _ => absurd ej (z j hj)), fun z => absurd rfl z⟩))
  subst ej
  rw [nI_clamp (n := j) (by omega), mSt T hj]
  refine ⟨vn (by omega) (by omega), fun z => no (fun j' m' hj' _ _ ej' _ => ?_), fun z => m_keepsAct L T hP hO (fun h1 f1 P1 => ⟨f1.lay L, ?_⟩)⟩
  · have : j = j' := (nI_eq (by omega) (by omega)).mp ej'
    subst this; exact z
  · have T1 : TD h1 253 t := T.to (fun k hk => f1.I (by unfold AKe; omega)) (fun r j _ _ => f1.I (by unfold AKe; omega))
    rw [mSt T1 hj]
    exact yes j m hj m1 m2 rfl em z _ ⟨(f1.wd (fun x k hx => by unfold AKe at hx; unfold AMa; omega)).tr (FrC.stI (by unfold AMa; omega)), T1.set 3 j y (by omega) (by omega), P1.fr (t := t) (kp_ok hO T.1 R h9 One.rf) (rdn (by omega)) (fun k => rdn (by omega))⟩
theorem m_burn {x : Int32} {Q : Int32 → HP → Prop} (O : MZ h ρ t) (hP : MPs h p) (hO : PsOK p t) (h9 : t.1 4 ≤ 999) (no : (∀ j, j < t.1 2 → x = nI j → t.2 1 j = 50 ∧ t.2 2 j = 50) → Q (-1) h) (yes : ∀ j, j < t.1 2 → x = nI j → ¬ (t.2 1 j = 50 ∧ t.2 2 j = 50) → ∀ h', RMa h h' (setT (setT t 1 j 50) 2 j 50) (kpS p t) → Q (t.2 1 j) h') : CallI g mX10_burn (d + 4) [.ref 252, .int x] h Q := by
  obtain ⟨L, T, R, M, F⟩ := O
  have hB := T.1
  unfold TB at hB
  refine wX10_burn_0 _ L (m_isBed L T (fun j hj ej => ⟨L, fun z => absurd z (by decide), fun _ => ?_⟩) (fun z => ⟨L, fun _ => no (fun j hj ej => absurd ej (z j hj)), fun z => absurd rfl z⟩))
  subst ej
  rw [nI_clamp (n := j) (by omega), mHo T hj, mUn T hj]
  have go : ¬ (t.2 1 j = 50 ∧ t.2 2 j = 50) → CallV g mX10_keepsAct (d + 3) (0, 0) [.ref 252] h (fun h7 => Lay h7 ∧ qI Q (some (.int (hI h7 254 j))) (setI (setI h7 254 j 50) 255 j 50)) := fun nn => m_keepsAct L T hP hO (fun h1 f1 P1 => ⟨f1.lay L, by
    have T1 : TD h1 253 t := T.to (fun k hk => f1.I (by unfold AKe; omega)) (fun r j _ _ => f1.I (by unfold AKe; omega))
    rw [mHo T1 hj]
    exact yes j hj rfl nn _ ⟨(f1.wd (fun x k hx => by unfold AKe at hx; unfold AMa; omega)).tr ((FrC.stI (by unfold AMa; omega)).tr (FrC.stI (by unfold AMa; omega))), (T1.set 1 j 50 (by omega) (by omega)).set 2 j 50 (by omega) (by omega), P1.fr (t := t) (kp_ok hO T.1 R h9 One.rf) (by rw [rdn (by omega), rdn (by omega)]) (fun k => by rw [rdn (by omega), rdn (by omega)])⟩⟩)
  exact ⟨vn (by omega) (by omega), fun z => ⟨fun z2 => no (fun j' hj' ej' => by
    have : j = j' := (nI_eq (by omega) (by omega)).mp ej'
    subst this; exact ⟨z, z2⟩), fun z2 => go (fun w => z2 w.2)⟩, fun z => go (fun w => z w.1)⟩
theorem m_lead {x y : Int32} {Q : Int32 → HP → Prop} (O : MZ h ρ t) (hP : MPs h p) (hO : PsOK p t) (h9 : t.1 4 ≤ 999) (no : (∀ q j, q < t.1 3 → j < t.1 2 → x = nI q → y = nI j → t.2 7 q = y) → Q (-2) h) (yes : ∀ q j, q < t.1 3 → j < t.1 2 → x = nI q → y = nI j → ¬ t.2 7 q = y → ∀ h', RMa h h' (setT t 7 q y) (kpS p t) → Q (t.2 7 q) h') : CallI g mX10_lead (d + 4) [.ref 252, .int x, .int y] h Q := by
  obtain ⟨L, T, R, M, F⟩ := O
  have hB := T.1
  unfold TB at hB
  refine wX10_lead_0 _ _ L (m_isLodger L T (fun q hq eq => ⟨L, fun z => absurd z (by decide), fun _ => m_isBed L T (fun j hj ej => ⟨L, fun z => absurd z (by decide), fun _ => ?_⟩) (fun z => ⟨L, fun _ => no (fun q j _ hj _ ej => absurd ej (z j hj)), fun z => absurd rfl z⟩)⟩) (fun z => ⟨L, fun _ => no (fun q j hq _ eq _ => absurd eq (z q hq)), fun z => absurd rfl z⟩))
  subst eq
  rw [nI_clamp (n := q) (by omega), mLa T hq]
  refine ⟨vn (by omega) (by omega), fun z => no (fun q' j' hq' _ eq' _ => ?_), fun z => m_keepsAct L T hP hO (fun h1 f1 P1 => ⟨f1.lay L, ?_⟩)⟩
  · have : q = q' := (nI_eq (by omega) (by omega)).mp eq'
    subst this; exact z
  · have T1 : TD h1 253 t := T.to (fun k hk => f1.I (by unfold AKe; omega)) (fun r j _ _ => f1.I (by unfold AKe; omega))
    rw [mLa T1 hq]
    exact yes q j hq hj rfl ej z _ ⟨(f1.wd (fun x k hx => by unfold AKe at hx; unfold AMa; omega)).tr (FrC.stI (by unfold AMa; omega)), T1.set 7 q y (by omega) (by omega), P1.fr (t := t) (kp_ok hO T.1 R h9 One.rf) (rdn (by omega)) (fun k => rdn (by omega))⟩
theorem m_undo {Q : Int32 → HP → Prop} (O : MZ h ρ t) (hP : MPs h p) (hO : PsOK p t) (no : p.1 = 0 → Q (-2) h) (yes : ¬ p.1 = 0 → ∀ h', RMa h h' (p.2 (p.1 - 1)) (p.1 - 1, p.2) → Q (nI (p.1 - 1)) h') : CallI g mX10_undo (d + 3) [.ref 252] h Q := by
  obtain ⟨L, T, R, M, F⟩ := O
  have hB := T.1
  unfold TB at hB
  obtain ⟨hn, e51, hS⟩ := hP
  refine wX10_undo_0 L ?_
  rw [e51]
  refine ⟨fun z => no ((nI_eq (a := p.1) (b := 0) (by omega) (by omega)).mp z), fun z => ?_⟩
  have pz : ¬ p.1 = 0 := fun y => z (by rw [y]; rfl)
  obtain ⟨m, hm⟩ : ∃ m, p.1 = m + 1 := ⟨p.1 - 1, by omega⟩
  have em : p.1 - 1 = m := by omega
  rw [hm, nI_pred]
  have f1 : FrC AKe h (setI h 252 51 (nI m)) := FrC.stI (by unfold AKe; omega)
  have e1 : ∀ x k, ¬ x = 252 → hI (setI h 252 51 (nI m)) x k = hI h x k := fun x k hx => rdn (by omega)
  have v51 : hI (setI h 252 51 (nI m)) 252 51 = nI m := rdI
  generalize setI h 252 51 (nI m) = h1 at *
  refine m_movesAllB (m := m) (b := 34 * m) (f1.lay L) (by omega) rfl (fun h2 f2 u0 u1 u2 => ⟨f2.lay (f1.lay L), ?_⟩)
  obtain ⟨b1, b2, b3, b4⟩ := hO.2 m (by omega)
  have pk := hS m (by omega)
  have pk1 : PkM h1 290 (34 * m) (p.2 m) := pk.to b1 (fun k _ => e1 _ _ (by omega))
  have o2 : (p.2 m).1 2 = t.1 2 := b4.1 2 (by omega)
  have o3 : (p.2 m).1 3 = t.1 3 := b4.1 3 (by omega)
  have w1 : hI h2 252 51 = nI m := (f2.I (by unfold AMb; omega)).trans v51
  have T2 : TD h2 253 (p.2 m) := by
    refine ⟨b1, fun k hk => ?_, fun r j hr => ?_⟩
    · by_cases c : k = 4
      · subst c; exact u0.trans pk1.1
      · rw [f2.I (by unfold AMb; omega), e1 _ _ (by omega), mS T k hk, b4.1 k (by omega)]
    · unfold rowOK at hr
      rcases (show (r = 1 ∧ j < t.1 2) ∨ (r = 2 ∧ j < t.1 2) ∨ (r = 3 ∧ j < t.1 2) ∨ (r = 4 ∧ j < t.1 3) ∨ (r = 5 ∧ j < t.1 3) ∨ (r = 6 ∧ j < t.1 3) ∨ (r = 7 ∧ j < t.1 3) ∨ (r = 8 ∧ j < t.1 3) by omega) with ⟨rfl, hj⟩ | ⟨rfl, hj⟩ | ⟨rfl, hj⟩ | ⟨rfl, hj⟩ | ⟨rfl, hj⟩ | ⟨rfl, hj⟩ | ⟨rfl, hj⟩ | ⟨rfl, hj⟩
      · exact (u1 j (by omega)).1.trans (pk1.2.1 j (by omega)).1
      · exact (u1 j (by omega)).2.1.trans (pk1.2.1 j (by omega)).2.1
      · exact (u1 j (by omega)).2.2.trans (pk1.2.1 j (by omega)).2.2
      · exact (u2 j (by omega)).1.trans (pk1.2.2 j (by omega)).1
      · rw [f2.I (by unfold AMb; omega), e1 _ _ (by omega)]; exact (mBo T hj).trans (b4.2 j hj).1.symm
      · rw [f2.I (by unfold AMb; omega), e1 _ _ (by omega)]; exact (mWa T hj).trans (b4.2 j hj).2.symm
      · exact (u2 j (by omega)).2.1.trans (pk1.2.2 j (by omega)).2.1
      · exact (u2 j (by omega)).2.2.trans (pk1.2.2 j (by omega)).2.2
  rw [w1, ← em]
  refine yes pz h2 ⟨(f1.wd (fun x k hx => by unfold AKe at hx; unfold AMa; omega)).tr (f2.wd (fun x k hx => by unfold AMb at hx; unfold AMa; omega)), by rw [em]; exact T2, show p.1 - 1 ≤ 20 by omega, by rw [w1]; exact congrArg nI em.symm, fun i hi => ?_⟩
  have hi : i < p.1 - 1 := hi
  exact (hS i (by omega)).to (hO.2 i (by omega)).1 (fun k _ => by rw [f2.I (by unfold AMb; omega), e1 _ _ (by omega)])
end MA2
