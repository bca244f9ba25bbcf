/-! acts, of the class -/
theorem FrC.fr {A : Nat → Nat → Prop} {B : Nat → Prop} {h h' : HP} (f : FrC A h h') (hAB : ∀ x k, A x k → B x) : Fr B h h' :=
  ⟨f.1, f.2.1, fun x hx => ⟨funext (fun k => f.I (fun q => hx (hAB x k q))), funext (fun k => f.J (fun q => hx (hAB x k q)))⟩⟩
def AA (x : Nat) : Prop := (4 ≤ x ∧ x ≤ 12) ∨ x = 22 ∨ x = 23 ∨ (40 ≤ x ∧ x < 46)
def RA (h h' : HP) (t : Tw) (p : Pst) : Prop := Fr AA h h' ∧ TownIs h' 4 t ∧ CPs h' 22 p
/-- towns of one city -/
def One (t t' : Tw) : Prop := (∀ k, k < 4 → t'.1 k = t.1 k) ∧ ∀ i, i < t.1 3 → t'.2 5 i = t.2 5 i ∧ t'.2 6 i = t.2 6 i
def PsOK (p : Pst) (t : Tw) : Prop := p.1 ≤ 20 ∧ ∀ i, i < p.1 → TB (p.2 i) ∧ TR (p.2 i) ∧ (p.2 i).1 4 ≤ 999 ∧ One t (p.2 i)
theorem TownIs.setx {h : HP} {a : Nat} {t : Tw} (hT : TownIs h a t) (r j : Nat) (v : Int32) (h1 : 1 ≤ r) (h2 : r ≤ 8) : TownIs (setI h (a + r) j v) a (setT t r j v) := by
  have := TD.set (h := h) (a := a) (t := t) ⟨hT.2.1, hT.2.2.1, hT.2.2.2⟩ r j v h1 h2
  exact ⟨hT.1.to rfl rfl rfl, this.1, this.2.1, this.2.2⟩
section CAC
variable {g : GT} {d : Nat} {h : HP} {t : Tw} {ρ : Option Rl} {p : Pst}
theorem c_keepForUndo {Q : HP → Prop} (L : Lay h) (hT : TownIs h 4 t) (hP : CPs h 22 p) (hO : PsOK p t) (hQ : ∀ h', Fr (fun x => x = 22 ∨ x = 23) h h' → CPs h' 22 (kpS p t) → Q h') : CallV g mX3_keepForUndo (d + 2) (0, 0) [.ref 3] h Q := by
  obtain ⟨nx, hx, hn, e1, e2, hS⟩ := hP
  have hB := hT.2.1
  have hB' := hB
  unfold TB at hB
  refine vX3_keepForUndo_0 3 h ⟨Lk L K_3, 22, Lr L R_3_2, Lk L K_3, 4, Lr L R_3_0, Lk L K_22, ?_⟩
  refine vX5_keep_0 22 4 h ⟨Lk L K_22, 23, Lr L R_22_0, Lk L K_22, Lk L K_4, ?_⟩
  rw [e2, n34]
  refine c_pack (Ltw_4 L) (Lk L K_23) (Ln L N_23) (by omega) hx (fun h2 f2 p0 p1 p2 => ?_)
  have K2 := f2.K
  have q1 : hI h2 22 1 = nI p.1 := (f2.I (by omega)).trans e1
  have q2 : hI h2 22 2 = nI nx := (f2.I (by omega)).trans e2
  have k22 : hK h2 22 = 6 := by rw [K2]; exact Lk L K_22
  refine ⟨k22, by decide, k22, k22, ?_⟩
  rw [rdn (by omega), q1, q2, nI_1, nI_1, show (20 : Int32) = nI 20 from rfl, pk_rem (by omega) (by omega) (by omega)]
  refine c_min ⟨k22, ?_⟩
  have hmin : (if nI 20 < nI (p.1 + 1) then nI 20 else nI (p.1 + 1)) = nI (if p.1 = 20 then 20 else p.1 + 1) := by
    by_cases c : p.1 = 20
    · rw [if_pos (nI_lt (by omega) (by omega)), if_pos c]
    · rw [if_neg (nI_nlt (by omega) (by omega)), if_neg c]
  rw [hmin]
  have tPk : PkC h2 23 nx t := ⟨p0.trans (hT.2.2.1 4 (by omega)), fun j hj => by
    obtain ⟨a1, a2, a3⟩ := p1 j (by omega)
    rw [a1, a2, a3]
    exact ⟨hT.bed 1 (by omega) (by omega) hj, hT.bed 2 (by omega) (by omega) hj, hT.bed 3 (by omega) (by omega) hj⟩, fun i hi => by
    obtain ⟨a1, a2, a3⟩ := p2 i (by omega)
    rw [a1, a2, a3]
    exact ⟨hT.lod 4 (by omega) (by omega) hi, hT.lod 7 (by omega) (by omega) hi, hT.lod 8 (by omega) (by omega) hi⟩⟩
  refine hQ _ ((f2.fr (fun x k hx => by omega)).tr ((Fr.stI (by omega)).tr (Fr.stI (by omega)))) ⟨(nx + 1) % 20, Nat.mod_lt _ (by omega), ?_, ?_, ?_, fun i hi => ?_⟩
  · unfold kpS
    by_cases c : p.1 = 20
    · rw [if_pos c]; exact Nat.le_refl _
    · rw [if_neg c]; show p.1 + 1 ≤ 20; omega
  · rw [rdI]
    unfold kpS
    by_cases c : p.1 = 20
    · rw [if_pos c, if_pos c]
    · rw [if_neg c, if_neg c]
  · rw [rdn (by omega), rdI]
  · have st : ∀ s (u : Tw), TB u → PkC h2 23 s u → PkC (setI (setI h2 22 2 (nI ((nx + 1) % 20))) 22 1 (nI (if p.1 = 20 then 20 else p.1 + 1))) (22 + 1) s u := fun s u hu H => H.to hu (fun k _ _ => by rw [rdn (by omega), rdn (by omega)])
    by_cases c : p.1 = 20
    · have ek : kpS p t = (20, fun i => if i = 19 then t else p.2 (i + 1)) := if_pos c
      rw [ek] at hi ⊢
      have hi : i < 20 := hi
      show PkC _ _ (((nx + 1) % 20 + 20 - 20 + i) % 20) (if i = 19 then t else p.2 (i + 1))
      by_cases c2 : i = 19
      · rw [if_pos c2]
        refine st _ _ hB' ?_
        rw [show ((nx + 1) % 20 + 20 - 20 + i) % 20 = nx by omega]
        exact tPk
      · rw [if_neg c2]
        refine st _ _ (hO.2 (i + 1) (by omega)).1 ?_
        have := hS (i + 1) (by omega)
        rw [show ((nx + 1) % 20 + 20 - 20 + i) % 20 = (nx + 20 - p.1 + (i + 1)) % 20 by omega]
        exact this.to (hO.2 (i + 1) (by omega)).1 (fun k h1 h2 => f2.I (by omega))
    · have ek : kpS p t = (p.1 + 1, up1 p.2 p.1 t) := if_neg c
      rw [ek] at hi ⊢
      have hi : i < p.1 + 1 := hi
      show PkC _ _ (((nx + 1) % 20 + 20 - (p.1 + 1) + i) % 20) (up1 p.2 p.1 t i)
      unfold up1
      by_cases c2 : i = p.1
      · rw [if_pos c2]
        refine st _ _ hB' ?_
        rw [show ((nx + 1) % 20 + 20 - (p.1 + 1) + i) % 20 = nx by omega]
        exact tPk
      · rw [if_neg c2]
        refine st _ _ (hO.2 i (by omega)).1 ?_
        have := hS i (by omega)
        rw [show ((nx + 1) % 20 + 20 - (p.1 + 1) + i) % 20 = (nx + 20 - p.1 + i) % 20 by omega]
        exact this.to (hO.2 i (by omega)).1 (fun k h1 h2 => f2.I (by omega))
theorem CPs.fr {h' : HP} {a : Nat} (H : CPs h a p) (hO : PsOK p t) (e : ∀ x k, x = a ∨ x = a + 1 → hI h' x k = hI h x k) : CPs h' a p := by
  obtain ⟨nx, h1, h2, h3, h4, h5⟩ := H
  exact ⟨nx, h1, h2, (e a 1 (by omega)).trans h3, (e a 2 (by omega)).trans h4, fun i hi => (h5 i hi).to (hO.2 i hi).1 (fun k _ _ => e _ k (by omega))⟩
theorem kp_ok (hO : PsOK p t) (hB : TB t) (hR : TR t) (h9 : t.1 4 ≤ 999) {t' : Tw} (h1 : One t t') : PsOK (kpS p t) t' := by
  have key : ∀ i, i < p.1 → TB (p.2 i) ∧ TR (p.2 i) ∧ (p.2 i).1 4 ≤ 999 ∧ One t' (p.2 i) := fun i hi => by
    obtain ⟨a1, a2, a3, a4⟩ := hO.2 i hi
    exact ⟨a1, a2, a3, fun k hk => (a4.1 k hk).trans (h1.1 k hk).symm, fun j hj => by
      have hj' : j < t.1 3 := by rw [← h1.1 3 (by omega)]; exact hj
      exact ⟨(a4.2 j hj').1.trans (h1.2 j hj').1.symm, (a4.2 j hj').2.trans (h1.2 j hj').2.symm⟩⟩
  have kt : TB t ∧ TR t ∧ t.1 4 ≤ 999 ∧ One t' t := ⟨hB, hR, h9, fun k hk => (h1.1 k hk).symm, fun j hj => by
    have hj' : j < t.1 3 := by rw [← h1.1 3 (by omega)]; exact hj
    exact ⟨(h1.2 j hj').1.symm, (h1.2 j hj').2.symm⟩⟩
  have hp := hO.1
  unfold kpS
  by_cases c : p.1 = 20
  · rw [if_pos c]
    refine ⟨Nat.le_refl _, fun i hi => ?_⟩
    have hi : i < 20 := hi
    show TB (if i = 19 then t else p.2 (i + 1)) ∧ TR (if i = 19 then t else p.2 (i + 1)) ∧ (if i = 19 then t else p.2 (i + 1)).1 4 ≤ 999 ∧ One t' (if i = 19 then t else p.2 (i + 1))
    by_cases c2 : i = 19
    · rw [if_pos c2]; exact kt
    · rw [if_neg c2]; exact key (i + 1) (by omega)
  · rw [if_neg c]
    refine ⟨show p.1 + 1 ≤ 20 by omega, fun i hi => ?_⟩
    have hi : i < p.1 + 1 := hi
    show TB (up1 p.2 p.1 t i) ∧ TR (up1 p.2 p.1 t i) ∧ (up1 p.2 p.1 t i).1 4 ≤ 999 ∧ One t' (up1 p.2 p.1 t i)
    unfold up1
    by_cases c2 : i = p.1
    · rw [if_pos c2]; exact kt
    · rw [if_neg c2]; exact key i (by omega)
theorem One.rf : One t t := ⟨fun _ _ => rfl, fun _ _ => ⟨rfl, rfl⟩⟩
theorem one_set {r j : Nat} {v : Int32} (h5 : ¬ r = 5) (h6 : ¬ r = 6) : One t (setT t r j v) := ⟨fun _ _ => rfl, fun i _ => ⟨up2_ne _ _ (by omega), up2_ne _ _ (by omega)⟩⟩
theorem one_tr {t' t'' : Tw} (h1 : One t t') (h2 : One t' t'') : One t t'' := ⟨fun k hk => (h2.1 k hk).trans (h1.1 k hk), fun i hi => by
  have := h2.2 i (by rw [h1.1 3 (by omega)]; exact hi)
  exact ⟨this.1.trans (h1.2 i hi).1, this.2.trans (h1.2 i hi).2⟩⟩
theorem one_night : One t (nightT t ρ frH) := ⟨fun k hk => by rw [night_1, if_neg (by omega)], fun i hi => ⟨by rw [night_o _ _ _ _ (by omega)]; rfl, by rw [night_o _ _ _ _ (by omega)]; rfl⟩⟩
theorem c_night1 {Q : Int32 → HP → Prop} (C : CZ h ρ t) (hP : CPs h 22 p) (hO : PsOK p t) (h9 : t.1 4 ≤ 999) (no : (t.1 0 = 0 ∨ t.1 4 = 999) → Q (-1) h) (yes : ¬ t.1 0 = 0 → t.1 4 < 999 → ∀ h', RA h h' (nightT t ρ frH) (kpS p t) → Q (nI (cntL (lieS t ρ frH (t.1 3)).1 (t.1 3))) h') : CallI g mX9_night (d + 5) [.ref 0] h Q := by
  obtain ⟨L, hT, R, F⟩ := C
  refine wX9_night_0 L (c_stand hT (fun c => ⟨L, fun z => absurd z (by decide), fun _ => ?_⟩) (fun z => ⟨L, fun _ => no (Or.inl z), fun z => absurd rfl z⟩))
  rw [show hI h 4 4 = nI (t.1 4) from hT.2.2.1 4 (by omega)]
  refine ⟨fun z => ?_, fun z => no (Or.inr ?_)⟩
  · have lt : t.1 4 < 999 := (nI_ltI (a := t.1 4) (b := 999) (by omega) (by omega)).mp z
    refine c_keepForUndo L hT hP hO (fun h1 f1 P1 => ?_)
    have L1 := L.fr f1
    have T1 := hT.fr f1 (fun x h1 h2 => by omega)
    have F1 : CFo h1 ρ := by
      obtain ⟨cn, c1, c2, c3⟩ := F
      refine ⟨cn, c1, by rw [(f1.2.2 0 (by omega)).1]; exact c2, ?_⟩
      rw [(f1.2.2 3 (by omega)).1]
      exact c3.imp id (fun ⟨r, P, h1, h2, h3, h4⟩ => ⟨r, P, h1, h2, h3.to (fun x k hx => by rw [(f1.2.2 x (by omega)).1]), h4⟩)
    have body : ∀ r2, CRho h1 r2 ρ → CallI g mX4_pass (d + 4) [.ref 40, .ref 4, ov r2, .null] h1 (fun i h2 => Lay h2 ∧ qI Q (some (.int i)) h2) := fun r2 hr => c_pass1 L1 T1 R (by omega) hr (by omega) (fun h2 f2 T2 => ⟨L1.fr f2, yes c lt h2 ⟨(f1.wd (fun x hx => by unfold AA; omega)).tr (f2.wd (fun x hx => by unfold AA; omega)), T2, P1.fr (t := t) (kp_ok hO hT.2.1 R h9 One.rf) (fun x k hx => by rw [(f2.2.2 x (by omega)).1])⟩⟩)
    exact ⟨L1, c_ruleInForce L1 F1 (fun hr => ⟨L1, body none hr⟩) (fun y hr => ⟨L1, body (some y) hr⟩)⟩
  · have : ¬ t.1 4 < 999 := fun y => z (nI_lt (a := t.1 4) (b := 999) y (by omega))
    omega
theorem c_turn {x : Int32} {Q : Int32 → HP → Prop} (C : CZ h ρ t) (hP : CPs h 22 p) (hO : PsOK p t) (h9 : t.1 4 ≤ 999) (no : (∀ j, j < t.1 2 → ¬ x = nI j) → Q (-1) h) (yes : ∀ j, j < t.1 2 → x = nI j → ∀ h', RA h h' (swapT t j) (kpS p t) → Q (t.2 2 j) h') : CallI g mX9_turn (d + 3) [.ref 0, .int x] h Q := by
  obtain ⟨L, hT, R, F⟩ := C
  have hB := hT.2.1
  unfold TB at hB
  refine wX9_turn_0 _ L (c_hasBed hT (fun j hj ej => ⟨L, fun z => absurd z (by decide), fun _ => c_keepForUndo L hT hP hO (fun h1 f1 P1 => ?_)⟩) (fun z => ⟨L, fun _ => no z, fun z => absurd rfl z⟩))
  have L1 := L.fr f1
  have T1 := hT.fr f1 (fun x h1 h2 => by omega)
  subst ej
  refine ⟨L1, c_swapSides T1 hj (fun h2 o2 T2 => ⟨L1.fr o2.fr, vn (by omega) (by omega), ?_⟩)⟩
  rw [nI_clamp (n := j) (by omega), show hI h2 5 j = (swapT t j).2 1 j from T2.bed 1 (by omega) (by omega) hj]
  have e : (swapT t j).2 1 j = t.2 2 j := by
    show up2 (up2 t.2 1 j (t.2 2 j)) 2 j (t.2 1 j) 1 j = _
    rw [up2_ne _ _ (by omega), up2_eq]
  rw [e]
  exact yes j hj rfl h2 ⟨(f1.wd (fun x hx => by unfold AA; omega)).tr (o2.fr.wd (fun x hx => by unfold AA; omega)), T2, P1.fr (t := t) (kp_ok hO hT.2.1 R h9 One.rf) (fun x k hx => by rw [(o2.fr.2.2 x (by omega)).1])⟩
theorem c_stuff {x y : Int32} {Q : Int32 → HP → Prop} (C : CZ h ρ t) (hP : CPs h 22 p) (hO : PsOK p t) (h9 : t.1 4 ≤ 999) (no : (∀ j m, j < t.1 2 → 1 ≤ m → m ≤ 9 → x = nI j → y = nI m → t.2 3 j = y) → Q (-1) h) (yes : ∀ j m, j < t.1 2 → 1 ≤ m → m ≤ 9 → x = nI j → y = nI m → ¬ t.2 3 j = y → ∀ h', RA h h' (setT t 3 j y) (kpS p t) → Q (t.2 3 j) h') : CallI g mX9_stuff (d + 3) [.ref 0, .int x, .int y] h Q := by
  obtain ⟨L, hT, R, F⟩ := C
  have hB := hT.2.1
  unfold TB at hB
  refine wX9_stuff_0 _ _ L (c_hasBed hT (fun j hj ej => ⟨L, fun z => absurd z (by decide), fun _ => ⟨fun z => no (fun j m _ m1 m2 _ em => absurd (em ▸ IN_j m1 m2 (by decide)) (IN_lt (b := 9) (by decide) z)), fun q1 => ⟨fun z => no (fun j m _ m1 m2 _ em => absurd (em ▸ IN_j m1 m2 (by decide)) (IN_gt (a := 1) (by decide) z)), fun q2 => ?_⟩⟩⟩) (fun z => ⟨L, fun _ => no (fun j m hj _ _ ej _ => absurd ej (z j hj)), fun z => absurd rfl z⟩))
  obtain ⟨m, m1, m2, em⟩ := rg_of (a := 1) (b := 9) rfl rfl (by decide) (by decide) q1 q2
  subst ej
  rw [nI_clamp (n := j) (by omega), show hI h 7 j = t.2 3 j from hT.bed 3 (by omega) (by omega) hj]
  refine ⟨vn (by omega) (by omega), fun z => no (fun j' m' hj' _ _ ej' _ => ?_), fun z => c_keepForUndo L hT hP hO (fun h1 f1 P1 => ⟨L.fr f1, ?_⟩)⟩
  · have : j = j' := (nI_eq (by omega) (by omega)).mp ej'
    subst this; exact z.symm
  · have T1 := hT.fr f1 (fun x h1 h2 => by omega)
    rw [show hI h1 7 j = t.2 3 j from T1.bed 3 (by omega) (by omega) hj]
    exact yes j m hj m1 m2 rfl em (fun w => z w.symm) _ ⟨(f1.wd (fun x hx => by unfold AA; omega)).tr (Fr.stI (by unfold AA; omega)), T1.setx 3 j y (by omega) (by omega), P1.fr (t := t) (kp_ok hO hT.2.1 R h9 One.rf) (fun x k hx => rdn (by omega))⟩
theorem c_burn {x : Int32} {Q : Int32 → HP → Prop} (C : CZ h ρ t) (hP : CPs h 22 p) (hO : PsOK p t) (h9 : t.1 4 ≤ 999) (no : (∀ j, j < t.1 2 → x = nI j → t.2 1 j = 50 ∧ t.2 2 j = 50) → Q (-1) h) (yes : ∀ j, j < t.1 2 → x = nI j → ¬ (t.2 1 j = 50 ∧ t.2 2 j = 50) → ∀ h', RA h h' (setT (setT t 1 j 50) 2 j 50) (kpS p t) → Q (t.2 1 j) h') : CallI g mX9_burn (d + 3) [.ref 0, .int x] h Q := by
  obtain ⟨L, hT, R, F⟩ := C
  have hB := hT.2.1
  unfold TB at hB
  refine wX9_burn_0 _ L (c_hasBed hT (fun j hj ej => ⟨L, fun z => absurd z (by decide), fun _ => ?_⟩) (fun z => ⟨L, fun _ => no (fun j hj ej => absurd ej (z j hj)), fun z => absurd rfl z⟩))
  subst ej
  rw [nI_clamp (n := j) (by omega), show hI h 5 j = t.2 1 j from hT.bed 1 (by omega) (by omega) hj, show hI h 6 j = t.2 2 j from hT.bed 2 (by omega) (by omega) hj]
  have go : ¬ (t.2 1 j = 50 ∧ t.2 2 j = 50) → CallV g mX3_keepForUndo (d + 2) (0, 0) [.ref 3] h (fun h7 => Lay h7 ∧ qI Q (some (.int (hI h7 5 j))) (setI (setI h7 5 j 50) 6 j 50)) := fun nn => c_keepForUndo L hT hP hO (fun h1 f1 P1 => ⟨L.fr f1, by
    have T1 := hT.fr f1 (fun x h1 h2 => by omega)
    rw [show hI h1 5 j = t.2 1 j from T1.bed 1 (by omega) (by omega) hj]
    exact yes j hj rfl nn _ ⟨(f1.wd (fun x hx => by unfold AA; omega)).tr ((Fr.stI (by unfold AA; omega)).tr (Fr.stI (by unfold AA; omega))), (T1.setx 1 j 50 (by omega) (by omega)).setx 2 j 50 (by omega) (by omega), P1.fr (t := t) (kp_ok hO hT.2.1 R h9 One.rf) (fun x k hx => by rw [rdn (by omega), rdn (by omega)])⟩⟩)
  exact ⟨vn (by omega) (by omega), fun z => ⟨fun z2 => no (fun j' hj' ej' => by
    have : j = j' := (nI_eq (by omega) (by omega)).mp ej'
    subst this; exact ⟨z, z2⟩), fun z2 => go (fun w => z2 w.2)⟩, fun z => go (fun w => z w.1)⟩
theorem c_lead {x y : Int32} {Q : Int32 → HP → Prop} (C : CZ h ρ t) (hP : CPs h 22 p) (hO : PsOK p t) (h9 : t.1 4 ≤ 999) (no : (∀ q j, q < t.1 3 → j < t.1 2 → x = nI q → y = nI j → t.2 7 q = y) → Q (-2) h) (yes : ∀ q j, q < t.1 3 → j < t.1 2 → x = nI q → y = nI j → ¬ t.2 7 q = y → ∀ h', RA h h' (setT t 7 q y) (kpS p t) → Q (t.2 7 q) h') : CallI g mX9_lead (d + 3) [.ref 0, .int x, .int y] h Q := by
  obtain ⟨L, hT, R, F⟩ := C
  have hB := hT.2.1
  unfold TB at hB
  refine wX9_lead_0 _ _ L (c_hasLodger hT (fun q hq eq => ⟨L, fun z => absurd z (by decide), fun _ => c_hasBed hT (fun j hj ej => ⟨L, fun z => absurd z (by decide), fun _ => ?_⟩) (fun z => ⟨L, fun _ => no (fun q j _ hj _ ej => absurd ej (z j hj)), fun z => absurd rfl z⟩)⟩) (fun z => ⟨L, fun _ => no (fun q j hq _ eq _ => absurd eq (z q hq)), fun z => absurd rfl z⟩))
  subst eq
  rw [nI_clamp (n := q) (by omega), show hI h 11 q = t.2 7 q from hT.lod 7 (by omega) (by omega) hq]
  refine ⟨vn (by omega) (by omega), fun z => no (fun q' j' hq' _ eq' _ => ?_), fun z => c_keepForUndo L hT hP hO (fun h1 f1 P1 => ⟨L.fr f1, ?_⟩)⟩
  · have : q = q' := (nI_eq (by omega) (by omega)).mp eq'
    subst this; exact z
  · have T1 := hT.fr f1 (fun x h1 h2 => by omega)
    rw [show hI h1 11 q = t.2 7 q from T1.lod 7 (by omega) (by omega) hq]
    exact yes q j hq hj rfl ej z _ ⟨(f1.wd (fun x hx => by unfold AA; omega)).tr (Fr.stI (by unfold AA; omega)), T1.setx 7 q y (by omega) (by omega), P1.fr (t := t) (kp_ok hO hT.2.1 R h9 One.rf) (fun x k hx => rdn (by omega))⟩
theorem c_undo {Q : Int32 → HP → Prop} (C : CZ h ρ t) (hP : CPs h 22 p) (hO : PsOK p t) (no : p.1 = 0 → Q (-2) h) (yes : ¬ p.1 = 0 → ∀ h', RA h h' (p.2 (p.1 - 1)) (p.1 - 1, p.2) → Q (nI (p.1 - 1)) h') : CallI g mX9_undo (d + 2) [.ref 0] h Q := by
  obtain ⟨L, hT, R, F⟩ := C
  have hB := hT.2.1
  unfold TB at hB
  obtain ⟨nx, hx, hn, e1, e2, hS⟩ := hP
  refine wX9_undo_0 L (vX5_takeBack_0 22 4 h ⟨Lk L K_22, ?_⟩)
  rw [e1]
  refine ⟨fun z => ?_, fun z => ⟨rfl, L, fun _ => no ?_, fun z => absurd rfl z⟩⟩
  · have pz : ¬ p.1 = 0 := fun y => by rw [y] at z; exact absurd z (by decide)
    refine ⟨Lk L K_22, Lk L K_22, Lk L K_22, by decide, Lk L K_22, ?_⟩
    obtain ⟨m, hm⟩ : ∃ m, p.1 = m + 1 := ⟨p.1 - 1, by omega⟩
    rw [rdn (by omega), e2, hm, nI_pred, show nI nx + 20 - 1 = nI (nx + 19) by rw [show nI nx + 20 = nI (nx + 19 + 1) from nI_add _ 20, nI_pred], show (20 : Int32) = nI 20 from rfl, pk_rem (by omega) (by omega) (by omega)]
    intro h1 eh
    have f1 : Fr (fun x => x = 22) h h1 := by rw [eh]; exact (Fr.stI (by omega)).tr (Fr.stI (by omega))
    have v1 : hI h1 22 1 = nI m := by rw [eh, rdn (by omega), rdI]
    have v2 : hI h1 22 2 = nI ((nx + 19) % 20) := by rw [eh, rdI]
    clear eh
    have L1 := L.fr f1
    have T1 := hT.fr f1 (fun x h1 h2 => by omega)
    refine ⟨Lk L1 K_22, 23, Lr L1 R_22_0, Lk L1 K_22, Lk L1 K_4, ?_⟩
    rw [v2, n34]
    refine c_unpack (Ltw_4 L1) (Lk L1 K_23) (Ln L1 N_23) (by omega) (Nat.mod_lt _ (by omega)) (fun h2 f2 u0 u1 u2 => ?_)
    have L2 := f2.lay L1
    obtain ⟨b1, b2, b3, b4⟩ := hO.2 m (by omega)
    have pk := hS m (by omega)
    rw [show (nx + 20 - p.1 + m) % 20 = (nx + 19) % 20 by omega] at pk
    have pk1 : PkC h1 23 ((nx + 19) % 20) (p.2 m) := pk.to b1 (fun k _ _ => by rw [(f1.2.2 23 (by omega)).1])
    have o2 : (p.2 m).1 2 = t.1 2 := b4.1 2 (by omega)
    have o3 : (p.2 m).1 3 = t.1 3 := b4.1 3 (by omega)
    have T2 : TownIs h2 4 (p.2 m) := by
      refine ⟨Ltw_4 L2, b1, fun k hk => ?_, fun r j hr => ?_⟩
      · by_cases c : k = 4
        · subst c; exact u0.trans pk1.1
        · rw [f2.I (by unfold AUn; omega), T1.2.2.1 k hk, b4.1 k (by omega)]
      · unfold rowOK at hr
        rcases (show (r = 1 ∧ j < t.1 2) ∨ (r = 2 ∧ j < t.1 2) ∨ (r = 3 ∧ j < t.1 2) ∨ (r = 4 ∧ j < t.1 3) ∨ (r = 5 ∧ j < t.1 3) ∨ (r = 6 ∧ j < t.1 3) ∨ (r = 7 ∧ j < t.1 3) ∨ (r = 8 ∧ j < t.1 3) by omega) with ⟨rfl, hj⟩ | ⟨rfl, hj⟩ | ⟨rfl, hj⟩ | ⟨rfl, hj⟩ | ⟨rfl, hj⟩ | ⟨rfl, hj⟩ | ⟨rfl, hj⟩ | ⟨rfl, hj⟩
        · exact (u1 j (by omega)).1.trans (pk1.2.1 j (by omega)).1
        · exact (u1 j (by omega)).2.1.trans (pk1.2.1 j (by omega)).2.1
        · exact (u1 j (by omega)).2.2.trans (pk1.2.1 j (by omega)).2.2
        · exact (u2 j (by omega)).1.trans (pk1.2.2 j (by omega)).1
        · rw [f2.I (by unfold AUn; omega), T1.lod 5 (by omega) (by omega) hj]; exact (b4.2 j hj).1.symm
        · rw [f2.I (by unfold AUn; omega), T1.lod 6 (by omega) (by omega) hj]; exact (b4.2 j hj).2.symm
        · exact (u2 j (by omega)).2.1.trans (pk1.2.2 j (by omega)).2.1
        · exact (u2 j (by omega)).2.2.trans (pk1.2.2 j (by omega)).2.2
    have em : p.1 - 1 = m := by omega
    have w1 : hI h2 22 1 = nI m := (f2.I (by unfold AUn; omega)).trans v1
    refine ⟨rfl, L2, fun z => absurd z (by decide), fun _ => ?_⟩
    rw [w1, ← em]
    refine yes pz h2 ⟨(f1.wd (fun x hx => by unfold AA; omega)).tr (f2.fr (fun x k hx => by unfold AUn at hx; unfold AA; omega)), by rw [em]; exact T2, ⟨(nx + 19) % 20, Nat.mod_lt _ (by omega), show p.1 - 1 ≤ 20 by omega, by rw [w1]; exact congrArg nI em.symm, (f2.I (by unfold AUn; omega)).trans v2, fun i hi => ?_⟩⟩
    have hi : i < p.1 - 1 := hi
    have := hS i (by omega)
    show PkC h2 (22 + 1) (((nx + 19) % 20 + 20 - (p.1 - 1) + i) % 20) (p.2 i)
    rw [show ((nx + 19) % 20 + 20 - (p.1 - 1) + i) % 20 = (nx + 20 - p.1 + i) % 20 by omega]
    exact this.to (hO.2 i (by omega)).1 (fun k _ _ => by rw [f2.I (by unfold AUn; omega), (f1.2.2 23 (by omega)).1])
  · rcases Nat.eq_zero_or_pos p.1 with y | y
    · exact y
    · exact absurd (nI_le (a := 1) (b := p.1) (by omega) (by omega)) z
end CAC
