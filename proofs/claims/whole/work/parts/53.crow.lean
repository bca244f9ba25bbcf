/-! the best row of beds, of the class -/
def CB (h : HP) (n : Nat) (b : Bs) : Prop := match b with
  | none => hI h 62 0 = 1000000
  | some (y, s) => hI h 62 0 = y ∧ ∀ i, i < n → hI h 62 (i + 1) = s i
theorem CB.to {h h' : HP} {n : Nat} {b : Bs} (H : CB h n b) (e : ∀ i, hI h' 62 i = hI h 62 i) : CB h' n b := by
  cases b with
  | none => exact (e 0).trans H
  | some p => exact ⟨(e 0).trans H.1, fun i hi => (e _).trans (H.2 i hi)⟩
theorem CB.st {h h' : HP} {n : Nat} {b : Bs} {x : Int32} {tr : Nat → Int32} (H : CB h n b) (hb : bOk b) (hx : ∃ m, m ≤ 594 ∧ x = nI m) (hy : x < hI h 62 0 → hI h' 62 0 = x ∧ ∀ i, i < n → hI h' 62 (i + 1) = tr i) (hn : ¬ x < hI h 62 0 → ∀ i, hI h' 62 i = hI h 62 i) : CB h' n (stB b x tr) := by
  obtain ⟨m, hm, rfl⟩ := hx
  cases b with
  | none =>
    have H : hI h 62 0 = 1000000 := H
    rw [H] at hy
    exact hy (nI_lt (a := m) (b := 1000000) (by omega) (by omega))
  | some p =>
    obtain ⟨y, s⟩ := p
    have H' : hI h 62 0 = y ∧ ∀ i, i < n → hI h 62 (i + 1) = s i := H
    rw [H'.1] at hy hn
    unfold stB
    simp only
    by_cases c : nI m < y
    · rw [if_pos c]; exact hy c
    · rw [if_neg c]; exact H.to (hn c)
def SR (dp x : Nat) : Prop := (40 ≤ x ∧ x < 46) ∨ (60 ≤ x ∧ x ≤ 62) ∨ (68 + 9 * (dp + 1) ≤ x ∧ x < 113)
section CRW
variable {g : GT} {t : Tw} {ρ : Option Rl} {r2 : Option Nat} {q n : Nat}
theorem c_keepIfLess {d : Nat} {h : HP} {b : Bs} {x : Int32} {tr : Nat → Int32} {Q : HP → Prop} (L : Lay h) (hn : n ≤ 6) (H : CB h n b) (hb : bOk b) (hx : ∃ m, m ≤ 594 ∧ x = nI m) (htr : ∀ i, i < n → hI h 61 i = tr i) (hQ : ∀ h', Fr (fun x => x = 62) h h' → CB h' n (stB b x tr) → Q h') : CallV g mX0_keepIfLess d (0, 0) [.ref 58, .int x, .int (nI n)] h Q := by
  refine wX0_keepIfLess_0 _ _ L ⟨fun c => ?_, fun c => hQ h (Fr.rf h) (H.st hb hx (fun z => absurd z c) (fun _ _ => rfl))⟩
  refine loopN (σ := Unit) (P := fun i _ h' => Sat g mX0_keepIfLess d (0, 0) (qV Q) 20 [.ref 58, .double 0, .int (nI n), .int (nI i)] [] h') (I := fun i _ h' => Fr (fun x => x = 62) h h' ∧ hI h' 62 0 = x ∧ ∀ j, j < i → hI h' 62 (j + 1) = tr j) n (fun _ h' e => ?_) (fun i _ h' hi e ih => ?_) 0 () _ (by omega) ⟨Fr.stI rfl, rdI, fun j hj => by omega⟩
  · exact wX0_keepIfLess_20 _ _ (L.fr e.1) ⟨fun _ => hQ h' e.1 (H.st hb hx (fun _ => e.2) (fun z => absurd c z)), fun z => absurd (nI_le (Nat.le_refl _) (by omega)) z⟩
  · obtain ⟨f, e0, e1⟩ := e
    refine wX0_keepIfLess_20 _ _ (L.fr f) ⟨fun z => absurd z (nI_ge hi (by omega)), fun _ => ⟨fun z => absurd z (nI_ge (a := i) (b := 6) (by omega) (by omega)), fun _ => ?_⟩⟩
    rw [nI_1, nI_clamp (n := i + 1) (by omega), nI_clamp (n := i) (by omega), (f.2.2 61 (by omega)).1, htr i hi]
    refine ⟨vn (by omega) (by omega), vn (by omega) (by omega), ih () _ ⟨f.tr (Fr.stI rfl), (rdn (by omega)).trans e0, fun j hj => ?_⟩⟩
    by_cases z : j = i
    · subst z; exact rdI
    · rw [rdn (by omega)]; exact e1 j (by omega)
theorem c_searchRow (hn : n ≤ 4) : ∀ m {d dp : Nat} {t : Tw} {tr : Nat → Int32} {b : Bs} {h : HP} {Q : HP → Prop}, dp + m = n → m + 5 ≤ d → Lay h → TownIs h (68 + 9 * dp) t → TR t → q < t.1 3 → t.1 4 + m ≤ 5000 → CRho h r2 ρ → (∀ i, i < 6 → ¬ i = q → hI h 60 i = -2) → (∀ i, i < dp → hI h 61 i = tr i) → bOk b → CB h n b → (∀ h', Fr (SR dp) h h' → (∀ i, i < 6 → ¬ i = q → hI h' 60 i = -2) → (∀ i, i < dp → hI h' 61 i = tr i) → CB h' n (rowD ρ q m t dp tr b) → Q h') → CallV g mX0_searchRow d (0, 0) [.ref 58, ov r2, .int (nI q), .int (nI n), .int (nI dp)] h Q
  | 0, d, dp, t, tr, b, h, Q, hdp, hd, L, hT, R, hq, h4, hC, he, htr, hb, H, hQ => by
    obtain ⟨d, rfl⟩ : ∃ e, d = e + 5 := ⟨d - 5, by omega⟩
    have hB := hT.2.1
    unfold TB at hB
    have hdn : dp = n := by omega
    subst hdn
    have key := wX0_searchRow_0 (g := g) (d := d + 4) (b := (0, 0)) (Q := qV Q) r2 (nI q) (nI dp) (nI dp) L (by
      rw [nI_clamp (n := dp) (by omega)]
      refine ⟨fun c => absurd c (nI_pos (by omega)), fun _ => ⟨fun c => absurd c (nI_nlt (a := 4) (b := dp) (by omega) (by omega)), fun _ => ⟨fun c => absurd c (nI_pos (by omega)), fun _ => ⟨fun _ => ⟨fun _ => ⟨vn (by omega) (by omega), _, (Llv L (by omega)).1, hT.1.1, c_far hT hq ⟨L, ?_⟩⟩, fun c => absurd (nI_le (Nat.le_refl _) (by omega)) c⟩, fun c => absurd (nI_lt (a := q) (b := 6) (by omega) (by omega)) c⟩⟩⟩⟩
      refine c_keepIfLess L (by omega) H hb (by obtain ⟨k, h1, h2⟩ := far_rg R hq; exact ⟨k, by omega, h2⟩) htr (fun h' f H' => ⟨L.fr f, hQ h' (f.wd (fun x hx => by unfold SR; omega)) (fun i hi hne => ?_) (fun i hi => ?_) H'⟩)
      · rw [(f.2.2 60 (by omega)).1]; exact he i hi hne
      · rw [(f.2.2 61 (by omega)).1]; exact htr i hi)
    cases r2 <;> exact key
  | m + 1, d, dp, t, tr, b, h, Q, hdp, hd, L, hT, R, hq, h4, hC, he, htr, hb, H, hQ => by
    obtain ⟨d, rfl⟩ : ∃ e, d = e + 5 := ⟨d - 5, by omega⟩
    have hB := hT.2.1
    unfold TB at hB
    have key := wX0_searchRow_0 (g := g) (d := d + 4) (b := (0, 0)) (Q := qV Q) r2 (nI q) (nI n) (nI dp) L (by
      rw [nI_1, nI_clamp (n := dp) (by omega), nI_clamp (n := dp + 1) (by omega)]
      refine ⟨fun c => absurd c (nI_pos (by omega)), fun _ => ⟨fun c => absurd c (nI_nlt (a := 4) (b := dp) (by omega) (by omega)), fun _ => ⟨fun c => absurd c (nI_pos (by omega)), fun _ => ⟨fun _ => ⟨fun c => absurd c (nI_ge (by omega) (by omega)), fun _ => ⟨fun c => absurd ((nI_eq (a := dp) (b := 4) (by omega) (by omega)).mp c) (by omega), fun _ => ⟨vn (by omega) (by omega), _, (Llv L (by omega)).1, vn (by omega) (by omega), _, (Llv L (by omega)).1, ?_⟩⟩⟩, fun c => absurd (nI_lt (a := q) (b := 6) (by omega) (by omega)) c⟩⟩⟩⟩
      refine loopN (σ := Unit) (P := fun c _ h' => Sat g mX0_searchRow (d + 5) (0, 0) (qV Q) 75 [.ref 58, ov r2, .int (nI q), .int (nI n), .int (nI dp), .ref (68 + 9 * dp), .ref (68 + 9 * (dp + 1)), .int (pl c)] [] h') (I := fun c _ h' => Fr (SR dp) h h' ∧ (∀ i, i < 6 → ¬ i = q → hI h' 60 i = -2) ∧ (∀ i, i < dp → hI h' 61 i = tr i) ∧ bOk (foldC (fun c b => if liB ρ q t (pl c) = true then rowD ρ q m (nightT t ρ (hd1 q (pl c))) (dp + 1) (up1 tr dp (pl c)) b else b) c b) ∧ CB h' n (foldC (fun c b => if liB ρ q t (pl c) = true then rowD ρ q m (nightT t ρ (hd1 q (pl c))) (dp + 1) (up1 tr dp (pl c)) b else b) c b)) (t.1 2 + 1) (fun _ h' e => ?_) (fun c _ h' hc e ih => ?_) 0 () h (by omega) ⟨Fr.rf h, he, htr, hb, H⟩
      · obtain ⟨f, he', htr', hb', H'⟩ := e
        have T' := hT.fr f (fun x h1 h2 => by unfold SR; omega)
        refine wX0_searchRow_75 _ _ _ _ _ _ _ (L.fr f) ⟨T'.1.1, ?_⟩
        rw [pl_s, T'.2.2.1 2 (by omega)]
        exact ⟨fun _ => hQ h' f he' htr' H', fun z => absurd (nI_le (Nat.le_refl _) (by omega)) z⟩
      · obtain ⟨f, he', htr', hb', H'⟩ := e
        have L' := L.fr f
        have T' := hT.fr f (fun x h1 h2 => by unfold SR; omega)
        have ih := ih ()
        have efc : foldC (fun c b => if liB ρ q t (pl c) = true then rowD ρ q m (nightT t ρ (hd1 q (pl c))) (dp + 1) (up1 tr dp (pl c)) b else b) (c + 1) b = (if liB ρ q t (pl c) = true then rowD ρ q m (nightT t ρ (hd1 q (pl c))) (dp + 1) (up1 tr dp (pl c)) (foldC (fun c b => if liB ρ q t (pl c) = true then rowD ρ q m (nightT t ρ (hd1 q (pl c))) (dp + 1) (up1 tr dp (pl c)) b else b) c b) else (foldC (fun c b => if liB ρ q t (pl c) = true then rowD ρ q m (nightT t ρ (hd1 q (pl c))) (dp + 1) (up1 tr dp (pl c)) b else b) c b)) := rfl
        rw [efc] at ih
        clear efc
        generalize foldC (fun c b => if liB ρ q t (pl c) = true then rowD ρ q m (nightT t ρ (hd1 q (pl c))) (dp + 1) (up1 tr dp (pl c)) b else b) c b = b1 at *
        refine wX0_searchRow_75 _ _ _ _ _ _ _ L' ⟨T'.1.1, ?_⟩
        rw [T'.2.2.1 2 (by omega), nI_clamp (n := q) (by omega), nI_clamp (n := dp) (by omega), nI_1, pl_1]
        refine ⟨fun z => absurd z (pl_nle (by omega) (by omega)), fun _ => ⟨(Llv L' (by omega)).2.1, c_copyFrom (Llv L' (by omega)).2 T' (by omega) (fun h2 o2 T2 => ⟨L'.fr o2.fr, vn (by omega) (by omega), ?_⟩)⟩⟩
        have L2 := L'.fr o2.fr
        have f3 : Fr (fun x => x = 60) h2 (setI h2 60 q (pl c)) := Fr.stI rfl
        have e3 : hI (setI h2 60 q (pl c)) 60 q = pl c := rdI
        have e3' : ∀ i, i < 6 → ¬ i = q → hI (setI h2 60 q (pl c)) 60 i = -2 := fun i hi hne => by
          rw [rdn (by omega), (o2.fr.2.2 60 (by omega)).1]; exact he' i hi hne
        generalize setI h2 60 q (pl c) = h3 at *
        have L3 := L2.fr f3
        have T3 := T2.fr f3 (fun x h1 h2 => by omega)
        have f03 : Fr (SR dp) h h3 := (f.tr (o2.fr.wd (fun x hx => by unfold SR; omega))).tr (f3.wd (fun x hx => by unfold SR; omega))
        have H3 : HdC h3 (hd1 q (pl c)) := fun i hi => by
          unfold hd1
          by_cases z : i = q
          · subst z; rw [e3, if_pos rfl]; exact Or.inr ⟨pl_ne2 (by omega), rfl⟩
          · rw [if_neg z]; exact Or.inl ⟨e3' i hi z, rfl⟩
        have hC3 : CRho h3 r2 ρ := hC.to (fun x k hx => by rw [(f03.2.2 x (by unfold SR; omega)).1])
        refine c_passH L3 T3 R (by omega) hC3 H3 (by omega) (fun h5 f5 T5 => ⟨L3.fr f5, T5.1.1, _, T5.1.2.1.2.2.2.2.2.2.1, T5.1.2.2.1.2.2.2.2.2.2.1, ?_⟩)
        have L5 := L3.fr f5
        have f05 : Fr (SR dp) h h5 := f03.tr (f5.wd (fun x hx => by unfold SR; omega))
        have hq5 : q < (nightT t ρ (hd1 q (pl c))).1 3 := by rw [night_1, if_neg (by decide)]; exact hq
        have n7 : hN h5 (68 + 9 * (dp + 1) + 7) = 6 := T5.1.2.2.2.2.2.2.2.2.2.1
        rw [n7, T5.lod 7 (by omega) (by omega) hq5]
        have he5 : ∀ i, i < 6 → ¬ i = q → hI h5 60 i = -2 := fun i hi hne => by
          rw [(f5.2.2 60 (by omega)).1]; exact e3' i hi hne
        have htr5 : ∀ i, i < dp → hI h5 61 i = tr i := fun i hi => by
          rw [(f5.2.2 61 (by omega)).1, (f3.2.2 61 (by omega)).1, (o2.fr.2.2 61 (by omega)).1]; exact htr' i hi
        have H5 : CB h5 n b1 := H'.to (fun i => by rw [(f5.2.2 62 (by omega)).1, (f3.2.2 62 (by omega)).1, (o2.fr.2.2 62 (by omega)).1])
        refine ⟨vn (by omega) (by omega), fun z => ⟨vn (by omega) (by omega), ?_⟩, fun z => ?_⟩
        · have cl : liB ρ q t (pl c) = true := by unfold liB; exact decide_eq_true z
          rw [if_pos cl] at ih
          have f6 : Fr (fun x => x = 61) h5 (setI h5 61 dp (pl c)) := Fr.stI rfl
          have t6 : ∀ i, i < dp + 1 → hI (setI h5 61 dp (pl c)) 61 i = up1 tr dp (pl c) i := fun i hi => by
            unfold up1
            by_cases y : i = dp
            · subst y; rw [if_pos rfl]; exact rdI
            · rw [if_neg y, rdn (by omega)]; exact htr5 i (by omega)
          generalize setI h5 61 dp (pl c) = h6 at *
          have L6 := L5.fr f6
          have f06 : Fr (SR dp) h h6 := f05.tr (f6.wd (fun x hx => by unfold SR; omega))
          have hb6 := rowD_ok (ρ := ρ) (q := q) m (dp := dp + 1) (tr := up1 tr dp (pl c)) (hT.2.1.night (ρ := ρ) (hd := hd1 q (pl c)) (by omega)) (R.night hT.2.1) hq5 (by rw [night_1, if_pos rfl]; omega) hb'
          refine c_searchRow hn m (by omega) (by omega) L6 (T5.fr f6 (fun x h1 h2 => by omega)) (R.night hT.2.1) hq5 (by rw [night_1, if_pos rfl]; omega) (hC.to (fun x k hx => by rw [(f06.2.2 x (by unfold SR; omega)).1])) (fun i hi hne => by rw [(f6.2.2 60 (by omega)).1]; exact he5 i hi hne) t6 hb' (H5.to (fun i => by rw [(f6.2.2 62 (by omega)).1])) (fun h7 f7 he7 htr7 H7 => ⟨L6.fr f7, ih h7 ⟨f06.tr (f7.wd (fun x hx => by unfold SR at hx ⊢; omega)), he7, fun i hi => ?_, hb6, H7⟩⟩)
          rw [htr7 i (by omega)]
          unfold up1
          rw [if_neg (by omega)]
        · have cl : ¬ liB ρ q t (pl c) = true := fun y => z (of_decide_eq_true y)
          rw [if_neg cl] at ih
          exact ih h5 ⟨f05, he5, htr5, hb', H5⟩)
    cases r2 <;> exact key
theorem c_findRow {d : Nat} {h : HP} {Q : HP → Prop} (L : Lay h) (hT : TownIs h 4 t) (R : TR t) (hC : CRho h r2 ρ) (hb : t.1 4 ≤ 2000) (hq : q < t.1 3) (hn : n ≤ 4) (hQ : ∀ h', RC h h' → CB h' n (roB ρ t q n) → Q h') : CallV g mX0_findRow (d + 10) (0, 0) [.ref 58, .ref 4, ov r2, .int (nI q), .int (nI n)] h Q := by
  have key := wX0_findRow_0 (g := g) (d := d + 9) (b := (0, 0)) (Q := qV Q) r2 (nI q) (nI n) L (c_holdNobody L (fun h1 f1 e1 => ⟨L.fr f1, by
    have L1 := L.fr f1
    refine c_copyFrom (Ltw_68 L1) (hT.fr f1 (fun x h1 h2 => by omega)) (by omega) (fun h2 o2 T2 => ⟨L1.fr o2.fr, ?_⟩)
    have L2 := L1.fr o2.fr
    have f3 : Fr (fun x => x = 62) h2 (setI h2 62 0 1000000) := Fr.stI rfl
    have e3 : hI (setI h2 62 0 1000000) 62 0 = 1000000 := rdI
    generalize setI h2 62 0 1000000 = h3 at *
    have f03 : RC h h3 := ((f1.wd (fun x hx => by omega)).tr (o2.fr.wd (fun x hx => by omega))).tr (f3.wd (fun x hx => by omega))
    refine c_searchRow hn n (dp := 0) (tr := fun _ => 0) (b := none) (by omega) (by omega) (L2.fr f3) (T2.fr f3 (fun x h1 h2 => by omega)) R hq (by omega) (hC.to (fun x k hx => by rw [(f03.2.2 x (by omega)).1])) (fun i hi _ => ?_) (fun i hi => by omega) (fun y s e => by cases e) e3 (fun h4 f4 _ _ H4 => ⟨(L2.fr f3).fr f4, hQ h4 (f03.tr (f4.wd (fun x hx => by unfold SR at hx; omega))) H4⟩)
    rw [(f3.2.2 60 (by omega)).1, (o2.fr.2.2 60 (by omega)).1]
    exact e1 i hi⟩))
  cases r2 <;> exact key
theorem c_row {d : Nat} {h : HP} {q n w : Int32} {Q : Int32 → HP → Prop} (C : CZ h ρ t) (hb : t.1 4 ≤ 2000) (hQ : ∀ h', RC h h' → Q (aRow ρ t q n w) h') : CallI g mX9_row (d + 11) [.ref 0, .int q, .int n, .int w] h Q := by
  obtain ⟨L, hT, R, F⟩ := C
  have hB := hT.2.1
  unfold TB at hB
  have no : ¬ (IX q (t.1 3) ∧ IN n 1 4 ∧ IN w 0 4) → Q (-3) h := fun c => by
    have := hQ h RC.rf
    unfold aRow at this
    rwa [if_neg c] at this
  refine wX9_row_0 _ _ _ L ⟨fun z => no (fun y => IN_lt (b := 4) (by decide) z y.2.1), fun q1 => ⟨fun z => no (fun y => IN_gt (a := 1) (by decide) z y.2.1), fun q2 => ⟨fun z => no (fun y => IN_lt (b := 4) (by decide) z y.2.2), fun q3 => ⟨fun z => no (fun y => IN_gt (a := 0) (by decide) z y.2.2), fun q4 => c_hasLodger hT (fun j hj ej => ⟨L, fun z => absurd z (by decide), fun _ => ?_⟩) (fun z => ⟨L, fun _ => no (fun y => IX_no z y.1), fun z => absurd rfl z⟩)⟩⟩⟩⟩
  obtain ⟨k, k1, k2, rfl⟩ := rg_of (a := 1) (b := 4) rfl rfl (by decide) (by decide) q1 q2
  obtain ⟨v, v1, v2, rfl⟩ := rg_of (a := 0) (b := 4) rfl rfl (by decide) (by decide) q3 q4
  subst ej
  have cc : IX (nI j) (t.1 3) ∧ IN (nI k) 1 4 ∧ IN (nI v) 0 4 := ⟨IX_j hj (by omega), IN_j k1 k2 (by decide), IN_j v1 v2 (by decide)⟩
  refine ⟨fun z => ?_, fun z => ?_⟩
  · have body : ∀ r2, CRho h r2 ρ → CallV g mX0_findRow (d + 10) (0, 0) [.ref 58, .ref 4, ov r2, .int (nI j), .int (nI k)] h (fun h1 => Lay h1 ∧ CallI g mX0_told (d + 10) [.ref 58, .int (nI v)] h1 (fun i h2 => Lay h2 ∧ qI Q (some (.int i)) h2)) := fun r2 hr => c_findRow L hT R hr hb hj k2 (fun h1 f1 e => ⟨L.fr f1, told7 (L.fr f1) (by omega) ⟨L.fr f1, by
      have yes := hQ h1 f1
      unfold aRow at yes
      rw [if_pos cc, if_pos z, nI_clamp (n := j) (by omega), nI_clamp (n := k) (by omega), nI_clamp (n := v) (by omega)] at yes
      have ns := rowD_some (ρ := ρ) (q := j) k (t := t) (dp := 0) (tr := fun _ => 0) (b := none) hj
      have hvk : v ≤ k := (nI_leI (by omega) (by omega)).mp z
      unfold roB at yes e
      generalize rowD ρ j k t 0 (fun _ => 0) none = B at *
      cases B with
      | none => exact absurd rfl ns
      | some p =>
        obtain ⟨y, s⟩ := p
        have e : hI h1 62 0 = y ∧ ∀ i, i < k → hI h1 62 (i + 1) = s i := e
        have yes : Q (if v = 0 then y else s (v - 1)) h1 := yes
        by_cases cv : v = 0
        · subst cv; rw [e.1]; exact yes
        · rw [if_neg cv] at yes
          obtain ⟨u, rfl⟩ : ∃ u, v = u + 1 := ⟨v - 1, by omega⟩
          rw [e.2 u (by omega)]; exact yes⟩⟩)
    exact c_ruleInForce L F (fun hr => ⟨L, body none hr⟩) (fun y hr => ⟨L, body (some y) hr⟩)
  · have := hQ h RC.rf
    unfold aRow at this
    rw [if_pos cc, if_neg z] at this
    exact this
end CRW
