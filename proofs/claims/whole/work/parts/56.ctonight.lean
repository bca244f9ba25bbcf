/-! the best way to lie tonight, of the class -/
theorem n6' (i b : Nat) : nI i * 6 + nI b = nI (6 * i + b) := by rw [show (6 : Int32) = nI 6 from rfl, pk_mul, nI_add, Nat.mul_comm]
theorem n6z (i : Nat) : nI i * 6 = nI (6 * i) := by rw [show (6 : Int32) = nI 6 from rfl, pk_mul, Nat.mul_comm]
theorem pl_m (c : Nat) : pl (c + 1) + (-1) = pl c := by rw [pl_s]; unfold pl; rw [Int32.sub_eq_add_neg]
def TFt (h : HP) (t : Tw) : Prop := ∀ i c, i < t.1 3 → c ≤ t.1 2 → hI h 63 (6 * i + c) = nI (fn t i c)
def TLt (h : HP) (t : Tw) : Prop := ∀ i, i ≤ t.1 3 → hI h 64 i = nI (lsT t (t.1 3 - i) i)
section CTO
variable {g : GT} {t : Tw}
theorem c_weighY {d i : Nat} {h : HP} {Q : Int32 → HP → Prop} (L : Lay h) (hT : TownIs h 4 t) (R : TR t) (hi : i < t.1 3) (hQ : ∀ h', Fr (fun x => x = 63) h h' → (∀ c, c ≤ t.1 2 → hI h' 63 (6 * i + c) = nI (fn t i c)) → (∀ k, k < 6 * i ∨ 6 * i + 6 ≤ k → hI h' 63 k = hI h 63 k) → Q (nI (mnN t i (t.1 2 + 1))) h') : CallI g mX0_weighPlaces (d + 2) [.ref 58, .ref 4, .int (nI i)] h Q := by
  have hB := hT.2.1
  unfold TB at hB
  refine wX0_weighPlaces_0 _ L (c_hasLodger hT (fun _ _ _ => ⟨L, fun q => absurd q (by decide), fun _ => ?_⟩) (fun z => absurd rfl (z i hi)))
  have hmn : ∀ c, mnN t i c ≤ 1000000 := by
    intro c
    induction c with
    | zero => exact Nat.le_refl _
    | succ c ih =>
      rw [mnN]
      by_cases y : fn t i c < mnN t i c
      · rw [if_pos y]; omega
      · rw [if_neg y]; exact ih
  refine loopN (σ := Unit) (P := fun c _ h' => Sat g mX0_weighPlaces (d + 2) (0, 0) (qI Q) 16 [.ref 58, .ref 4, .int (nI i), .int (nI (mnN t i c)), .int (nI c), .double 0] [] h') (I := fun c _ h' => Fr (fun x => x = 63) h h' ∧ (∀ e, e < c → hI h' 63 (6 * i + e) = nI (fn t i e)) ∧ ∀ k, k < 6 * i ∨ 6 * i + 6 ≤ k → hI h' 63 k = hI h 63 k) (t.1 2 + 1) (fun _ h' e => ?_) (fun c _ h' hc e ih => ?_) 0 () h (by omega) ⟨Fr.rf h, fun e he => by omega, fun _ _ => rfl⟩
  · obtain ⟨f, e1, e2⟩ := e
    have T' := hT.fr f (fun x h1 h2 => by omega)
    refine wX0_weighPlaces_16 _ _ _ (L.fr f) ?_
    rw [show hI h' 4 2 = nI (t.1 2) from T'.2.2.1 2 (by omega)]
    exact ⟨fun _ => hQ h' f (fun c hc => e1 c (by omega)) e2, fun z => absurd (nI_lt (by omega) (by omega)) z⟩
  · obtain ⟨f, e1, e2⟩ := e
    have L' := L.fr f
    have T' := hT.fr f (fun x h1 h2 => by omega)
    obtain ⟨h4, ⟨n9, h91, h92, e9⟩, h6, -⟩ := R.2.2 i hi
    refine wX0_weighPlaces_16 _ _ _ L' ?_
    rw [show hI h' 4 2 = nI (t.1 2) from T'.2.2.1 2 (by omega), nI_clamp (n := i) (by omega), n6', nI_clamp (n := 6 * i + c) (by omega), nI_1]
    refine ⟨fun z => absurd z (nI_nlt (by omega) (by omega)), fun _ => ⟨fun z => absurd z (nI_ge (a := c) (b := 6) (by omega) (by omega)), fun _ => ?_⟩⟩
    have tail : CallI g mJ9_abs_0f7a4 (d + 1) [.int (shC t i c - hI h' 10 i)] h' (fun i5 h4 => Lay h4 ∧ vp_in (nI (6 * i + c)) 36 ∧ CallI g mJ9_min_7cf53 (d + 1) [.int (nI (mnN t i c)), .int i5] (setI h4 63 (6 * i + c) i5) (fun i8 h7 => Lay h7 ∧ Sat g mX0_weighPlaces (d + 2) (0, 0) (qI Q) 16 [.ref 58, .ref 4, .int (nI i), .int i8, .int (nI (c + 1)), .double 0] [] h7)) := by
      rw [show hI h' 10 i = t.2 6 i from T'.lod 6 (by omega) (by omega) hi]
      refine c_abs ?_
      rw [show (if 0 ≤ shC t i c - t.2 6 i then shC t i c - t.2 6 i else -(shC t i c - t.2 6 i)) = fiT t i c from rfl]
      obtain ⟨g1, g2⟩ := fn_rg R (i := i) (c := c) hi (by omega)
      rw [g2]
      refine ⟨L', vn (by omega) (by omega), c_min ?_⟩
      have f2 : Fr (fun x => x = 63) h (setI h' 63 (6 * i + c) (nI (fn t i c))) := f.tr (Fr.stI rfl)
      have := ih () _ ⟨f2, fun e he => ?_, fun k hk => ?_⟩
      · refine ⟨L.fr f2, ?_⟩
        rw [mnN] at this
        have hm := hmn c
        by_cases y : fn t i c < mnN t i c
        · rw [if_pos y] at this
          rw [if_pos (nI_lt y (by omega))]
          exact this
        · rw [if_neg y] at this
          rw [if_neg (nI_nlt (by omega) (by omega))]
          exact this
      · by_cases z : e = c
        · subst z; exact rdI
        · rw [rdn (by omega)]; exact e1 e (by omega)
      · rw [rdn (by omega)]; exact e2 k hk
    refine c_shapeBehind T' hi (by rw [e9]; exact nI_nle (by omega) (by omega)) (by rw [e9]; exact nI_ne0 (by omega) (by omega)) (fun j hj ej => ⟨L', vn (by omega) (by omega), ?_⟩) (fun z => ⟨L', vn (by omega) (by omega), ?_⟩)
    · rcases pl_cases c with ⟨y, -⟩ | ⟨u, rfl, y⟩
      · have ej : pl c = nI j := ej
        rw [y] at ej
        exact absurd (nI_pos (n := j) (by omega)) (by rw [← ej]; decide)
      · have ej : pl (u + 1) = nI j := ej
        rw [y] at ej
        have : u = j := (nI_eq (by omega) (by omega)).mp ej
        subst this
        have : shC t i (u + 1) = shB t i u := by unfold shC; rw [if_neg (by omega), Nat.add_sub_cancel]
        rw [this] at tail
        exact tail
    · rcases pl_cases c with ⟨-, y⟩ | ⟨u, rfl, y⟩
      · have : shC t i c = t.2 4 i := by unfold shC; rw [if_pos y]
        rw [this] at tail
        exact tail
      · exact absurd y (z u (by omega))
theorem c_searchTonight (R : TR t) : ∀ m {d i far : Nat} {oc : Nat → Nat} {tr : Nat → Int32} {b : Bs} {h : HP} {Q : HP → Prop}, i + m = t.1 3 → m + 1 ≤ d → Lay h → TownIs h 4 t → TFt h t → TLt h t → far ≤ 99 * i → (∀ j, oc j ≤ i) → (∀ j, j < 5 → hI h 65 j = nI (oc j)) → (∀ j, j < i → hI h 61 j = tr j) → bOk b → CB h (t.1 3) b → (∀ h', Fr (fun x => x = 61 ∨ x = 62 ∨ x = 65) h h' → (∀ j, j < 5 → hI h' 65 j = nI (oc j)) → (∀ j, j < i → hI h' 61 j = tr j) → CB h' (t.1 3) (toD t m i oc far tr b) → Q h') → CallV g mX0_searchTonight d (0, 0) [.ref 58, .ref 4, .int (nI i), .int (nI far)] h Q
  | m, d, i, far, oc, tr, b, h, Q, him, hd, L, hT, hF, hL, hfar, hoc, ho, htr, hb, H, hQ => by
    obtain ⟨d, rfl⟩ : ∃ e, d = e + 1 := ⟨d - 1, by omega⟩
    have hB := hT.2.1
    unfold TB at hB
    have hls := lsT_le R m i him
    have el : hI h 64 i = nI (lsT t m i) := by rw [hL i (by omega), show t.1 3 - i = m by omega]
    refine wX0_searchTonight_0 _ _ L ?_
    rw [nI_clamp (n := i) (by omega), el, nI_add, show hI h 4 3 = nI (t.1 3) from hT.2.2.1 3 (by omega), nI_1]
    refine ⟨fun z => absurd z (nI_pos (by omega)), fun _ => ⟨fun z => absurd z (nI_nlt (a := 6) (b := i) (by omega) (by omega)), fun _ => ⟨vn (by omega) (by omega), fun _ => ?_, fun z => ?_⟩⟩⟩
    · cases m with
      | zero =>
        have hi3 : i = t.1 3 := by omega
        subst hi3
        have kp : CallV g mX0_keepIfLess d (0, 0) [.ref 58, .int (nI far), .int (nI (t.1 3))] h (fun h3 => Lay h3 ∧ qV Q none h3) := c_keepIfLess L (by omega) H hb ⟨far, by omega, rfl⟩ htr (fun h' f H' => ⟨L.fr f, hQ h' (f.wd (fun x hx => by omega)) (fun j hj => by rw [(f.2.2 65 (by omega)).1]; exact ho j hj) (fun j hj => by rw [(f.2.2 61 (by omega)).1]; exact htr j hj) H'⟩)
        exact ⟨fun _ => kp, fun z => absurd (nI_le (Nat.le_refl _) (by omega)) z⟩
      | succ m =>
        refine ⟨fun z => absurd z (nI_ge (by omega) (by omega)), fun _ => ⟨fun z => absurd ((nI_eq (a := i) (b := 6) (by omega) (by omega)).mp z) (by omega), fun _ => ?_⟩⟩
        rw [n6z, nI_clamp (n := 6 * i) (by omega), show hI h 63 (6 * i) = nI (fn t i 0) from hF i 0 (by omega) (by omega), nI_add]
        refine ⟨vn (by omega) (by omega), vn (by omega) (by omega), ?_⟩
        have fr0 := (fn_rg R (i := i) (c := 0) (by omega) (by omega)).1
        have f1 : Fr (fun x => x = 61 ∨ x = 62 ∨ x = 65) h (setI h 61 i (-1)) := Fr.stI (by omega)
        have t1 : ∀ j, j < i + 1 → hI (setI h 61 i (-1)) 61 j = up1 tr i (pl 0) j := fun j hj => by
          unfold up1
          by_cases y : j = i
          · subst y; rw [if_pos rfl]; exact rdI
          · rw [if_neg y, rdn (by omega)]; exact htr j (by omega)
        have e1 : ∀ x k, ¬ x = 61 → hI (setI h 61 i (-1)) x k = hI h x k := fun x k hx => rdn (by omega)
        generalize setI h 61 i (-1) = h1 at *
        refine c_searchTonight R m (oc := ocS oc 0) (tr := up1 tr i (pl 0)) (by omega) (by omega) (L.fr f1) (hT.fr f1 (fun x h1 h2 => by omega)) (fun i c hi hc => (e1 63 _ (by decide)).trans (hF i c hi hc)) (fun i hi => (e1 64 _ (by decide)).trans (hL i hi)) (by omega) (fun j => Nat.le_succ_of_le (hoc j)) (fun j hj => (e1 65 _ (by decide)).trans (ho j hj)) t1 hb (H.to (fun i => e1 62 _ (by decide))) (fun h2 f2 ho2 htr2 H2 => ⟨(L.fr f1).fr f2, ?_⟩)
        have hb2 := toD_ok R (by omega) m (i := i + 1) (oc := ocS oc 0) (far := far + fn t i 0) (tr := up1 tr i (pl 0)) (by omega) (by omega) hb
        have f02 := f1.tr f2
        refine loopN (σ := Unit) (P := fun j _ h' => Sat g mX0_searchTonight (d + 1) (0, 0) (qV Q) 78 [.ref 58, .ref 4, .int (nI i), .int (nI far), .int (nI j)] [] h') (I := fun j _ h' => Fr (fun x => x = 61 ∨ x = 62 ∨ x = 65) h h' ∧ (∀ j, j < 5 → hI h' 65 j = nI (oc j)) ∧ (∀ j, j < i → hI h' 61 j = tr j) ∧ bOk (foldC (fun c b => if okC t oc c = true then toD t m (i + 1) (ocS oc c) (far + fn t i c) (up1 tr i (pl c)) b else b) (j + 1) b) ∧ CB h' (t.1 3) (foldC (fun c b => if okC t oc c = true then toD t m (i + 1) (ocS oc c) (far + fn t i c) (up1 tr i (pl c)) b else b) (j + 1) b)) (t.1 2) (fun _ h' e => ?_) (fun j _ h' hj e ih => ?_) 0 () h2 (by omega) ⟨f02, ho2, fun j hj => ?_, hb2, H2⟩
        · obtain ⟨f, ho', htr', hb', H'⟩ := e
          have T' := hT.fr f (fun x h1 h2 => by omega)
          refine wX0_searchTonight_78 _ _ _ (L.fr f) ?_
          rw [show hI h' 4 2 = nI (t.1 2) from T'.2.2.1 2 (by omega)]
          exact ⟨fun _ => hQ h' f ho' htr' H', fun z => absurd (nI_le (Nat.le_refl _) (by omega)) z⟩
        · obtain ⟨f, ho', htr', hb', H'⟩ := e
          have L' := L.fr f
          have T' := hT.fr f (fun x h1 h2 => by omega)
          have ih := ih ()
          have efc : foldC (fun c b => if okC t oc c = true then toD t m (i + 1) (ocS oc c) (far + fn t i c) (up1 tr i (pl c)) b else b) (j + 1 + 1) b = (if okC t oc (j + 1) = true then toD t m (i + 1) (ocS oc (j + 1)) (far + fn t i (j + 1)) (up1 tr i (pl (j + 1))) (foldC (fun c b => if okC t oc c = true then toD t m (i + 1) (ocS oc c) (far + fn t i c) (up1 tr i (pl c)) b else b) (j + 1) b) else (foldC (fun c b => if okC t oc c = true then toD t m (i + 1) (ocS oc c) (far + fn t i c) (up1 tr i (pl c)) b else b) (j + 1) b)) := rfl
          rw [efc] at ih
          clear efc
          generalize foldC (fun c b => if okC t oc c = true then toD t m (i + 1) (ocS oc c) (far + fn t i c) (up1 tr i (pl c)) b else b) (j + 1) b = b1 at *
          have eok : okC t oc (j + 1) = decide (oc j < t.1 1) := by
            unfold okC
            rw [Nat.add_sub_cancel]
            by_cases y : oc j < t.1 1
            · rw [decide_eq_true y, decide_eq_true (Or.inr y)]
            · rw [decide_eq_false y, decide_eq_false (fun z => z.elim (by omega) y)]
          have eoc : ocS oc (j + 1) = up1 oc j (oc j + 1) := by unfold ocS; rw [if_neg (by omega), Nat.add_sub_cancel]
          rw [eok, eoc, pl_s] at ih
          have hoj := hoc j
          refine wX0_searchTonight_78 _ _ _ L' ?_
          rw [show hI h' 4 2 = nI (t.1 2) from T'.2.2.1 2 (by omega), show hI h' 4 1 = nI (t.1 1) from T'.2.2.1 1 (by omega), nI_clamp (n := j) (by omega), nI_clamp (n := i) (by omega), ho' j (by omega), n6', nI_1 (6 * i + j), nI_clamp (n := 6 * i + j + 1) (by omega), nI_1 (oc j), nI_1 i, nI_1 j, (f.2.2 63 (by omega)).1, show hI h 63 (6 * i + j + 1) = nI (fn t i (j + 1)) from hF i (j + 1) (by omega) (by omega), nI_add]
          refine ⟨fun z => absurd z (nI_ge hj (by omega)), fun _ => ⟨fun z => absurd z (nI_ge (a := j) (b := 5) (by omega) (by omega)), fun _ => ⟨vn (by omega) (by omega), fun z => ?_, fun z => ⟨vn (by omega) (by omega), vn (by omega) (by omega), ?_⟩⟩⟩⟩
          · have y : ¬ oc j < t.1 1 := by
              have := (nI_leI (by omega) (by omega)).mp z
              omega
            rw [if_neg (fun w => y (of_decide_eq_true w))] at ih
            exact ih h' ⟨f, ho', htr', hb', H'⟩
          · have y : oc j < t.1 1 := Nat.lt_of_not_le (fun w => z (nI_le w (by omega)))
            rw [if_pos (decide_eq_true y)] at ih
            have frj := (fn_rg R (i := i) (c := j + 1) (by omega) (by omega)).1
            have f3 : Fr (fun x => x = 61 ∨ x = 62 ∨ x = 65) h' (setI (setI h' 65 j (nI (oc j + 1))) 61 i (nI j)) := (Fr.stI (by omega)).tr (Fr.stI (by omega))
            have t3 : ∀ k, k < i + 1 → hI (setI (setI h' 65 j (nI (oc j + 1))) 61 i (nI j)) 61 k = up1 tr i (nI j) k := fun k hk => by
              unfold up1
              by_cases y : k = i
              · subst y; rw [if_pos rfl]; exact rdI
              · rw [if_neg y, rdn (by omega), rdn (by omega)]; exact htr' k (by omega)
            have o3 : ∀ k, k < 5 → hI (setI (setI h' 65 j (nI (oc j + 1))) 61 i (nI j)) 65 k = nI (up1 oc j (oc j + 1) k) := fun k hk => by
              rw [rdn (by omega)]
              unfold up1
              by_cases y : k = j
              · subst y; rw [if_pos rfl]; exact rdI
              · rw [if_neg y, rdn (by omega)]; exact ho' k hk
            have e3 : ∀ x k, ¬ x = 61 → ¬ x = 65 → hI (setI (setI h' 65 j (nI (oc j + 1))) 61 i (nI j)) x k = hI h' x k := fun x k h1 h2 => by rw [rdn (by omega), rdn (by omega)]
            generalize setI (setI h' 65 j (nI (oc j + 1))) 61 i (nI j) = h3 at *
            have f03 := f.tr f3
            have hb3 := toD_ok R (by omega) m (i := i + 1) (oc := up1 oc j (oc j + 1)) (far := far + fn t i (j + 1)) (tr := up1 tr i (nI j)) (by omega) (by omega) hb'
            refine c_searchTonight R m (by omega) (by omega) (L.fr f03) (hT.fr f03 (fun x h1 h2 => by omega)) (fun i c hi hc => by rw [(f03.2.2 63 (by omega)).1]; exact hF i c hi hc) (fun i hi => by rw [(f03.2.2 64 (by omega)).1]; exact hL i hi) (by omega) (fun k => ?_) o3 t3 hb' (H'.to (fun k => e3 62 k (by decide) (by decide))) (fun h4 f4 ho4 htr4 H4 => ⟨(L.fr f03).fr f4, ?_⟩)
            · unfold up1
              by_cases y : k = j
              · rw [if_pos y]; omega
              · rw [if_neg y]; exact Nat.le_succ_of_le (hoc k)
            · have o4 : hI h4 65 j = nI (oc j + 1) := by rw [ho4 j (by omega)]; unfold up1; rw [if_pos rfl]
              rw [o4, nI_pred]
              refine ih _ ⟨(f03.tr f4).tr (Fr.stI (by omega)), fun k hk => ?_, fun k hk => ?_, hb3, H4.to (fun k => rdn (by omega))⟩
              · by_cases y : k = j
                · subst y; exact rdI
                · rw [rdn (by omega), ho4 k hk]; unfold up1; rw [if_neg y]
              · rw [rdn (by omega), htr4 k (by omega)]; unfold up1; rw [if_neg (by omega)]
        · rw [htr2 j (by omega)]; unfold up1; rw [if_neg (by omega)]
    · refine hQ h (Fr.rf h) ho htr ?_
      cases b with
      | none =>
        have H : hI h 62 0 = 1000000 := H
        rw [H] at z
        exact absurd (nI_lt (a := far + lsT t m i) (b := 1000000) (by omega) (by omega)) z
      | some p =>
        obtain ⟨y, s⟩ := p
        obtain ⟨yn, hyn, rfl⟩ := hb y s rfl
        have H0 : hI h 62 0 = nI yn := H.1
        rw [H0] at z
        have : yn ≤ far + lsT t m i := Nat.le_of_not_lt (fun w => z (nI_lt w (by omega)))
        rw [toD_cut R (by omega) hyn m him hfar this]
        exact H
theorem c_findTonight {d : Nat} {h : HP} {Q : HP → Prop} (L : Lay h) (hT : TownIs h 4 t) (R : TR t) (hQ : ∀ h', RC h h' → CB h' (t.1 3) (toB t) → Q h') : CallV g mX0_findTonight (d + 10) (0, 0) [.ref 58, .ref 4] h Q := by
  have hB := hT.2.1
  unfold TB at hB
  refine wX0_findTonight_0 L ?_
  refine loopN (σ := Unit) (P := fun j _ h' => Sat g mX0_findTonight (d + 10) (0, 0) (qV Q) 10 [.ref 58, .ref 4, .int (pl (6 - j))] [] h') (I := fun j _ h' => Fr (fun x => x = 63 ∨ x = 64) h h' ∧ (∀ i, 6 - j ≤ i → i ≤ 6 → hI h' 64 i = nI (lsT t (t.1 3 - i) i)) ∧ ∀ i c, 6 - j ≤ i → i < t.1 3 → c ≤ t.1 2 → hI h' 63 (6 * i + c) = nI (fn t i c)) 6 (fun _ h' e => ?_) (fun j _ h' hj e ih => ?_) 0 () (setI h 64 6 0) (by omega) ⟨Fr.stI (by omega), fun i h1 h2 => ?_, fun i c h1 h2 => by omega⟩
  · obtain ⟨f, e64, e63⟩ := e
    refine wX0_findTonight_10 _ (L.fr f) ⟨fun _ => ?_, fun z => absurd (by decide) z⟩
    refine loopN (σ := Unit) (P := fun j _ h' => Sat g mX0_findTonight (d + 10) (0, 0) (qV Q) 43 [.ref 58, .ref 4, .int (nI j)] [] h') (I := fun j _ h2 => Fr (fun x => x = 65) h' h2 ∧ ∀ k, k < j → hI h2 65 k = 0) 5 (fun _ h2 e => ?_) (fun j _ h2 hj e ih => ?_) 0 () h' (by omega) ⟨Fr.rf h', fun k hk => by omega⟩
    · obtain ⟨f2, e2⟩ := e
      have f02 : RC h h2 := (f.wd (fun x hx => by omega)).tr (f2.wd (fun x hx => by omega))
      refine wX0_findTonight_43 _ (L.fr f02) ⟨fun _ => ?_, fun z => absurd (by decide) z⟩
      have f3 : Fr (fun x => x = 62) h2 (setI h2 62 0 1000000) := Fr.stI rfl
      have f03 := f02.tr (f3.wd (B := fun x => 40 ≤ x ∧ x < 126) (fun x hx => by omega))
      refine c_searchTonight R (t.1 3) (i := 0) (far := 0) (oc := fun _ => 0) (tr := fun _ => 0) (b := none) (by omega) (by omega) (L.fr f03) (hT.fr f03 (fun x h1 h2 => by omega)) (fun i c hi hc => ?_) (fun i hi => ?_) (by omega) (fun _ => Nat.le_refl _) (fun k hk => ?_) (fun k hk => by omega) bOk_none rdI (fun h4 f4 _ _ H4 => ⟨(L.fr f03).fr f4, hQ h4 (f03.tr (f4.wd (fun x hx => by omega))) H4⟩)
      · rw [rdn (by omega), (f2.2.2 63 (by omega)).1]; exact e63 i c (by omega) hi hc
      · rw [rdn (by omega), (f2.2.2 64 (by omega)).1]; exact e64 i (by omega) (by omega)
      · rw [rdn (by omega)]; exact e2 k hk
    · obtain ⟨f2, e2⟩ := e
      have f02 : RC h h2 := (f.wd (fun x hx => by omega)).tr (f2.wd (fun x hx => by omega))
      refine wX0_findTonight_43 _ (L.fr f02) ⟨fun z => absurd z (nI_ge (a := j) (b := 5) hj (by omega)), fun _ => ⟨vn (by omega) (by omega), ?_⟩⟩
      rw [nI_clamp (n := j) (by omega), nI_1]
      refine ih () _ ⟨f2.tr (Fr.stI rfl), fun k hk => ?_⟩
      by_cases y : k = j
      · subst y; exact rdI
      · rw [rdn (by omega)]; exact e2 k (by omega)
  · obtain ⟨f, e64, e63⟩ := e
    have L' := L.fr f
    have T' := hT.fr f (fun x h1 h2 => by omega)
    obtain ⟨i, hi⟩ : ∃ i, 6 - j = i + 1 := ⟨5 - j, by omega⟩
    have ih := ih ()
    rw [show 6 - (j + 1) = i by omega] at ih
    rw [hi] at e64 e63 ⊢
    refine wX0_findTonight_10 _ L' ?_
    rw [pl_m, pl_s, nI_1, nI_clamp (n := i + 1) (by omega), nI_clamp (n := i) (by omega), e64 (i + 1) (by omega) (by omega)]
    refine ⟨fun z => absurd z (nI_pos (by omega)), fun _ => ⟨vn (by omega) (by omega), ?_⟩⟩
    by_cases y : i < t.1 3
    · refine c_weighY L' T' R y (fun h2 f2 w1 w2 => ⟨L'.fr f2, vn (by omega) (by omega), ih _ ⟨(f.tr (f2.wd (fun x hx => by omega))).tr (Fr.stI (by omega)), fun k h1 h2 => ?_, fun k c h1 h2 h3 => ?_⟩⟩)
      · by_cases z : k = i
        · subst z
          rw [rdI, nI_add, show t.1 3 - k = (t.1 3 - (k + 1)) + 1 by omega, lsT, Nat.add_comm]
        · rw [rdn (by omega), (f2.2.2 64 (by omega)).1]; exact e64 k (by omega) h2
      · rw [rdn (by omega)]
        by_cases z : k = i
        · subst z; exact w1 c h3
        · rw [w2 (6 * k + c) (by omega)]; exact e63 k c (by omega) h2 h3
    · refine wX0_weighPlaces_0 _ L' (c_hasLodger T' (fun u hu eu => absurd ((nI_eq (by omega) (by omega)).mp eu) (by omega)) (fun _ => ⟨L', fun _ => ?_, fun z => absurd rfl z⟩))
      refine ⟨L', vn (by omega) (by omega), ih _ ⟨f.tr (Fr.stI (by omega)), fun k h1 h2 => ?_, fun k c h1 h2 h3 => ?_⟩⟩
      · by_cases z : k = i
        · subst z
          rw [rdI, Int32.add_zero, show t.1 3 - k = 0 by omega, show t.1 3 - (k + 1) = 0 by omega]
          rfl
        · rw [rdn (by omega)]; exact e64 k (by omega) h2
      · rw [rdn (by omega)]; exact e63 k c (by omega) h2 h3
  · have : i = 6 := by omega
    subst this
    rw [rdI, show t.1 3 - 6 = 0 by omega]
    rfl
theorem c_tonight {ρ : Option Rl} {d : Nat} {h : HP} {w : Int32} {Q : Int32 → HP → Prop} (C : CZ h ρ t) (hQ : ∀ h', RC h h' → Q (aTonight t w) h') : CallI g mX9_tonight (d + 11) [.ref 0, .int w] h Q := by
  obtain ⟨L, hT, R, F⟩ := C
  have hB := hT.2.1
  unfold TB at hB
  have no : ¬ (¬ t.1 0 = 0 ∧ (w = -1 ∨ IN w 0 5)) → Q (-3) h := fun c => by
    have := hQ h RC.rf
    unfold aTonight at this
    rwa [if_neg c] at this
  refine wX9_tonight_0 _ L (c_stand hT (fun c => ⟨L, fun z => absurd z (by decide), fun _ => ⟨fun z => no (fun y => y.2.elim (fun y => ?_) (fun y => ?_)), fun z => ⟨fun z2 => ?_, fun z2 => no (fun y => y.2.elim (fun y => ?_) (fun y => ?_))⟩⟩⟩) (fun z => ⟨L, fun _ => no (fun y => y.1 z), fun z => absurd rfl z⟩))
  · rw [y] at z; exact absurd z (by decide)
  · rw [y.2.2] at z
    exact absurd (Int32.lt_trans z (by decide)) (nI_pos (by omega))
  · have hw : w = -1 ∨ ∃ v, v ≤ 5 ∧ w = nI v := by
      by_cases y : w < 0
      · refine Or.inl (Int32.toInt_inj.mp ?_)
        rw [Int32.lt_iff_toInt_lt] at y z
        have e1 : (-1 : Int32).toInt = -1 := rfl
        have e0 : (0 : Int32).toInt = 0 := rfl
        omega
      · obtain ⟨v, hv, rfl⟩ := nI_of y
        exact Or.inr ⟨v, by have := (nI_ltI (a := v) (b := 6) (by omega) (by omega)).mp z2; omega, rfl⟩
    rw [show hI h 4 3 = nI (t.1 3) from hT.2.2.1 3 (by omega)]
    have ns := toD_some (t := t) (t.1 3) (i := 0) (oc := fun _ => 0) (far := 0) (tr := fun _ => 0) (b := none)
    refine ⟨fun z3 => c_findTonight L hT R (fun h1 f1 H1 => ⟨L.fr f1, ?_⟩), fun z3 => ?_⟩
    · have yes := hQ h1 f1
      unfold aTonight at yes
      have L1 := L.fr f1
      rcases hw with rfl | ⟨v, hv, rfl⟩
      · refine told7 (v := 0) L1 (by omega) ⟨L1, ?_⟩
        rw [if_pos ⟨c, Or.inl rfl⟩, if_pos rfl] at yes
        unfold toB at yes H1
        generalize toD t (t.1 3) 0 (fun _ => 0) 0 (fun _ => 0) none = B at *
        cases B with
        | none => exact absurd rfl ns
        | some p => rw [H1.1]; exact yes
      · have hv3 : v < t.1 3 := (nI_ltI (by omega) (by omega)).mp z3
        have nm1 : ¬ nI v = -1 := fun e => absurd (nI_pos (n := v) (by omega)) (by rw [e]; decide)
        rw [nI_1]
        refine told7 (v := v + 1) L1 (by omega) ⟨L1, ?_⟩
        rw [if_pos ⟨c, Or.inr (IN_j (by omega) hv (by decide))⟩, if_neg nm1, if_pos (IX_j hv3 (by omega)), nI_clamp (n := v) (by omega)] at yes
        unfold toB at yes H1
        generalize toD t (t.1 3) 0 (fun _ => 0) 0 (fun _ => 0) none = B at *
        cases B with
        | none => exact absurd rfl ns
        | some p => rw [H1.2 v hv3]; exact yes
    · have yes := hQ h RC.rf
      unfold aTonight at yes
      rcases hw with rfl | ⟨v, hv, rfl⟩
      · exact absurd (by rw [Int32.lt_iff_toInt_lt, nI_toInt (by omega)]; have e1 : (-1 : Int32).toInt = -1 := rfl; omega) z3
      · have nm1 : ¬ nI v = -1 := fun e => absurd (nI_pos (n := v) (by omega)) (by rw [e]; decide)
        have hv3 : ¬ v < t.1 3 := fun y => z3 (nI_lt y (by omega))
        rw [if_pos ⟨c, Or.inr (IN_j (by omega) hv (by decide))⟩, if_neg nm1, if_neg (fun y => hv3 (by have := y.1; rwa [nI_clamp (by omega)] at this))] at yes
        exact yes
  · rw [y] at z2; exact absurd (by decide) z2
  · rw [y.2.2] at z2
    exact z2 (nI_lt (a := w.toNatClampNeg) (b := 6) (by omega) (by omega))
end CTO
