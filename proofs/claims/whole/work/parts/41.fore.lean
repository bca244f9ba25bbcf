/-! Foresight, of the class -/
abbrev qV (Q : HP → Prop) : Option Value → HP → Prop := fun r h' => match r with
  | none => Q h'
  | _ => False
abbrev qI (Q : Int32 → HP → Prop) : Option Value → HP → Prop := fun r h' => match r with
  | some (.int x) => Q x h'
  | _ => False
section FO
variable {g : GT} {d : Nat} {h : HP} {t : Tw} {ρ : Option Rl} {r2 : Option Nat}
theorem c_pass1 {a : Nat} {Q : Int32 → HP → Prop} (L : Lay h) (hT : TownIs h a t) (R : TR t) (ha : 46 ≤ a ∨ a + 9 ≤ 40) (hC : CRho h r2 ρ) (hb : t.1 4 + 1 ≤ 5000) (hQ : ∀ h', Fr (fun x => (40 ≤ x ∧ x < 46) ∨ (a ≤ x ∧ x < a + 9)) h h' → TownIs h' a (nightT t ρ frH) → Q (nI (cntL (lieS t ρ frH (t.1 3)).1 (t.1 3))) h') : CallI g mX4_pass (d + 4) [.ref 40, .ref a, ov r2, .null] h Q :=
  c_night (r3 := none) (Lng L) hT R (by omega) (fun _ => rfl) (hC.rl L (fun r hr => Lru L hr) hT ha) hb (fun h' f T => hQ h' (f.wd (fun x hx => by omega)) T)
theorem c_goOn {n : Nat} {Q : HP → Prop} (L : Lay h) (hT : TownIs h 47 t) (R : TR t) (hC : CRho h r2 ρ) (hb : t.1 4 + n ≤ 5000) (hQ : ∀ h', Fr (fun x => 40 ≤ x ∧ x < 56) h h' → TownIs h' 47 (itN ρ t n) → Q h') : CallV g mX1_goOn (d + 5) (0, 0) [.ref 46, ov r2, .int (nI n)] h Q := by
  have key := wX1_goOn_0 (g := g) (d := d + 4) (b := (0, 0)) (Q := qV Q) r2 (nI n) L (loopN (σ := Unit) (P := fun i _ h' => Sat g mX1_goOn (d + 5) (0, 0) (qV Q) 2 [.ref 46, ov r2, .int (nI n), .int (nI i)] [] h') (I := fun i _ h' => Fr (fun x => 40 ≤ x ∧ x < 56) h h' ∧ TownIs h' 47 (itN ρ t i)) n (fun _ h' e => by
    exact wX1_goOn_2 _ _ _ (L.fr e.1) ⟨fun _ => hQ h' e.1 e.2, fun c => absurd (nI_le (Nat.le_refl _) (by omega)) c⟩) (fun i _ h' hi e ih => by
    refine wX1_goOn_2 _ _ _ (L.fr e.1) ⟨fun c => absurd c (nI_ge hi (by omega)), fun _ => ?_⟩
    rw [nI_1]
    refine c_pass1 (L.fr e.1) e.2 (itN_ok hT.2.1 R i (by omega)).2 (by omega) (hC.to (fun x k hx => by rw [(e.1.2.2 x (by omega)).1])) (by rw [itN_4]; omega) (fun h2 f2 T2 => ⟨(L.fr e.1).fr f2, ih () h2 ⟨e.1.tr (f2.wd (fun x hx => by omega)), T2⟩⟩)) 0 () h (by omega) ⟨Fr.rf h, hT⟩)
  cases r2 <;> exact key
theorem c_after {n : Nat} {Q : Nat → HP → Prop} (L : Lay h) (hT : TownIs h 4 t) (R : TR t) (hC : CRho h r2 ρ) (hb : t.1 4 + n ≤ 5000) (hQ : ∀ h', Fr (fun x => 40 ≤ x ∧ x < 58) h h' → TownIs h' 47 (itN ρ t n) → Q 47 h') : CallR g mX1_after (d + 6) [.ref 46, .ref 4, ov r2, .int (nI n)] h Q := by
  have key := wX1_after_0 (g := g) (d := d + 5) (b := (0, 0)) (Q := fun r h' => match r with
    | some (.ref x) => Q x h'
    | _ => False) r2 (nI n) L (c_copyFrom (Ltw_47 L) hT (by omega) (fun h2 o2 T2 => by
      have f2 : Fr (fun x => 40 ≤ x ∧ x < 58) h h2 := o2.fr.wd (fun x hx => by omega)
      exact ⟨L.fr f2, c_goOn (L.fr f2) T2 R (hC.to (fun x k hx => by rw [(f2.2.2 x (by omega)).1])) hb (fun h3 f3 T3 => ⟨(L.fr f2).fr f3, hQ h3 (f2.tr (f3.wd (fun x hx => by omega))) T3⟩)⟩))
  cases r2 <;> exact key
theorem c_tell {x y z : Int32} {Q : HP → Prop} (L : Lay h) (hQ : Q (setI (setI (setI h 57 0 x) 57 1 y) 57 2 z)) : CallV g mX1_tell d (0, 0) [.ref 46, .int x, .int y, .int z] h Q := wX1_tell_0 x y z L hQ
theorem c_told1 {k : Nat} {Q : Int32 → HP → Prop} (L : Lay h) (hk : k < 3) (hQ : Q (hI h 57 k) h) : CallI g mX1_told d [.ref 46, .int (nI k)] h Q := by
  refine wX1_told_0 (nI k) L ⟨fun c => absurd c (nI_pos (by omega)), fun _ => ?_⟩
  rw [Ln L N_57, nI_clamp (by omega)]
  exact ⟨fun c => absurd c (nI_ge (a := k) (b := 3) hk (by omega)), fun _ => ⟨vn (by omega) (by omega), hQ⟩⟩
theorem c_firstNightOf {q : Nat} {s : Int32} {Q : Int32 → HP → Prop} (L : Lay h) (hT : TownIs h 4 t) (R : TR t) (hC : CRho h r2 ρ) (hb : t.1 4 ≤ 2000) (hq : q < t.1 3) (hQ : ∀ h', Fr (fun x => 40 ≤ x ∧ x < 58) h h' → Q (comesT ρ t q s 200 0) h') : CallI g mX1_firstNightOf (d + 5) [.ref 46, .ref 4, ov r2, .int (nI q), .int s] h Q := by
  have hB := hT.2.1
  unfold TB at hB
  have key := wX1_firstNightOf_0 (g := g) (d := d + 4) (b := (0, 0)) (Q := qI Q) r2 (nI q) s L (c_copyFrom (Ltw_47 L) hT (by omega) (fun h2 o2 T2 => by
    have f2 : Fr (fun x => 40 ≤ x ∧ x < 58) h h2 := o2.fr.wd (fun x hx => by omega)
    refine ⟨L.fr f2, ?_⟩
    refine loopN (σ := Unit) (P := fun i _ h' => Sat g mX1_firstNightOf (d + 5) (0, 0) (qI Q) 11 [.ref 46, .double 0, ov r2, .int (nI q), .int s, .int (nI i)] [] h') (I := fun i _ h' => Fr (fun x => 40 ≤ x ∧ x < 58) h h' ∧ TownIs h' 47 (itN ρ t i) ∧ ∀ h'', Fr (fun x => 40 ≤ x ∧ x < 58) h h'' → Q (comesT ρ t q s (200 - i) i) h'') 200 (fun _ h' e => ?_) (fun i _ h' hi e ih => ?_) 0 () h2 (by omega) ⟨f2, T2, hQ⟩
    · exact wX1_firstNightOf_11 _ _ _ _ (L.fr e.1) ⟨fun _ => e.2.2 h' e.1, fun c => absurd (show (200 : Int32) ≤ nI 200 by decide) c⟩
    · obtain ⟨f, T', hq2⟩ := e
      have L' := L.fr f
      have e3 := itN_k ρ t i (k := 3) (by omega)
      have es : comesT ρ t q s (200 - i) i = if (itN ρ t i).2 4 q = s then nI ((itN ρ t i).1 4) else comesT ρ t q s (200 - (i + 1)) (i + 1) := by
        rw [show 200 - i = (200 - (i + 1)) + 1 by omega]; rfl
      rw [es] at hq2
      refine wX1_firstNightOf_11 _ _ _ _ L' ⟨fun c => absurd c (nI_ge (a := i) (b := 200) hi (by omega)), fun _ => c_hasLodger T' (fun j hj e => ⟨L', fun c => absurd c (by decide), fun _ => ⟨vn (by omega) (by omega), ?_⟩⟩) (fun z => absurd rfl (z q (by omega)))⟩
      rw [nI_clamp (n := q) (by omega), show hI h' 51 q = (itN ρ t i).2 4 q from T'.lod 4 (by omega) (by omega) (by omega), show hI h' 47 4 = nI ((itN ρ t i).1 4) from T'.2.2.1 4 (by omega)]
      refine ⟨fun c => ?_, fun c => ?_⟩
      · rw [if_pos c] at hq2; exact hq2 h' f
      · rw [if_neg c] at hq2
        rw [nI_1]
        exact c_pass1 L' T' (itN_ok hT.2.1 R i (by omega)).2 (by omega) (hC.to (fun x k hx => by rw [(f.2.2 x (by omega)).1])) (by rw [itN_4]; omega) (fun h3 f3 T3 => ⟨L'.fr f3, ih () h3 ⟨f.tr (f3.wd (fun x hx => by omega)), T3, hq2⟩⟩)))
  cases r2 <;> exact key
theorem c_findTurned {n : Nat} {Q : HP → Prop} (L : Lay h) (hT : TownIs h 4 t) (R : TR t) (hC : CRho h r2 ρ) (hb : t.1 4 + n ≤ 5000) (hQ : ∀ h', Fr (fun x => 40 ≤ x ∧ x < 58) h h' → hI h' 57 0 = (tuB ρ t n (t.1 2)).1 → hI h' 57 1 = (tuB ρ t n (t.1 2)).2 → Q h') : CallV g mX1_findTurned (d + 6) (0, 0) [.ref 46, .ref 4, ov r2, .int (nI n)] h Q := by
  have hB := hT.2.1
  unfold TB at hB
  -- one round, from any state
  have body : ∀ (x4 x5 x6 : Int32) (t' : Tw) (h' : HP), Fr (fun x => 40 ≤ x ∧ x < 58) h h' → ¬ nI (t.1 2) ≤ x6 → ((∀ j, j < t.1 2 → ¬ x6 = nI j) ∧ t' = t ∨ ∃ j, j < t.1 2 ∧ x6 = nI j ∧ t' = swapT t j) → (∀ h'', Fr (fun x => 40 ≤ x ∧ x < 58) h h'' → (x5 ≤ farA (itN ρ t' n) → Sat g mX1_findTurned (d + 6) (0, 0) (qV Q) 10 [.ref 46, .ref 4, ov r2, .int (nI n), .int x4, .int x5, .int (x6 + 1)] [] h'') ∧ (¬ x5 ≤ farA (itN ρ t' n) → Sat g mX1_findTurned (d + 6) (0, 0) (qV Q) 10 [.ref 46, .ref 4, ov r2, .int (nI n), .int x6, .int (farA (itN ρ t' n)), .int (x6 + 1)] [] h'')) → Sat g mX1_findTurned (d + 6) (0, 0) (qV Q) 10 [.ref 46, .ref 4, ov r2, .int (nI n), .int x4, .int x5, .int x6] [] h' := by
    intro x4 x5 x6 t' h' f c6 hx k
    have L' := L.fr f
    have T' := hT.fr f (fun x h1 h2 => by omega)
    refine wX1_findTurned_10 _ _ _ _ _ L' ⟨fun c => absurd (by rw [show hI h' 4 2 = nI (t.1 2) from T'.2.2.1 2 (by omega)] at c; exact c) c6, fun _ => c_copyFrom (Ltw_47 L') T' (by omega) (fun h2 o2 T2 => ?_)⟩
    have f2 : Fr (fun x => 40 ≤ x ∧ x < 58) h h2 := f.tr (o2.fr.wd (fun x hx => by omega))
    have L2 := L.fr f2
    refine ⟨L2, ?_⟩
    have rest : ∀ h3, Fr (fun x => 40 ≤ x ∧ x < 58) h h3 → TownIs h3 47 t' → TR t' → t'.1 4 = t.1 4 → CallV g mX1_goOn (d + 5) (0, 0) [.ref 46, ov r2, .int (nI n)] h3 (fun h6 => Lay h6 ∧ CallI g mX8_farOfAll (d + 5) [Value.ref 47] h6 (fun i9 h8 => Lay h8 ∧ (x5 ≤ i9 → Sat g mX1_findTurned (d + 6) (0, 0) (qV Q) 10 [Value.ref 46, .ref 4, ov r2, .int (nI n), .int x4, .int x5, .int (x6 + 1)] [] h8) ∧ (¬ (x5 ≤ i9) → CallI g mX8_farOfAll (d + 5) [Value.ref 47] h8 (fun i12 h11 => Lay h11 ∧ Sat g mX1_findTurned (d + 6) (0, 0) (qV Q) 10 [Value.ref 46, .ref 4, ov r2, .int (nI n), .int x6, .int i12, .int (x6 + 1)] [] h11)))) := by
      intro h3 f3 T3 R3 e4
      refine c_goOn (L.fr f3) T3 R3 (hC.to (fun x k hx => by rw [(f3.2.2 x (by omega)).1])) (by rw [e4]; exact hb) (fun h4 f4 T4 => ⟨(L.fr f3).fr f4, ?_⟩)
      have f34 : Fr (fun x => 40 ≤ x ∧ x < 58) h h4 := f3.tr (f4.wd (fun x hx => by omega))
      refine c_farOfAll T4 ⟨L.fr f34, fun c => (k h4 f34).1 c, fun c => c_farOfAll T4 ⟨L.fr f34, (k h4 f34).2 c⟩⟩
    rcases hx with ⟨w, rfl⟩ | ⟨j, hj, rfl, rfl⟩
    · exact c_swapNone T2 w ⟨L2, rest h2 f2 T2 R rfl⟩
    · refine c_swapSides T2 hj (fun h3 o3 T3 => ?_)
      have f3 : Fr (fun x => 40 ≤ x ∧ x < 58) h h3 := f2.tr (o3.fr.wd (fun x hx => by omega))
      exact ⟨L.fr f3, rest h3 f3 T3 (swap_ok hT.2.1 R hj).2 rfl⟩
  have key := wX1_findTurned_0 (g := g) (d := d + 5) (b := (0, 0)) (Q := qV Q) r2 (nI n) L (by
    obtain ⟨F, hF, eF⟩ := farA_rg (itN_ok (ρ := ρ) hT.2.1 R n hb).1 (itN_ok (ρ := ρ) hT.2.1 R n hb).2
    have m1 : ¬ nI (t.1 2) ≤ -1 := by
      rw [Int32.le_iff_toInt_le, nI_toInt (by omega)]
      have : (-1 : Int32).toInt = -1 := by decide
      omega
    refine body _ _ _ t h (Fr.rf h) m1 (Or.inl ⟨fun j hj e => neg1_ne (by omega) e.symm, rfl⟩) (fun h2 f2 => ⟨fun c => ?_, fun _ => ?_⟩)
    · rw [eF] at c
      exact absurd c (nI_ge (a := F) (b := 1000000) (by omega) (by omega))
    · refine loopN (σ := Unit) (P := fun i _ h' => Sat g mX1_findTurned (d + 6) (0, 0) (qV Q) 10 [.ref 46, .ref 4, ov r2, .int (nI n), .int (tuB ρ t n i).1, .int (tuB ρ t n i).2, .int (nI i)] [] h') (I := fun i _ h' => Fr (fun x => 40 ≤ x ∧ x < 58) h h') (t.1 2) (fun _ h' f => ?_) (fun i _ h' hi f ih => ?_) 0 () h2 (by omega) f2
      · have L' := L.fr f
        have T' := hT.fr f (fun x h1 h2 => by omega)
        refine wX1_findTurned_10 _ _ _ _ _ L' ⟨fun _ => c_tell L' ⟨L', hQ _ (f.tr (((Fr.stI (by omega)).tr (Fr.stI (by omega))).tr (Fr.stI (by omega)))) ?_ ?_⟩, fun c => absurd ?_ c⟩
        · rw [rdn (by omega), rdn (by omega), rdI]
        · rw [rdn (by omega), rdI]
        · rw [show hI h' 4 2 = nI (t.1 2) from T'.2.2.1 2 (by omega)]
          exact nI_le (Nat.le_refl _) (by omega)
      · refine body _ _ _ (swapT t i) h' f (nI_ge hi (by omega)) (Or.inr ⟨i, hi, rfl, rfl⟩) (fun h3 f3 => ?_)
        have ih := ih () h3 f3
        have es : tuB ρ t n (i + 1) = if farA (itN ρ (swapT t i) n) < (tuB ρ t n i).2 then (nI i, farA (itN ρ (swapT t i) n)) else tuB ρ t n i := rfl
        rw [es] at ih
        rw [nI_1]
        refine ⟨fun c => ?_, fun c => ?_⟩
        · rw [if_neg (Int32.not_lt.mpr c)] at ih; exact ih
        · rw [if_pos (Int32.not_le.mp c)] at ih; exact ih)
  cases r2 <;> exact key
end FO
