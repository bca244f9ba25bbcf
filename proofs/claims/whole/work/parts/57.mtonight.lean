/-! the best way to lie tonight, of the reference -/
def hdA (D : Nat → Nat) : Hd := fun i => some (pl (D i))
theorem lie_keepN {t : Tw} {ρ : Option Rl} {hd : Hd} {i a : Nat} (h : i < a) : ∀ n, a ≤ n → (lieS t ρ hd n).1 i = (lieS t ρ hd a).1 i := by
  intro n
  induction n with
  | zero => intro hn; omega
  | succ n ih =>
    intro hn
    by_cases c : a = n + 1
    · rw [c]
    · rw [lie_keep (by omega)]; exact ih (by omega)
theorem held_rO {t : Tw} {ρ : Option Rl} {D : Nat → Nat} (hB : TB t) (hD : ∀ i, i < t.1 3 → D i ≤ t.1 2) : ∀ m i, i + m = t.1 3 → (∀ j, j < i → (lieS t ρ (hdA D) i).1 j = pl (D j)) → (heldOK t ρ (hdA D) (t.1 3) ↔ rO t m (lieS t ρ (hdA D) i).2 (fun j => D (i + j)) = true) := by
  unfold TB at hB
  intro m
  induction m with
  | zero =>
    intro i hi hl
    have : i = t.1 3 := by omega
    subst this
    refine ⟨fun _ => rfl, fun _ q hq y e => ?_⟩
    have e : some (pl (D q)) = some y := e
    cases e
    exact hl q hq
  | succ m ih =>
    intro i hi hl
    have eg : goT t ρ (hdA D) (lieS t ρ (hdA D) i).2 i = pl (D i) := rfl
    have hDi := hD i (by omega)
    have ih := ih (i + 1) (by omega)
    rw [rO]
    show _ ↔ (okC t (lieS t ρ (hdA D) i).2 (D (i + 0)) && rO t m (ocS (lieS t ρ (hdA D) i).2 (D (i + 0))) (fun j => D (i + (j + 1)))) = true
    rw [Nat.add_zero, rO_congr m (D' := fun j => D (i + 1 + j)) (fun j _ => by rw [show i + (j + 1) = i + 1 + j by omega])]
    by_cases may : okC t (lieS t ρ (hdA D) i).2 (D i) = true
    · have hs : lieS t ρ (hdA D) (i + 1) = (up1 (lieS t ρ (hdA D) i).1 i (pl (D i)), ocS (lieS t ρ (hdA D) i).2 (D i)) := by
        unfold okC at may
        have may := of_decide_eq_true may
        rcases pl_cases (D i) with ⟨y, z⟩ | ⟨u, z, y⟩
        · rw [lieS_s (x := pl (D i)) (Or.inr ⟨fun w => by rw [eg, y] at w; exact absurd w.1 (by decide), y⟩), if_pos y]
          unfold ocS
          rw [if_pos z]
        · have hu : (lieS t ρ (hdA D) i).2 u < t.1 1 := by
            rcases may with w | w
            · omega
            · rw [z, Nat.add_sub_cancel] at w; exact w
          rw [lieS_s (x := pl (D i)) (Or.inl ⟨by rw [eg, mayT_iff (by omega)]; exact ⟨u, by omega, y, hu⟩, eg.symm⟩), if_neg (by rw [y]; exact fun e => absurd (nI_pos (n := u) (by omega)) (by rw [e]; decide))]
          unfold ocS
          rw [if_neg (by omega), y, nI_clamp (by omega), show D i - 1 = u by omega]
      rw [may, Bool.true_and]
      have h2 : (lieS t ρ (hdA D) (i + 1)).2 = ocS (lieS t ρ (hdA D) i).2 (D i) := by rw [hs]
      rw [← h2]
      refine ih (fun j hj => ?_)
      by_cases c : j = i
      · subst c; rw [hs]; exact up1_at
      · rw [lie_keep (by omega)]; exact hl j (by omega)
    · have hmf : okC t (lieS t ρ (hdA D) i).2 (D i) = false := by cases hx : okC t (lieS t ρ (hdA D) i).2 (D i) <;> simp_all
      rw [hmf, Bool.false_and]
      refine ⟨fun hh => ?_, fun z => absurd z (by decide)⟩
      have e1 := hh i (by omega) (pl (D i)) rfl
      rw [lie_keepN (a := i + 1) (by omega) _ (by omega)] at e1
      unfold okC at hmf
      have hmf := of_decide_eq_false hmf
      rcases pl_cases (D i) with ⟨y, z⟩ | ⟨u, z, y⟩
      · exact absurd (Or.inl z) hmf
      · have hu : ¬ (lieS t ρ (hdA D) i).2 u < t.1 1 := fun w => hmf (Or.inr (by rw [z, Nat.add_sub_cancel]; exact w))
        have nm : ¬ mayT t (lieS t ρ (hdA D) i).2 (goT t ρ (hdA D) (lieS t ρ (hdA D) i).2 i) := by
          rw [eg, mayT_iff (by omega), y]
          rintro ⟨j, h1, h2, h3⟩
          have : u = j := (nI_eq (by omega) (by omega)).mp h2
          subst this
          exact hu h3
        rw [lieS_s (x := -1) (Or.inr ⟨nm, rfl⟩)] at e1
        have e1 : up1 (lieS t ρ (hdA D) i).1 i (-1) i = pl (D i) := e1
        rw [up1_at, y] at e1
        exact absurd (nI_pos (n := u) (by omega)) (by rw [← e1]; decide)
theorem far_rF {t : Tw} {ρ : Option Rl} {D : Nat → Nat} (hR : TR t) (hB : TB t) (hD : ∀ i, i < t.1 3 → D i ≤ t.1 2) (hh : heldOK t ρ (hdA D) (t.1 3)) : farA (nightT t ρ (hdA D)) = nI (rF t (t.1 3) 0 D) := by
  unfold TB at hB
  have ef : ∀ i, i < t.1 3 → farT (nightT t ρ (hdA D)) i = nI (fn t i (D i)) := by
    intro i hi
    have el : (lieS t ρ (hdA D) (t.1 3)).1 i = pl (D i) := hh i hi (pl (D i)) rfl
    rw [← (fn_rg hR hi (hD i hi)).2]
    have hDi := hD i hi
    unfold farT fiT
    rw [night_o _ _ _ _ (by omega), night_o _ _ _ _ (by omega)]
    show distI (if (lieS t ρ (hdA D) (t.1 3)).1 i = -1 then t.2 4 i else shB t i ((lieS t ρ (hdA D) (t.1 3)).1 i).toNatClampNeg) (t.2 6 i) = _
    rw [el]
    unfold shC
    rcases pl_cases (D i) with ⟨y, z⟩ | ⟨u, z, y⟩
    · rw [if_pos y, if_pos z]
    · rw [y, if_neg (fun e => absurd (nI_pos (n := u) (by omega)) (by rw [e]; decide)), if_neg (by omega), nI_clamp (by omega), show D i - 1 = u by omega]
  have es : ∀ m i, i + m ≤ t.1 3 → sumI (farT (nightT t ρ (hdA D))) (i + m) = sumI (farT (nightT t ρ (hdA D))) i + nI (rF t m i (fun j => D (i + j))) := by
    intro m
    induction m with
    | zero => intro i _; show _ = _ + nI 0; rw [nI_0, Int32.add_zero]; rfl
    | succ m ih =>
      intro i hi
      rw [show i + (m + 1) = (i + 1) + m by omega, ih (i + 1) (by omega)]
      show sumI _ i + farT _ i + _ = _
      rw [ef i (by omega), rF, ← nI_add, Int32.add_assoc]
      show _ = sumI _ i + (nI (fn t i (D (i + 0))) + nI (rF t m (i + 1) (fun j => D (i + (j + 1)))))
      rw [rF_congr m (D' := fun j => D (i + (j + 1))) (fun j _ => by rw [show i + 1 + j = i + (j + 1) by omega])]
      rfl
  have := es (t.1 3) 0 (by omega)
  unfold farA
  rw [show (nightT t ρ (hdA D)).1 3 = t.1 3 by rw [night_1, if_neg (by decide)]]
  rw [Nat.zero_add] at this
  rw [this]
  show (0 : Int32) + _ = _
  rw [Int32.zero_add, rF_congr (t.1 3) (D' := D) (fun j _ => by rw [Nat.zero_add])]
section MTO
variable {g : GT} {d : Nat} {h h0 : HP} {t : Tw} {ρ : Option Rl}
theorem m_inN {x : Int32} {lo hi : Int64} {n : Nat} {Q : Int32 → HP → Prop} (L : Lay h) (hlo : lo.toInt = -1) (hhi : hi.toInt = (n : Int) - 1) (hn2 : n < 2 ^ 31) (hy : (x = -1 ∨ ∃ j, j < n ∧ x = nI j) → Q 1 h) (hn : ¬ (x = -1 ∨ IX x n) → Q 0 h) : CallI g mX10_in d [.long x.toInt64, .long lo, .long hi] h Q := by
  refine wX10_in_0 _ _ _ L ?_
  rw [lg_cmp_lt, Int64.lt_iff_toInt_lt, lg_cmp_gt, Int64.lt_iff_toInt_lt, Int32.toInt_toInt64, hlo, hhi]
  have e1 : (-1 : Int32).toInt = -1 := rfl
  by_cases c : x = -1
  · rw [c, e1]
    exact ⟨fun z => by omega, fun _ => ⟨fun z => by omega, fun _ => hy (Or.inl c)⟩⟩
  · have cx : ¬ x.toInt = -1 := fun z => c (Int32.toInt_inj.mp (z.trans e1.symm))
    rcases pk_ix x hn2 with y | y | ⟨j, hj, rfl⟩
    · have hno := hn (fun w => w.elim c (fun w => IX_no (no_idx hn2 (Or.inl y)) w))
      rw [Int32.lt_iff_toInt_lt] at y
      have e0 : (0 : Int32).toInt = 0 := rfl
      exact ⟨fun _ => hno, fun z => by omega⟩
    · have hno := hn (fun w => w.elim c (fun w => IX_no (no_idx hn2 (Or.inr y)) w))
      rw [Int32.le_iff_toInt_le, nI_toInt hn2] at y
      exact ⟨fun _ => hno, fun z => ⟨fun _ => hno, fun z => by omega⟩⟩
    · rw [nI_toInt (by omega)]
      exact ⟨fun z => by omega, fun _ => ⟨fun z => by omega, fun _ => hy (Or.inr ⟨j, hj, rfl⟩)⟩⟩
theorem m_farTonight {code : Nat} {Q : Int32 → HP → Prop} (W : MW h0 ρ t h) (O : MZ h0 ρ t) (c : ¬ t.1 0 = 0) (hb : t.1 4 ≤ 2000) (hc : code < (t.1 2 + 1) ^ t.1 3) (hQ : ∀ h', MW h0 ρ t h' → RM h0 h' → (∀ i, i < t.1 3 → hI h' 292 i = pl (dg (t.1 2 + 1) (t.1 3) code i)) → (∀ i, hI h' 293 i = hI h 293 i) → Q (if rO t (t.1 3) (fun _ => 0) (dg (t.1 2 + 1) (t.1 3) code) = true then nI (rF t (t.1 3) 0 (dg (t.1 2 + 1) (t.1 3) code)) else 100000) h') : CallI g mX10_farTonight (d + 8) [.ref 252, .int (nI code)] h Q := by
  have hB := O.2.1.1
  have hB' := hB
  unfold TB at hB
  have R0 := O.2.2.1
  have hpw : ∀ i, i ≤ 6 → (t.1 2 + 1) ^ i ≤ 46656 := fun i hi => Nat.le_trans (Nat.pow_le_pow_right (by omega) hi) (Nat.le_trans (Nat.pow_le_pow_left (show t.1 2 + 1 ≤ 6 by omega) 6) (by decide))
  have hp1 : ∀ i, 0 < (t.1 2 + 1) ^ i := fun i => Nat.pow_pos (by omega)
  have hcn := hpw (t.1 3) (by omega)
  refine wX10_farTonight_0 _ W.1 ?_
  rw [mS W.2.2.2.1 3 (by omega)]
  refine m_codesOf W.1 W.2.2.2.1 (by omega) ⟨W.1, ?_⟩
  have hD : ∀ i, dg (t.1 2 + 1) (t.1 3) code i ≤ t.1 2 := fun i => Nat.le_of_lt_succ (Nat.mod_lt _ (by omega))
  have hDd : ∀ i, dg (t.1 2 + 1) (t.1 3) code i = code / (t.1 2 + 1) ^ (t.1 3 - 1 - i) % (t.1 2 + 1) := fun i => rfl
  generalize dg (t.1 2 + 1) (t.1 3) code = D at *
  have f1 : FrC (fun x k => x = 252 ∧ k = 48) h (setI h 252 48 1) := FrC.stI ⟨rfl, rfl⟩
  have W1 := W.set f1 (fun x k hx => by unfold AU AF AT; omega) (W.2.2.2.1.to (fun k hk => f1.I (by omega)) (fun r j _ _ => f1.I (by omega))) W.2.2.2.2.1 c
  refine loopN (σ := Unit) (P := fun i _ h' => Sat g mX10_farTonight (d + 8) (0, 0) (qI Q) 18 [.ref 252, .int (nI code), .int (nI ((t.1 2 + 1) ^ (t.1 3 - i))), .int (nI i)] [] h') (I := fun i _ h' => MW h0 ρ t h' ∧ hI h' 252 48 = 1 ∧ (∀ j, j < i → hI h' 286 j = pl (D j)) ∧ (∀ j, j < i → hI h' 292 j = pl (D j)) ∧ ∀ j, hI h' 293 j = hI h 293 j) (t.1 3) (fun _ h' e => ?_) (fun i _ h' hi e ih => ?_) 0 () _ (by omega) ⟨W1, rdI, fun j hj => by omega, fun j hj => by omega, fun j => f1.I (by omega)⟩
  · obtain ⟨W', e48, mu, tr, e93⟩ := e
    have T' := W'.2.2.2.1
    refine wX10_farTonight_18 _ _ _ W'.1 ?_
    rw [mS T' 3 (by omega)]
    refine ⟨fun _ => ?_, fun z => absurd (nI_le (Nat.le_refl _) (by omega)) z⟩
    have M : MuIs h' t (hdA D) := fun x hx => by
      rw [mu x hx]
      refine Or.inr ⟨pl_ne5 (by have := hD x; omega), rfl, ?_⟩
      rcases pl_cases (D x) with ⟨y, -⟩ | ⟨j, y1, y2⟩
      · exact Or.inl y
      · exact Or.inr ⟨j, by have := hD x; omega, y2⟩
    refine m_goesW W' M (by omega) (fun h2 W2 f2 e2 => ⟨W2.1, m_freesAll W2.1 (fun h3 f3 F3 => ?_)⟩)
    have T3 : TD h3 253 (nightT t ρ (hdA D)) := W2.2.2.2.1.to (fun k hk => f3.I (by omega)) (fun r j _ _ => f3.I (by omega))
    have W3 := W2.set f3 (fun x k hx => by unfold AU AF AT; omega) T3 W2.2.2.2.2.1 W2.2.2.2.2.2.2
    have key := held_rO (ρ := ρ) hB' (fun i _ => hD i) (t.1 3) 0 (by omega) (fun j hj => by omega)
    rw [rO_congr (t.1 3) (D' := D) (fun j _ => by rw [Nat.zero_add])] at key
    have key : heldOK t ρ (hdA D) (t.1 3) ↔ rO t (t.1 3) (fun _ => 0) D = true := key
    have fin : ∀ x, x = (if rO t (t.1 3) (fun _ => 0) D = true then nI (rF t (t.1 3) 0 D) else 100000) → CallV g mX10_laysBack (d + 7) (0, 0) [.ref 252] h3 (fun h' => Lay h' ∧ Q x h') := fun x hx => m_backW W3 O c (fun h4 W4 f4 e4 e5 => ⟨W4.1, by
      rw [hx]
      refine hQ h4 W4 ⟨f4, fun q hq => (e4 q).trans (F3 q hq)⟩ (fun i hi => ?_) (fun i => ?_)
      · rw [e5 _ _ (by decide) (by decide), f3.I (by omega), f2.I (by unfold AG; omega)]; exact tr i hi
      · rw [e5 _ _ (by decide) (by decide), f3.I (by omega), f2.I (by unfold AG; omega)]; exact e93 i⟩)
    rw [f3.I (by omega), e2, e48]
    refine ⟨W3.1, fun z => fin _ ?_, fun z => m_allFar W3.1 T3 W3.2.2.2.2.1 ⟨W3.1, fin _ ?_⟩⟩
    · rw [if_neg (fun w => ?_)]
      exact z.elim (by decide) (fun z => z (key.mpr w))
    · have ok : heldOK t ρ (hdA D) (t.1 3) := Classical.byContradiction (fun w => z (Or.inr w))
      rw [if_pos (key.mp ok)]
      exact far_rF R0 hB' (fun i _ => hD i) ok
  · obtain ⟨W', e48, mu, tr, e93⟩ := e
    have T' := W'.2.2.2.1
    refine wX10_farTonight_18 _ _ _ W'.1 ?_
    rw [mS T' 3 (by omega), mS T' 2 (by omega), nI_1, nI_1, pk_div (Nat.lt_of_le_of_lt (hpw (t.1 3 - i) (by omega)) (by decide)) (by omega) (by omega), show (t.1 2 + 1) ^ (t.1 3 - i) / (t.1 2 + 1) = (t.1 2 + 1) ^ (t.1 3 - (i + 1)) by rw [show t.1 3 - i = (t.1 3 - (i + 1)) + 1 by omega, Nat.pow_succ, Nat.mul_div_cancel _ (by omega)]]
    refine ⟨fun z => absurd z (nI_ge hi (by omega)), fun _ => ⟨nI_ne0 (by omega) (by omega), m_placeOf W'.1 T' (hp1 _) (Nat.lt_of_le_of_lt (hpw (t.1 3 - (i + 1)) (by omega)) (by decide)) (by omega) ?_⟩⟩
    rw [show code / (t.1 2 + 1) ^ (t.1 3 - (i + 1)) % (t.1 2 + 1) = D i by rw [hDd, show t.1 3 - (i + 1) = t.1 3 - 1 - i by omega], nI_clamp (n := i) (by omega), rdI]
    refine ⟨W'.1, vn (by omega) (by omega), ?_⟩
    have f2 : FrC (fun x k => x = 286 ∧ k = i ∨ x = 292 ∧ k = i) h' (setI (setI h' 286 i (pl (D i))) 292 i (pl (D i))) := (FrC.stI (by omega)).tr (FrC.stI (by omega))
    have v1 : hI (setI (setI h' 286 i (pl (D i))) 292 i (pl (D i))) 286 i = pl (D i) := (rdn (by omega)).trans rdI
    have v2 : hI (setI (setI h' 286 i (pl (D i))) 292 i (pl (D i))) 292 i = pl (D i) := rdI
    generalize setI (setI h' 286 i (pl (D i))) 292 i (pl (D i)) = h2 at *
    have T2 : TD h2 253 t := T'.to (fun k hk => f2.I (by omega)) (fun r j _ _ => f2.I (by omega))
    have W2 := W'.set f2 (fun x k hx => by unfold AU AF AT; omega) T2 W'.2.2.2.2.1 W'.2.2.2.2.2.2
    refine ih () h2 ⟨W2, (f2.I (by omega)).trans e48, fun j hj => ?_, fun j hj => ?_, fun j => (f2.I (by omega)).trans (e93 j)⟩
    · by_cases z : j = i
      · subst z; exact v1
      · rw [f2.I (by omega)]; exact mu j (by omega)
    · by_cases z : j = i
      · subst z; exact v2
      · rw [f2.I (by omega)]; exact tr j (by omega)
theorem rF_le {D : Nat → Nat} (hR : TR t) : ∀ m i (D : Nat → Nat), i + m = t.1 3 → (∀ j, j < m → D j ≤ t.1 2) → rF t m i D ≤ 99 * m
  | 0, _, _, _, _ => Nat.le_refl _
  | m + 1, i, D, h, hD => by
    have h1 := (fn_rg hR (i := i) (c := D 0) (by omega) (hD 0 (by omega))).1
    have h2 := rF_le (D := D) hR m (i + 1) (fun j => D (j + 1)) (by omega) (fun j hj => hD (j + 1) (by omega))
    rw [rF]
    omega
theorem m_tonight {w : Int32} {Q : Int32 → HP → Prop} (O : MZ h ρ t) (hb : t.1 4 ≤ 2000) (hQ : ∀ h', RM h h' → Q (aTonight t w) h') : CallI g mX10_tonight (d + 9) [.ref 252, .int w] h Q := by
  have no : ¬ (¬ t.1 0 = 0 ∧ (w = -1 ∨ IN w 0 5)) → Q (-3) h := fun c => by
    have := hQ h (RM.rf O.2.2.2.2)
    unfold aTonight at this
    rwa [if_neg c] at this
  have hB := O.2.1.1
  have R0 := O.2.2.1
  unfold TB at hB
  have L := O.1
  refine wX10_tonight_0 _ L (m_city O (fun c => ⟨L, fun z => absurd z (by decide), fun _ => m_inN (n := 6) L rfl rfl (by decide) (fun hw => ⟨L, fun z => absurd z (by decide), fun _ => ?_⟩) (fun z => ⟨L, fun _ => no (fun y => z (y.2.elim Or.inl (fun y => Or.inr ⟨by have := y.2.1; omega, y.2.2⟩))), fun z => absurd rfl z⟩)⟩) (fun z => ⟨L, fun _ => no (fun y => y.1 z), fun z => absurd rfl z⟩))
  have cc : ¬ t.1 0 = 0 ∧ (w = -1 ∨ IN w 0 5) := ⟨c, hw.elim Or.inl (fun ⟨j, hj, e⟩ => Or.inr (by rw [e]; exact IN_j (by omega) (by omega) (by decide)))⟩
  have hpw : (t.1 2 + 1) ^ t.1 3 ≤ 46656 := Nat.le_trans (Nat.pow_le_pow_right (by omega) (show t.1 3 ≤ 6 by omega)) (Nat.le_trans (Nat.pow_le_pow_left (show t.1 2 + 1 ≤ 6 by omega) 6) (by decide))
  rw [mS O.2.1 3 (by omega)]
  refine m_codesOf L O.2.1 (by omega) ⟨L, m_keepW O c (fun h1 W1 F1 r1 => ⟨W1.1, ?_⟩)⟩
  refine loopN (σ := Unit) (P := fun i _ h' => Sat g mX10_tonight (d + 9) (0, 0) (qI Q) 46 [.ref 252, .int w, .int (lvB (foldC (ctF t (t.1 3) 0 (fun _ => 0) 0 (fun _ => 0) (t.1 2 + 1)) i none)), .int (nI ((t.1 2 + 1) ^ t.1 3)), .int (nI i), .double 0] [] h') (I := fun i _ h' => MW h ρ t h' ∧ RM h h' ∧ bOk (foldC (ctF t (t.1 3) 0 (fun _ => 0) 0 (fun _ => 0) (t.1 2 + 1)) i none) ∧ MBs h' (t.1 3) (foldC (ctF t (t.1 3) 0 (fun _ => 0) 0 (fun _ => 0) (t.1 2 + 1)) i none)) ((t.1 2 + 1) ^ t.1 3) (fun _ h' e => ?_) (fun i _ h' hi e ih => ?_) 0 () h1 (by omega) ⟨W1, r1, bOk_none, MBs_none⟩
  · obtain ⟨W, r, ok, mb⟩ := e
    refine wX10_tonight_46 _ _ _ _ W.1 ⟨fun _ => ?_, fun z => absurd (nI_le (Nat.le_refl _) (by omega)) z⟩
    have yes := hQ h' r
    unfold aTonight at yes
    rw [if_pos cc] at yes
    rw [to_cd] at mb ⊢
    have ns := toD_some (t := t) (t.1 3) (i := 0) (oc := fun _ => 0) (far := 0) (tr := fun _ => 0) (b := none)
    unfold toB at yes
    generalize toD t (t.1 3) 0 (fun _ => 0) 0 (fun _ => 0) none = B at *
    cases B with
    | none => exact absurd rfl ns
    | some p =>
      obtain ⟨y, s⟩ := p
      have mb := mb y s rfl
      refine ⟨fun z => ?_, fun z => m_isLodger W.1 W.2.2.2.1 (fun j hj ej => ⟨W.1, fun z => absurd z (by decide), fun _ => ?_⟩) (fun z2 => ⟨W.1, fun _ => ?_, fun z => absurd rfl z⟩)⟩
      · rw [if_pos z] at yes
        exact yes
      · subst ej
        rw [if_neg z, if_pos (IX_j hj (by omega)), nI_clamp (n := j) (by omega)] at yes
        rw [nI_clamp (n := j) (by omega), mb j hj]
        exact ⟨vn (by omega) (by omega), yes⟩
      · rw [if_neg z, if_neg (IX_no z2)] at yes
        exact yes
  · obtain ⟨W, r, ok, mb⟩ := e
    have ih := ih ()
    have efc : foldC (ctF t (t.1 3) 0 (fun _ => 0) 0 (fun _ => 0) (t.1 2 + 1)) (i + 1) none = ctF t (t.1 3) 0 (fun _ => 0) 0 (fun _ => 0) (t.1 2 + 1) i (foldC (ctF t (t.1 3) 0 (fun _ => 0) 0 (fun _ => 0) (t.1 2 + 1)) i none) := rfl
    rw [efc] at ih
    clear efc
    generalize foldC (ctF t (t.1 3) 0 (fun _ => 0) 0 (fun _ => 0) (t.1 2 + 1)) i none = b at *
    refine wX10_tonight_46 _ _ _ _ W.1 ⟨fun z => absurd z (nI_ge hi (by omega)), fun _ => ?_⟩
    refine m_farTonight W O c hb hi (fun h2 W2 r2 e92 e93 => ⟨W2.1, ?_⟩)
    rw [nI_1]
    unfold ctF at ih
    rw [Nat.zero_add] at ih
    have hlv : ∃ m, m ≤ 100000 ∧ lvB b = nI m := by
      cases b with
      | none => exact ⟨100000, by omega, rfl⟩
      | some p =>
        obtain ⟨m, h1, h2⟩ := ok p.1 p.2 rfl
        exact ⟨m, by omega, h2⟩
    have mb2 : MBs h2 (t.1 3) b := fun y s e j hj => (e93 j).trans (mb y s e j hj)
    have hDl : ∀ j, j < t.1 3 → dg (t.1 2 + 1) (t.1 3) i j ≤ t.1 2 := fun j _ => Nat.le_of_lt_succ (Nat.mod_lt _ (by omega))
    have hrl := rF_le (D := dg (t.1 2 + 1) (t.1 3) i) R0 (t.1 3) 0 _ (by omega) hDl
    by_cases co : rO t (t.1 3) (fun _ => 0) (dg (t.1 2 + 1) (t.1 3) i) = true
    · rw [if_pos co] at ih ⊢
      have emg : ∀ j, j < t.1 3 → mg (fun _ => 0) 0 (t.1 3) (dg (t.1 2 + 1) (t.1 3) i) j = pl (dg (t.1 2 + 1) (t.1 3) i j) := fun j hj => by
        unfold mg; rw [if_pos (by omega), Nat.sub_zero]
      have ok' := stB_ok (r := mg (fun _ => 0) 0 (t.1 3) (dg (t.1 2 + 1) (t.1 3) i)) ok ⟨rF t (t.1 3) 0 (dg (t.1 2 + 1) (t.1 3) i), by omega, rfl⟩
      generalize rF t (t.1 3) 0 (dg (t.1 2 + 1) (t.1 3) i) = m at *
      generalize mg (fun _ => 0) 0 (t.1 3) (dg (t.1 2 + 1) (t.1 3) i) = s2 at *
      refine ⟨fun z => ?_, fun z => ?_⟩
      · have est : stB b (nI m) s2 = b := by
          cases b with
          | none => exact absurd z (nI_ge (a := m) (b := 100000) (by omega) (by omega))
          | some p => unfold stB; exact if_neg (Int32.not_lt.mpr z)
        rw [est] at ih
        exact ih h2 ⟨W2, r2, ok, mb2⟩
      · have est : stB b (nI m) s2 = some (nI m, s2) := by
          cases b with
          | none => rfl
          | some p => unfold stB; exact if_pos (Int32.not_le.mp z)
        rw [est] at ih ok'
        refine m_copies (n := 6) W2.1 (Lk W2.1 K_292) (Ln W2.1 N_292) (Lk W2.1 K_293) (Ln W2.1 N_293) (by decide) (by decide) (fun h3 f3 e3 => ⟨f3.lay W2.1, ih h3 ⟨?_, ⟨r2.1.tr (f3.wd (fun x k hx => by unfold AF; omega)), fun x hx => (f3.I (by omega)).trans (r2.2 x hx)⟩, ok', fun y s e j hj => ?_⟩⟩)
        · exact W2.set f3 (fun x k hx => by unfold AU AF AT; omega) (W2.2.2.2.1.to (fun k hk => f3.I (by omega)) (fun r j _ _ => f3.I (by omega))) W2.2.2.2.2.1 c
        · cases e
          rw [e3 j (by omega), e92 j hj, emg j hj]
    · rw [if_neg co] at ih ⊢
      obtain ⟨m, hm, em⟩ := hlv
      exact ⟨fun _ => ih h2 ⟨W2, r2, ok, mb2⟩, fun z => absurd (by rw [em]; exact nI_le (a := m) (b := 100000) (by omega) (by omega)) z⟩
end MTO
