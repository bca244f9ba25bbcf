/-! the reference's NIGHT -/
theorem lieS_s {t : Tw} {ρ : Option Rl} {hd : Hd} {q : Nat} {x : Int32} (hx : (mayT t (lieS t ρ hd q).2 (goT t ρ hd (lieS t ρ hd q).2 q) ∧ x = goT t ρ hd (lieS t ρ hd q).2 q) ∨ (¬ mayT t (lieS t ρ hd q).2 (goT t ρ hd (lieS t ρ hd q).2 q) ∧ x = -1)) : lieS t ρ hd (q + 1) = (up1 (lieS t ρ hd q).1 q x, if x = -1 then (lieS t ρ hd q).2 else up1 (lieS t ρ hd q).2 x.toNatClampNeg ((lieS t ρ hd q).2 x.toNatClampNeg + 1)) := by
  rcases hx with ⟨c, e⟩ | ⟨c, e⟩
  · rw [lieS_y c, ← e, if_neg]
    intro e2
    rw [← e, e2] at c
    exact absurd c.1 (by decide)
  · rw [lieS_n c, e, if_pos rfl]
theorem bestB_may {t : Tw} {oc : Nat → Nat} {F : Nat → Int64} (hb2 : t.1 2 ≤ 5) : ∀ n, n ≤ t.1 2 → (bestB (okT t oc) F n).1 = -1 ∨ mayT t oc (bestB (okT t oc) F n).1
  | 0, _ => Or.inl rfl
  | n + 1, hn => by
    unfold bestB
    split
    · next c => exact Or.inr ((may_j hb2 (by omega)).mpr c.1)
    · exact bestB_may hb2 n (by omega)
def MRl (g : GT) (d : Nat) (h : HP) (ρ : Option Rl) : Prop := match ρ with
  | none => hI h 253 7 = -1
  | some w => ¬ hI h 253 7 = -1 ∧ ∀ (h' : HP) (env : Nat → Int64) (QJ : Int64 → HP → Prop), (∀ x k, (277 ≤ x ∧ x ≤ 282) ∨ (x = 253 ∧ k = 7) → hI h' x k = hI h x k) → Lay h' → (∀ k, k < 12 → hJ h' 284 k = env k) → (∀ h'', FrC (fun x _ => x = 285) h' h'' → QJ (w env) h'') → CallJ g mX10_wanted d [.ref 252] h' QJ
theorem MRl.to {g : GT} {d : Nat} {h h1 : HP} {ρ : Option Rl} (hr : MRl g d h ρ) (hs : ∀ x k, (277 ≤ x ∧ x ≤ 282) ∨ (x = 253 ∧ k = 7) → hI h1 x k = hI h x k) : MRl g d h1 ρ := by
  cases ρ with
  | none =>
    show hI h1 253 7 = -1
    rw [hs 253 7 (by omega)]; exact hr
  | some w =>
    refine ⟨by rw [hs 253 7 (by omega)]; exact hr.1, fun h' env QJ h2 L e k => hr.2 h' env QJ (fun x k hx => (h2 x k hx).trans (hs x k hx)) L e k⟩
def MuIs (h : HP) (t : Tw) (hd : Hd) : Prop := ∀ q, q < t.1 3 → (hI h 286 q = -5 ∧ hd q = none) ∨ (¬ hI h 286 q = -5 ∧ hd q = some (hI h 286 q) ∧ (hI h 286 q = -1 ∨ ∃ j, j < t.1 2 ∧ hI h 286 q = nI j))
section MN
variable {g : GT} {d : Nat} {h : HP} {t : Tw} {ρ : Option Rl} {hd : Hd} {oc : Nat → Nat}
theorem m_isRoom {j : Nat} {Q : Int32 → HP → Prop} (L : Lay h) (T : TD h 253 t) (hj : j < 5) (hO : hI h 288 j = nI (oc j)) (hob : oc j ≤ 6) (hQ : Q (if oc j < t.1 1 then 1 else 0) h) : CallI g mX10_isRoom d [.ref 252, .int (nI j)] h Q := by
  have hB := T.1
  unfold TB at hB
  refine wX10_isRoom_0 (nI j) L ⟨vn (by omega) (by omega), ?_⟩
  rw [nI_clamp (by omega), mS T 1 (by omega), hO, nI_leI (by omega) (by omega)]
  refine ⟨fun c => ?_, fun c => ?_⟩
  · rw [if_neg (by omega)] at hQ; exact hQ
  · rw [if_pos (by omega)] at hQ; exact hQ
theorem m_likes {q b : Nat} {QJ : Int64 → HP → Prop} (L : Lay h) (T : TD h 253 t) (R : TR t) (hq : q < t.1 3) (hb : b < t.1 2) (hO : hI h 288 b = nI (oc b)) (hr : MRl g d h ρ) (hQ : ∀ h'', FrC (fun x _ => x = 284 ∨ x = 285) h h'' → QJ (worthT t ρ oc q b) h'') : CallJ g mX10_likes (d + 2) [.ref 252, .int (nI q), .int (nI b)] h QJ := by
  have hB := T.1
  unfold TB at hB
  refine wX10_likes_0 (nI q) (nI b) L ?_
  rw [nI_clamp (by omega), mLa T hq]
  cases ρ with
  | none =>
    have hr : hI h 253 7 = -1 := hr
    refine ⟨fun _ => ⟨vn (by omega) (by omega), ?_⟩, fun c => absurd hr c⟩
    have hQ := hQ h (FrC.rf h)
    unfold worthT at hQ
    refine ⟨fun c => ?_, fun c => ?_⟩
    · simp only [if_pos c] at hQ; exact hQ
    · simp only [if_neg c] at hQ; exact hQ
  | some w =>
    refine ⟨fun c => absurd c hr.1, fun _ => ?_⟩
    refine wX10_sumOf_0 (nI q) (nI b) L ⟨vn (by omega) (by omega), vn (by omega) (by omega), ?_⟩
    rw [nI_clamp (n := q) (by omega), nI_clamp (n := b) (by omega), mLa T hq, mSh T hq, mBo T hq, mWa T hq, mHo T hb, mUn T hb, mSt T hb, mS T 1 (by omega), hO]
    have go : ∀ (v9 : Int64) (h1 : HP), v9 = (if t.2 7 q = nI b then 1 else 0) → h1 = (setJ (setJ (setJ (setJ (setJ (setJ (setJ (setJ (setJ (setJ h 284 0 (nI q).toInt64) 284 1 (nI b).toInt64) 284 2 (t.2 4 q).toInt64) 284 3 (t.2 5 q).toInt64) 284 4 (t.2 6 q).toInt64) 284 5 (t.2 1 b).toInt64) 284 6 (t.2 2 b).toInt64) 284 7 (t.2 3 b).toInt64) 284 8 (nI (t.1 1) - nI (oc b)).toInt64) 284 9 v9) → CallI g mX10_differ d [Value.int (t.2 4 q), .int (t.2 1 b)] h1 (fun i h2 => Lay h2 ∧ CallJ g mX10_wanted d [Value.ref 252] (setJ (setJ h2 284 10 i.toInt64) 284 11 (hI h2 253 4).toInt64) (fun j h3 => Lay h3 ∧ Lay h3 ∧ QJ j h3)) := by
      intro v9 h1 e9 e1
      have L1 : Lay h1 := by rw [e1]; exact L
      refine m_differ L1 (R.2.2 q hq).1 (R.2.1 b hb).1 ⟨L1, ?_⟩
      have e4 : hI h1 253 4 = nI (t.1 4) := by rw [e1]; exact mS T 4 (by omega)
      rw [e4]
      have f1 : FrC (fun x _ => x = 284 ∨ x = 285) h h1 := by
        rw [e1]
        exact (((((((((FrC.stJ (Or.inl rfl)).tr (FrC.stJ (Or.inl rfl))).tr (FrC.stJ (Or.inl rfl))).tr (FrC.stJ (Or.inl rfl))).tr (FrC.stJ (Or.inl rfl))).tr (FrC.stJ (Or.inl rfl))).tr (FrC.stJ (Or.inl rfl))).tr (FrC.stJ (Or.inl rfl))).tr (FrC.stJ (Or.inl rfl))).tr (FrC.stJ (Or.inl rfl))
      refine hr.2 _ (envT t oc q b) _ (fun x k hx => ?_) L1 (fun k hk => ?_) (fun h'' f => ⟨f.lay L1, f.lay L1, ?_⟩)
      · show hI h1 x k = _
        exact f1.I (by omega)
      · rw [e1, e9]
        rcases (show k = 0 ∨ k = 1 ∨ k = 2 ∨ k = 3 ∨ k = 4 ∨ k = 5 ∨ k = 6 ∨ k = 7 ∨ k = 8 ∨ k = 9 ∨ k = 10 ∨ k = 11 by omega) with rfl | rfl | rfl | rfl | rfl | rfl | rfl | rfl | rfl | rfl | rfl | rfl <;> rfl
      · exact hQ h'' (((f1.tr (FrC.stJ (Or.inl rfl))).tr (FrC.stJ (Or.inl rfl))).tr (f.wd (fun x _ hx => Or.inr hx)))
    refine ⟨fun c => ?_, fun c => ?_⟩
    · exact go 1 _ (by rw [if_pos c]) rfl
    · exact go 0 _ (by rw [if_neg c]) rfl
/-- what choice answers -/
def chT (t : Tw) (ρ : Option Rl) (hd : Hd) (oc : Nat → Nat) (q : Nat) (x : Int32) : Prop := (mayT t oc (goT t ρ hd oc q) ∧ x = goT t ρ hd oc q) ∨ (¬ mayT t oc (goT t ρ hd oc q) ∧ x = -1)
theorem m_choice {q : Nat} {Q : Int32 → HP → Prop} (L : Lay h) (T : TD h 253 t) (R : TR t) (hM : MuIs h t hd) (hq : q < t.1 3) (hO : ∀ j, j < t.1 2 → hI h 288 j = nI (oc j)) (hob : ∀ j, oc j ≤ 6) (hr : MRl g d h ρ) (hQ : ∀ x h', chT t ρ hd oc q x → FrC (fun x k => x = 284 ∨ x = 285 ∨ (x = 252 ∧ k = 48)) h h' → (hI h' 252 48 = 0 ↔ (hI h 252 48 = 0 ∨ ∃ y, hd q = some y ∧ ¬ x = y)) → Q x h') : CallI g mX10_choice (d + 3) [.ref 252, .int (nI q)] h Q := by
  have hB := T.1
  unfold TB at hB
  refine wX10_choice_0 (nI q) L ⟨vn (by omega) (by omega), ?_⟩
  rw [nI_clamp (n := q) (by omega)]
  rcases hM q hq with ⟨m1, m2⟩ | ⟨m1, m2, m3⟩
  · refine ⟨fun _ => ?_, fun c => absurd m1 c⟩
    have eg : goT t ρ hd oc q = pickT t ρ oc q := by unfold goT; rw [m2]
    refine loopN (σ := Unit) (P := fun i _ h' => Sat g mX10_choice (d + 3) (0, 0) _ 82 [.ref 252, .int (nI q), .int (bestB (okT t oc) (worthT t ρ oc q) i).1, .long (bestB (okT t oc) (worthT t ρ oc q) i).2, .double 0, .int (nI i), .double 0, .double 0] [] h') (I := fun _ _ h' => FrC (fun x _ => x = 284 ∨ x = 285) h h') (t.1 2) (fun _ h' f => ?_) (fun i _ h' hi f ih => ?_) 0 () h (by omega) (FrC.rf h)
    · have L' := f.lay L
      have T' := T.fr f (fun k hk => by omega) (fun r j h1 h2 => by omega)
      refine wX10_choice_82 _ _ _ _ L' ?_
      rw [mS T' 2 (by omega)]
      refine ⟨fun _ => hQ _ h' ?_ (f.wd (fun x k hx => by omega)) ?_, fun c => absurd (nI_le (Nat.le_refl _) (by omega)) c⟩
      · show chT t ρ hd oc q (pickT t ρ oc q)
        unfold chT
        rw [eg]
        rcases bestB_may (t := t) (oc := oc) (F := worthT t ρ oc q) (by omega) (t.1 2) (Nat.le_refl _) with c | c
        · refine Or.inr ⟨fun w => ?_, c⟩
          have e : pickT t ρ oc q = -1 := c
          rw [e] at w
          exact absurd w.1 (by decide)
        · exact Or.inl ⟨c, rfl⟩
      · rw [f.I (by omega)]
        constructor
        · exact fun w => Or.inl w
        · rintro (w | ⟨y, w, -⟩)
          · exact w
          · rw [m2] at w; exact absurd w (by simp)
    · have L' := f.lay L
      have T' := T.fr f (fun k hk => by omega) (fun r j h1 h2 => by omega)
      have hO' : hI h' 288 i = nI (oc i) := by rw [f.I (by omega)]; exact hO i hi
      refine wX10_choice_82 _ _ _ _ L' ?_
      rw [mS T' 2 (by omega), nI_1]
      refine ⟨fun c => absurd c (nI_ge hi (by omega)), fun _ => m_isRoom L' T' (by omega) hO' (hob i) ⟨L', ?_⟩⟩
      have ih := ih ()
      have bs : bestB (okT t oc) (worthT t ρ oc q) (i + 1) = if okT t oc i = true ∧ (bestB (okT t oc) (worthT t ρ oc q) i).2 < worthT t ρ oc q i then (nI i, worthT t ρ oc q i) else bestB (okT t oc) (worthT t ρ oc q) i := rfl
      rw [bs] at ih
      by_cases c : oc i < t.1 1
      · rw [if_pos c]
        have hok : okT t oc i = true := by simp [okT, c]
        refine ⟨fun w => absurd w (by decide), fun _ => m_likes L' T' R hq hi hO' (hr.to (fun x k hx => f.I (by omega))) (fun h2 f2 => ⟨f2.lay L', fun w => ?_, fun w => ?_⟩)⟩
        · rw [lgc_le] at w
          have ih := ih h2 (f.tr f2)
          rw [if_neg (fun z => w z.2)] at ih
          exact ih
        · rw [lgc_le] at w
          have ih := ih h2 (f.tr f2)
          rw [if_pos ⟨hok, Classical.byContradiction w⟩] at ih
          exact ih
      · rw [if_neg c]
        have hok : ¬ okT t oc i = true := by simp [okT, c]
        refine ⟨fun _ => ?_, fun w => absurd rfl w⟩
        have ih := ih h' f
        rw [if_neg (fun z => hok z.1)] at ih
        exact ih
  · refine ⟨fun c => absurd c m1, fun _ => ?_⟩
    have eg : goT t ρ hd oc q = hI h 286 q := by unfold goT; rw [m2]
    have set : ∀ v : Int32, FrC (fun x k => x = 284 ∨ x = 285 ∨ (x = 252 ∧ k = 48)) h (setI h 252 48 v) := fun v => FrC.stI (by omega)
    refine ⟨fun c => ?_, fun c => ?_⟩
    · have ch : chT t ρ hd oc q (hI h 286 q) := by
        unfold chT
        rw [eg, c]
        exact Or.inr ⟨fun w => absurd w.1 (by decide), rfl⟩
      refine ⟨fun z => hQ _ _ ch (set _) ?_, fun z => hQ _ _ ch (set _) ?_⟩
      · rw [rdI]
        exact ⟨fun _ => Or.inl z, fun _ => rfl⟩
      · rw [rdI]
        refine ⟨fun w => absurd w (by decide), fun w => ?_⟩
        rcases w with w | ⟨y, w, w2⟩
        · exact absurd w z
        · rw [m2] at w
          exact absurd (Option.some.inj w) w2
    · obtain ⟨j, hj, ej⟩ := m3.resolve_left c
      have hmay : mayT t oc (hI h 286 q) ↔ oc j < t.1 1 := by
        rw [ej, may_j (by omega) hj]
        simp [okT]
      rw [ej]
      refine m_isRoom L T (by omega) (hO j hj) (hob j) ⟨L, ?_⟩
      by_cases r : oc j < t.1 1
      · rw [if_pos r]
        have ch : chT t ρ hd oc q (hI h 286 q) := by
          unfold chT
          rw [eg]
          exact Or.inl ⟨hmay.mpr r, rfl⟩
        refine ⟨fun w => absurd w (by decide), fun _ => ⟨fun z => ?_, fun z => ?_⟩⟩
        · refine hQ _ _ ch (set _) ?_
          rw [rdI]
          exact ⟨fun _ => Or.inl z, fun _ => rfl⟩
        · refine hQ _ _ ch (set _) ?_
          rw [rdI]
          refine ⟨fun w => absurd w (by decide), fun w => ?_⟩
          rcases w with w | ⟨y, w, w2⟩
          · exact absurd w z
          · rw [m2] at w
            exact absurd (Option.some.inj w) w2
      · rw [if_neg r]
        have ch : chT t ρ hd oc q (-1) := by
          unfold chT
          rw [eg]
          exact Or.inr ⟨fun w => r (hmay.mp w), rfl⟩
        have fin : hI (setI h 252 48 0) 252 48 = 0 ↔ hI h 252 48 = 0 ∨ ∃ y, hd q = some y ∧ ¬ (-1 : Int32) = y := by
          rw [rdI]
          exact ⟨fun _ => Or.inr ⟨_, m2, fun w => c w.symm⟩, fun _ => rfl⟩
        exact ⟨fun _ => ⟨fun z => hQ _ _ ch (set _) fin, fun z => hQ _ _ ch (set _) fin⟩, fun w => absurd rfl w⟩
end MN
theorem lie_cnt {t : Tw} {ρ : Option Rl} {hd : Hd} (hb2 : t.1 2 ≤ 5) {j : Nat} (hj : j < 5) : ∀ q, (lieS t ρ hd q).2 j = cntB (onT (lieS t ρ hd q).1 j) q
  | 0 => rfl
  | q + 1 => by
    have ih := lie_cnt (t := t) (ρ := ρ) (hd := hd) hb2 hj q
    have cg : ∀ x : Int32, cntB (onT (up1 (lieS t ρ hd q).1 q x) j) q = cntB (onT (lieS t ρ hd q).1 j) q := by
      intro x
      have : ∀ (f f' : Nat → Bool) n, (∀ i, i < n → f i = f' i) → cntB f n = cntB f' n := by
        intro f f' n
        induction n with
        | zero => intro _; rfl
        | succ n ih => intro h; unfold cntB; rw [ih (fun i hi => h i (by omega)), h n (by omega)]
      exact this _ _ q (fun i hi => by unfold onT; rw [up1_lt hi])
    have cs : ∀ (f : Nat → Bool), cntB f (q + 1) = if f q = true then cntB f q + 1 else cntB f q := fun _ => rfl
    by_cases c : mayT t (lieS t ρ hd q).2 (goT t ρ hd (lieS t ρ hd q).2 q)
    · rw [lieS_y c]
      obtain ⟨j0, h1, h2, h3⟩ := (mayT_iff hb2).mp c
      show up1 _ _ _ j = cntB (onT (up1 _ _ _) j) (q + 1)
      rw [cs, cg, h2, nI_clamp (by omega), show onT (up1 (lieS t ρ hd q).1 q (nI j0)) j q = decide (nI j0 = nI j) from by unfold onT; rw [up1_at]]
      by_cases e : j = j0
      · subst e; rw [up1_at]; simp [ih]
      · have : ¬ nI j0 = nI j := fun w => e ((nI_eq (by omega) (by omega)).mp w).symm
        simp [up1, e, this, ih]
    · rw [lieS_n c]
      show (lieS t ρ hd q).2 j = cntB (onT (up1 _ _ _) j) (q + 1)
      have : ¬ (-1 : Int32) = nI j := fun w => neg1_ne (by omega) w.symm
      rw [cs, cg, show onT (up1 (lieS t ρ hd q).1 q (-1)) j q = decide ((-1 : Int32) = nI j) from by unfold onT; rw [up1_at]]
      simp [this, ih]
def AS (t : Tw) (x k : Nat) : Prop := ((x = 254 ∨ x = 255) ∧ k < t.1 2) ∨ ((x = 257 ∨ x = 260 ∨ x = 261) ∧ k < t.1 3) ∨ x = 289
section MS
variable {g : GT} {d : Nat} {h : HP} {t : Tw} {l : Nat → Int32}
theorem sumB_s (f : Nat → Bool) (s : Nat → Int32) (n : Nat) : sumB f s (n + 1) = if f n = true then sumB f s n + s n else sumB f s n := rfl
theorem m_shapesAll {Q : HP → Prop} (L : Lay h) (T : TD h 253 t) (R : TR t) (hc : ¬ t.1 0 = 0) (hl : LOK t l) (hL : ∀ i, i < t.1 3 → hI h 287 i = l i) (hO : ∀ j, j < t.1 2 → hI h 288 j = nI (cntB (onT l j) (t.1 3))) (hS : ∀ j, j < t.1 2 → hI h 289 j = 0) (hQ : ∀ h', FrC (AS t) h h' → TD h' 253 (cardT (shapeT t l)) → Q h') : CallV g mX10_shapesAll d (0, 0) [.ref 252] h Q := by
  have hB := T.1
  unfold TB at hB
  refine wX10_shapesAll_0 L ?_
  refine loopN (σ := Unit) (P := fun i _ h' => Sat g mX10_shapesAll d (0, 0) _ 2 [.ref 252, .int (nI i)] [] h') (I := fun i _ h' => FrC (AS t) h h' ∧ TD h' 253 (shapeP t l i 0) ∧ ∀ j, j < t.1 2 → hI h' 289 j = sumB (onT l j) (t.2 4) i) (t.1 3) (fun _ h' hi => ?_) (fun i _ h' hi e ih => ?_) 0 () h (by omega) ⟨FrC.rf h, T.congr (fun _ _ => rfl) (fun r j _ => by simp [shapeP]), hS⟩
  · obtain ⟨f, T', S'⟩ := hi
    refine wX10_shapesAll_2 _ (f.lay L) ?_
    rw [show hI h' 253 3 = nI (t.1 3) from mS T' 3 (by omega)]
    refine ⟨fun _ => ?_, fun q => absurd (nI_le (Nat.le_refl _) (by omega)) q⟩
    refine loopN (σ := Unit) (P := fun i _ h' => Sat g mX10_shapesAll d (0, 0) _ 106 [.ref 252, .int (nI i)] [] h') (I := fun i _ h2 => FrC (fun x k => (x = 254 ∨ x = 255) ∧ k < t.1 2) h' h2 ∧ TD h2 253 (t.1, fun r j => if (r = 1 ∨ r = 2) ∧ i ≤ j then t.2 r j else (cardT (shapeT t l)).2 r j)) (t.1 2) (fun _ h2 hi => ?_) (fun b _ h2 hb e ih => ?_) 0 () h' (by omega) ⟨FrC.rf h', T'.congr (fun _ _ => rfl) (fun r j hr => ?_)⟩
    · obtain ⟨f2, T2⟩ := hi
      refine wX10_shapesAll_106 _ (f2.lay (f.lay L)) ?_
      rw [show hI h2 253 2 = nI (t.1 2) from mS T2 2 (by omega)]
      refine ⟨fun _ => hQ h2 (f.tr (f2.wd (fun x k hx => by unfold AS; omega))) (T2.congr (fun k hk => by rw [cardT_1]; rfl) (fun r j hr => ?_)), fun q => absurd (nI_le (Nat.le_refl _) (by omega)) q⟩
      show _ = if _ then _ else _
      have hr : (1 ≤ r ∧ r ≤ 3 ∧ j < t.1 2) ∨ (4 ≤ r ∧ r ≤ 8 ∧ j < t.1 3) := hr
      rw [if_neg (by omega)]
    · obtain ⟨f2, T2⟩ := e
      have L2 := f2.lay (f.lay L)
      have b1 : hI h2 254 b = t.2 1 b := by rw [mHo T2 hb]; simp
      have b2 : hI h2 255 b = t.2 2 b := by rw [mUn T2 hb]; simp
      have b3 : hI h2 256 b = t.2 3 b := by
        rw [mSt T2 hb]
        simp
        rw [cardT_n (by omega)]
        rfl
      have o8 : hI h2 288 b = nI (cntB (onT l b) (t.1 3)) := by rw [f2.I (by omega), f.I (by unfold AS; omega)]; exact hO b hb
      have o9 : hI h2 289 b = sumB (onT l b) (t.2 4) (t.1 3) := by rw [f2.I (by omega)]; exact S' b hb
      have hcl := cntB_le (onT l b) (t.1 3)
      obtain ⟨-, -, nst, hs1, hs9, est⟩ := R.2.1 b hb
      have s0 : ¬ t.2 3 b = 0 := by rw [est]; exact nI_ne0 (by omega) (by omega)
      have due : (nI (t.1 4) - nI (t.1 4) / nI (t.1 0) * nI (t.1 0) = nI (t.1 0) - 1) ↔ dueT (shapeT t l) := by
        obtain ⟨p, hp⟩ : ∃ p, t.1 0 = p + 1 := ⟨t.1 0 - 1, by omega⟩
        have hm := Nat.mod_lt (t.1 4) (show 0 < p + 1 by omega)
        rw [pk_rem (by omega) (by omega) (by omega), hp, nI_pred, nI_eq (by omega) (by omega)]
        show _ ↔ 1 ≤ t.1 0 ∧ t.1 4 % t.1 0 = t.1 0 - 1
        rw [hp]
        omega
      refine wX10_shapesAll_106 _ L2 ?_
      rw [show hI h2 253 2 = nI (t.1 2) from mS T2 2 (by omega), nI_1, nI_clamp (n := b) (by omega), show hI h2 253 4 = nI (t.1 4) from mS T2 4 (by omega), show hI h2 253 0 = nI (t.1 0) from mS T2 0 (by omega), b1, b2, b3, o8, o9]
      have e0 : nI (t.1 0) = nI (t.1 0) := rfl
      have fin : ∀ h3, FrC (fun x k => (x = 254 ∨ x = 255) ∧ k < t.1 2) h2 h3 → (∀ j, j < t.1 2 → ¬ j = b → hI h3 254 j = hI h2 254 j ∧ hI h3 255 j = hI h2 255 j) → hI h3 254 b = (cardT (shapeT t l)).2 1 b → hI h3 255 b = (cardT (shapeT t l)).2 2 b → Sat g mX10_shapesAll d (0, 0) (fun r h' => match r with
          | none => Q h'
          | _ => False) 106 [.ref 252, .int (nI (b + 1))] [] h3 := by
        intro h3 f3 o1 v1 v2
        refine ih () h3 ⟨f2.tr f3, hB, fun k hk => ?_, fun r j hr => ?_⟩
        · rw [f3.I (by omega)]; exact T2.2.1 k hk
        · have hr0 : (1 ≤ r ∧ r ≤ 3 ∧ j < t.1 2) ∨ (4 ≤ r ∧ r ≤ 8 ∧ j < t.1 3) := hr
          show _ = if _ then _ else _
          have old := T2.2.2 r j hr
          by_cases c1 : r = 1
          · subst c1
            by_cases c2 : j = b
            · subst c2; rw [if_neg (by omega)]; exact v1
            · have : hI h3 (253 + 1) j = hI h2 (253 + 1) j := (o1 j (by omega) c2).1
              rw [this, old]
              have e : (b + 1 ≤ j) = (b ≤ j) := by apply propext; omega
              simp [e]
          · by_cases c4 : r = 2
            · subst c4
              by_cases c2 : j = b
              · subst c2; rw [if_neg (by omega)]; exact v2
              · have : hI h3 (253 + 2) j = hI h2 (253 + 2) j := (o1 j (by omega) c2).2
                rw [this, old]
                have e : (b + 1 ≤ j) = (b ≤ j) := by apply propext; omega
                simp [e]
            · rw [f3.I (by omega), old]
              simp [c1, c4]
      have sh1 : (shapeT t l).2 1 b = if cntB (onT l b) (t.1 3) = 0 then t.2 1 b else t.2 1 b + (sumB (onT l b) (t.2 4) (t.1 3) / nI (cntB (onT l b) (t.1 3)) - t.2 1 b) / t.2 3 b := rfl
      have sh2 : (shapeT t l).2 2 b = t.2 2 b := rfl
      have n0 : ¬ nI (t.1 0) = 0 := nI_ne0 (by omega) (by omega)
      refine ⟨fun q => absurd q (nI_ge hb (by omega)), fun _ => ⟨vn (by omega) (by omega), fun z => ⟨n0, fun w => ?_, fun w => ?_⟩, fun z => ⟨?_, s0, n0, fun w => ?_, fun w => ?_⟩⟩⟩
      · have z0 : cntB (onT l b) (t.1 3) = 0 := by
          rcases Nat.eq_zero_or_pos (cntB (onT l b) (t.1 3)) with c | c
          · exact c
          · exact absurd z (nI_nle c (by omega))
        rw [if_pos z0] at sh1
        refine fin _ ((FrC.stI (by omega)).tr (FrC.stI (by omega))) (fun j hj c => ⟨?_, ?_⟩) ?_ ?_
        · rw [rdn (by omega), rdn (by omega)]
        · rw [rdn (by omega), rdn (by omega)]
        · rw [rdn (by omega), rdI, cardT_y ⟨due.mp w, Or.inl rfl, hb⟩, sh1]
        · rw [rdI, cardT_y ⟨due.mp w, Or.inr rfl, hb⟩, sh2]
      · have z0 : cntB (onT l b) (t.1 3) = 0 := by
          rcases Nat.eq_zero_or_pos (cntB (onT l b) (t.1 3)) with c | c
          · exact c
          · exact absurd z (nI_nle c (by omega))
        rw [if_pos z0] at sh1
        refine fin h2 (FrC.rf h2) (fun j hj c => ⟨rfl, rfl⟩) ?_ ?_
        · rw [b1, cardT_n (fun q => w (due.mpr q.1)), sh1]
        · rw [b2, cardT_n (fun q => w (due.mpr q.1)), sh2]
      · exact fun q => z (by rw [q]; decide)
      · have z0 : ¬ cntB (onT l b) (t.1 3) = 0 := fun q => z (by rw [q]; decide)
        rw [if_neg z0] at sh1
        simp only [rdI]
        refine fin _ (((FrC.stI (by omega)).tr (FrC.stI (by omega))).tr (FrC.stI (by omega))) (fun j hj c => ⟨?_, ?_⟩) ?_ ?_
        · rw [rdn (by omega), rdn (by omega), rdn (by omega)]
        · rw [rdn (by omega), rdn (by omega), rdn (by omega)]
        · rw [rdn (by omega), rdI, cardT_y ⟨due.mp w, Or.inl rfl, hb⟩, sh1]
        · rw [rdI, cardT_y ⟨due.mp w, Or.inr rfl, hb⟩, sh2]
      · have z0 : ¬ cntB (onT l b) (t.1 3) = 0 := fun q => z (by rw [q]; decide)
        rw [if_neg z0] at sh1
        refine fin _ (FrC.stI (by omega)) (fun j hj c => ⟨?_, ?_⟩) ?_ ?_
        · rw [rdn (by omega)]
        · rw [rdn (by omega)]
        · rw [rdI, cardT_n (fun q => w (due.mpr q.1)), sh1]
        · rw [rdn (by omega), b2, cardT_n (fun q => w (due.mpr q.1)), sh2]
    · have hr : (1 ≤ r ∧ r ≤ 3 ∧ j < t.1 2) ∨ (4 ≤ r ∧ r ≤ 8 ∧ j < t.1 3) := hr
      show (if _ then _ else _) = if _ then _ else _
      rcases (show r = 1 ∨ r = 2 ∨ r = 3 ∨ r = 4 ∨ r = 5 ∨ r = 6 ∨ r = 7 ∨ r = 8 by omega) with rfl | rfl | rfl | rfl | rfl | rfl | rfl | rfl
      · simp
      · simp
      · rw [if_neg (by omega), if_neg (by omega), cardT_n (by omega)]; rfl
      · rw [if_neg (by omega), if_pos (by omega), cardT_n (by omega)]
      · rw [if_neg (by omega), if_neg (by omega), cardT_n (by omega)]; rfl
      · rw [if_neg (by omega), if_neg (by omega), cardT_n (by omega)]; rfl
      · rw [if_neg (by omega), if_pos (by omega), cardT_n (by omega)]
      · rw [if_neg (by omega), if_pos (by omega), cardT_n (by omega)]
  · obtain ⟨f, T', S'⟩ := e
    have L' := f.lay L
    have l7 : hI h' 287 i = l i := by rw [f.I (by unfold AS; omega)]; exact hL i hi
    have u4 : hI h' 257 i = t.2 4 i := by rw [mSh T' hi]; simp [shapeP]
    have u5 : hI h' 258 i = t.2 5 i := by rw [mBo T' hi]; simp [shapeP]
    have u8 : hI h' 261 i = t.2 8 i := by rw [mNi T' hi]; simp [shapeP]
    obtain ⟨-, ⟨nb, hb1, hb9, ebo⟩, -⟩ := R.2.2 i hi
    refine wX10_shapesAll_2 _ L' ?_
    rw [show hI h' 253 3 = nI (t.1 3) from mS T' 3 (by omega), nI_1, nI_clamp (n := i) (by omega), l7, u4, u5, u8]
    refine ⟨fun q => absurd q (nI_ge hi (by omega)), fun _ => ⟨vn (by omega) (by omega), fun c => ?_, fun c => ?_⟩⟩
    · refine ih () _ ⟨f.tr (FrC.stI (by unfold AS; omega)), (T'.set 7 i (l i) (by omega) (by omega)).congr (fun _ _ => rfl) (fun r j hr => ?_), fun j hj => ?_⟩
      · show (if _ then _ else _) = up2 (shapeP t l i 0).2 7 i (l i) r j
        unfold up2 shapeP
        by_cases c2 : j = i
        · subst c2
          by_cases c4 : r = 4
          · subst c4; simp [shapeT, c]
          · by_cases c7 : r = 7
            · subst c7; simp [shapeT]
            · by_cases c8 : r = 8
              · subst c8; simp [shapeT, c]
              · simp [c4, c7, c8]
        · have e : (j < i + 1) = (j < i) := by apply propext; omega
          simp [c2, e]
      · rw [rdn (by omega), S' j hj, sumB_s, if_neg]
        unfold onT
        rw [c]
        simp only [decide_eq_true_eq]
        exact fun w => neg1_ne (by omega) w.symm
    · obtain ⟨j0, hj0, ej⟩ := (hl i hi).resolve_left c
      rw [ej, nI_clamp (n := j0) (by omega)]
      have h1 : hI h' 254 j0 = t.2 1 j0 := by rw [mHo T' hj0]; simp [shapeP]
      rw [h1, S' j0 hj0]
      refine ⟨vn (by omega) (by omega), by rw [ebo]; exact nI_ne0 (by omega) (by omega), ?_⟩
      refine ih () _ ⟨f.tr ((((FrC.stI (by unfold AS; omega)).tr (FrC.stI (by unfold AS; omega))).tr (FrC.stI (by unfold AS; omega))).tr (FrC.stI (by unfold AS; omega))), ?_, fun j hj => ?_⟩
      · have T1 : TD (setI h' 289 j0 (sumB (onT l j0) (t.2 4) i + t.2 4 i)) 253 (shapeP t l i 0) := T'.to (fun k hk => rdn (by omega)) (fun r j _ _ => rdn (by omega))
        refine (((T1.set 4 i _ (by omega) (by omega)).set 8 i _ (by omega) (by omega)).set 7 i _ (by omega) (by omega)).congr (fun _ _ => rfl) (fun r j hr => ?_)
        show (if _ then _ else _) = up2 (up2 (up2 (shapeP t l i 0).2 4 i _) 8 i _) 7 i _ r j
        unfold up2 shapeP
        by_cases c2 : j = i
        · subst c2
          by_cases c4 : r = 4
          · subst c4; simp [shapeT, c, ej, shB, nI_clamp (n := j0) (show j0 < 2 ^ 31 by omega)]
            exact fun w => absurd (ej.trans w) c
          · by_cases c7 : r = 7
            · subst c7; simp [shapeT, ej]
            · by_cases c8 : r = 8
              · subst c8; simp [shapeT, c]
              · simp [c4, c7, c8]
        · have e : (j < i + 1) = (j < i) := by apply propext; omega
          simp [c2, e]
      · rw [rdn (by omega), rdn (by omega), rdn (by omega), sumB_s]
        by_cases e : j = j0
        · subst e
          rw [rdI, if_pos]
          unfold onT
          rw [ej]
          simp
        · rw [rdn (by omega), S' j hj, if_neg]
          unfold onT
          rw [ej]
          simp only [decide_eq_true_eq]
          exact fun w => e ((nI_eq (by omega) (by omega)).mp w).symm
end MS
