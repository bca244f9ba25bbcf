/-! acts, of the reference -/
def AMs (b x k : Nat) : Prop := (x = 290 ∧ b ≤ k ∧ k < b + 34) ∨ (x = 252 ∧ (k = 52 ∨ k = 53))
def AMb (x k : Nat) : Prop := (x = 253 ∧ k = 4) ∨ ((254 ≤ x ∧ x ≤ 256) ∧ k < 5) ∨ ((x = 257 ∨ x = 260 ∨ x = 261) ∧ k < 6) ∨ (x = 252 ∧ (k = 52 ∨ k = 53))
section MAC
variable {g : GT} {d : Nat} {h : HP} {t : Tw} {ρ : Option Rl} {p : Pst}
theorem m_movesSave {a n q : Nat} {Q : HP → Prop} (L : Lay h) (hk : hK h a = 21) (hn : hN h a = n) (ha : ¬ a = 290) (ha2 : ¬ a = 252) (hp : q + n ≤ 680) (h53 : hI h 252 53 = 0) (h52 : hI h 252 52 = nI q) (hQ : ∀ h', FrC (fun x k => (x = 290 ∧ q ≤ k ∧ k < q + n) ∨ (x = 252 ∧ k = 52)) h h' → hI h' 252 52 = nI (q + n) → (∀ j, j < n → hI h' 290 (q + j) = hI h a j) → Q h') : CallV g mX10_movesRow (d + 1) (0, 0) [.ref 252, .ref a] h Q := by
  refine wX10_movesRow_0 a L ?_
  refine loopN (σ := Unit) (P := fun i _ h' => Sat g mX10_movesRow (d + 1) (0, 0) (qV Q) 2 [.ref 252, .ref a, .int (nI i)] [] h') (I := fun i _ h' => FrC (fun x k => (x = 290 ∧ q ≤ k ∧ k < q + n) ∨ (x = 252 ∧ k = 52)) h h' ∧ hI h' 252 52 = nI (q + i) ∧ ∀ j, j < i → hI h' 290 (q + j) = hI h a j) n (fun _ h' e => ?_) (fun i _ h' hi e ih => ?_) 0 () h (by omega) ⟨FrC.rf h, h52, fun j hj => by omega⟩
  · obtain ⟨f, e1, e2⟩ := e
    refine wX10_movesRow_2 _ _ (f.lay L) ⟨by rw [f.K]; exact hk, ?_⟩
    rw [f.N, hn]
    exact ⟨fun _ => hQ h' f e1 e2, fun c => absurd (nI_le (Nat.le_refl _) (by omega)) c⟩
  · obtain ⟨f, e1, e2⟩ := e
    refine wX10_movesRow_2 _ _ (f.lay L) ⟨by rw [f.K]; exact hk, ?_⟩
    rw [f.N, hn, nI_clamp (n := i) (by omega), f.I (x := a) (by omega)]
    refine ⟨fun c => absurd c (nI_ge hi (by omega)), fun _ => ⟨vn (by omega) (by omega), wX10_moves_0 _ (f.lay L) ?_⟩⟩
    rw [f.I (k := 53) (by omega), h53, e1, nI_clamp (n := q + i) (by omega), nI_1, nI_1]
    refine ⟨fun _ => ⟨vn (by omega) (by omega), ?_⟩, fun c => absurd rfl c⟩
    have f3 : FrC (fun x k => (x = 290 ∧ q ≤ k ∧ k < q + n) ∨ (x = 252 ∧ k = 52)) h (setI (setI h' 290 (q + i) (hI h a i)) 252 52 (nI (q + i + 1))) := f.tr ((FrC.stI (by omega)).tr (FrC.stI (by omega)))
    refine ⟨f3.lay L, by rw [f3.K]; exact hk, by rw [f3.N, hn]; exact vn hi (by omega), ih () _ ⟨f3.sm rfl, ?_, fun j hj => ?_⟩⟩
    · rw [rdn (by omega)]; exact rdI
    · rw [rdn (by omega), rdn (by omega)]
      by_cases c : j = i
      · subst c; exact rdI
      · rw [rdn (by omega)]; exact e2 j (by omega)
theorem m_movesBack {a n q : Nat} {Q : HP → Prop} (L : Lay h) (hk : hK h a = 21) (hn : hN h a = n) (ha : ¬ a = 290) (ha2 : ¬ a = 252) (hp : q + n ≤ 680) (h53 : hI h 252 53 = 1) (h52 : hI h 252 52 = nI q) (hQ : ∀ h', FrC (fun x k => (x = a ∧ k < n) ∨ (x = 252 ∧ k = 52)) h h' → hI h' 252 52 = nI (q + n) → (∀ j, j < n → hI h' a j = hI h 290 (q + j)) → Q h') : CallV g mX10_movesRow (d + 1) (0, 0) [.ref 252, .ref a] h Q := by
  refine wX10_movesRow_0 a L ?_
  refine loopN (σ := Unit) (P := fun i _ h' => Sat g mX10_movesRow (d + 1) (0, 0) (qV Q) 2 [.ref 252, .ref a, .int (nI i)] [] h') (I := fun i _ h' => FrC (fun x k => (x = a ∧ k < n) ∨ (x = 252 ∧ k = 52)) h h' ∧ hI h' 252 52 = nI (q + i) ∧ ∀ j, j < i → hI h' a j = hI h 290 (q + j)) n (fun _ h' e => ?_) (fun i _ h' hi e ih => ?_) 0 () h (by omega) ⟨FrC.rf h, h52, fun j hj => by omega⟩
  · obtain ⟨f, e1, e2⟩ := e
    refine wX10_movesRow_2 _ _ (f.lay L) ⟨by rw [f.K]; exact hk, ?_⟩
    rw [f.N, hn]
    exact ⟨fun _ => hQ h' f e1 e2, fun c => absurd (nI_le (Nat.le_refl _) (by omega)) c⟩
  · obtain ⟨f, e1, e2⟩ := e
    refine wX10_movesRow_2 _ _ (f.lay L) ⟨by rw [f.K]; exact hk, ?_⟩
    rw [f.N, hn, nI_clamp (n := i) (by omega)]
    refine ⟨fun c => absurd c (nI_ge hi (by omega)), fun _ => ⟨vn (by omega) (by omega), wX10_moves_0 _ (f.lay L) ?_⟩⟩
    rw [f.I (k := 53) (by omega), h53, e1, nI_clamp (n := q + i) (by omega), nI_1, nI_1, f.I (x := 290) (k := q + i) (by omega)]
    refine ⟨fun c => absurd c (by decide), fun _ => ⟨vn (by omega) (by omega), ?_⟩⟩
    have f3 : FrC (fun x k => (x = a ∧ k < n) ∨ (x = 252 ∧ k = 52)) h (setI (setI h' 290 (q + i) (hI h 290 (q + i))) 252 52 (nI (q + i + 1))) := (f.sm rfl).tr (FrC.stI (by omega))
    refine ⟨f3.lay L, by rw [f3.K]; exact hk, by rw [f3.N, hn]; exact vn hi (by omega), ih () _ ⟨f3.tr (FrC.stI (by omega)), ?_, fun j hj => ?_⟩⟩
    · rw [rdn (by omega)]; exact rdI
    · by_cases c : j = i
      · subst c; exact rdI
      · rw [rdn (by omega), rdn (by omega), rdn (by omega)]; exact e2 j (by omega)
theorem m_movesAllS {m b : Nat} {Q : HP → Prop} (L : Lay h) (hm : m < 20) (hb : b = 34 * m) (hQ : ∀ h', FrC (AMs b) h h' → hI h' 290 b = hI h 253 4 → (∀ j, j < 5 → hI h' 290 (b + 1 + j) = hI h 254 j ∧ hI h' 290 (b + 6 + j) = hI h 255 j ∧ hI h' 290 (b + 11 + j) = hI h 256 j) → (∀ j, j < 6 → hI h' 290 (b + 16 + j) = hI h 257 j ∧ hI h' 290 (b + 22 + j) = hI h 260 j ∧ hI h' 290 (b + 28 + j) = hI h 261 j) → Q h') : CallV g mX10_movesAll (d + 2) (0, 0) [.ref 252, .int (nI m), .int 0] h Q := by
  refine wX10_movesAll_0 _ _ L ⟨rfl, ?_⟩
  rw [n34', ← hb]
  have f0 : FrC (fun x k => x = 252 ∧ (k = 52 ∨ k = 53)) h (setI (setI h 252 52 (nI b)) 252 53 0) := (FrC.stI (by omega)).tr (FrC.stI (by omega))
  have a52 : hI (setI (setI h 252 52 (nI b)) 252 53 0) 252 52 = nI b := rfl
  have a53 : hI (setI (setI h 252 52 (nI b)) 252 53 0) 252 53 = 0 := rfl
  generalize setI (setI h 252 52 (nI b)) 252 53 0 = h0 at *
  have L0 := f0.lay L
  refine wX10_moves_0 _ L0 ?_
  rw [a52, a53, nI_clamp (n := b) (by omega), nI_1]
  refine ⟨fun _ => ⟨vn (by omega) (by omega), ?_⟩, fun c => absurd rfl c⟩
  have f1 : FrC (fun x k => (x = 290 ∧ k = b) ∨ (x = 252 ∧ k = 52)) h0 (setI (setI (setI h0 290 b (hI h 253 4)) 252 52 (nI (b + 1))) 253 4 (hI h 253 4)) := ((FrC.stI (by omega)).tr (FrC.stI (by omega))).sm (f0.I (by omega)).symm
  have w0 : hI (setI (setI (setI h0 290 b (hI h 253 4)) 252 52 (nI (b + 1))) 253 4 (hI h 253 4)) 290 b = hI h 253 4 := by rw [rdn (by omega), rdn (by omega), rdI]
  have p1 : hI (setI (setI (setI h0 290 b (hI h 253 4)) 252 52 (nI (b + 1))) 253 4 (hI h 253 4)) 252 52 = nI (b + 1) := by rw [rdn (by omega), rdI]
  refine ⟨(f1.lay L0), ?_⟩
  generalize setI (setI (setI h0 290 b (hI h 253 4)) 252 52 (nI (b + 1))) 253 4 (hI h 253 4) = h1 at *
  have L1 := f1.lay L0
  have k1 : hI h1 252 53 = 0 := (f1.I (by omega)).trans a53
  refine m_movesSave (n := 5) (q := b + 1) L1 (Lk L1 K_254) (Ln L1 N_254) (by decide) (by decide) (by omega) k1 p1 (fun h2 f2 p2 v2 => ?_)
  have L2 := f2.lay L1
  have k2 : hI h2 252 53 = 0 := (f2.I (by omega)).trans k1
  refine ⟨L2, ?_⟩
  refine m_movesSave (n := 5) (q := b + 6) L2 (Lk L2 K_255) (Ln L2 N_255) (by decide) (by decide) (by omega) k2 p2 (fun h3 f3 p3 v3 => ?_)
  have L3 := f3.lay L2
  have k3 : hI h3 252 53 = 0 := (f3.I (by omega)).trans k2
  refine ⟨L3, ?_⟩
  refine m_movesSave (n := 5) (q := b + 11) L3 (Lk L3 K_256) (Ln L3 N_256) (by decide) (by decide) (by omega) k3 p3 (fun h4 f4 p4 v4 => ?_)
  have L4 := f4.lay L3
  have k4 : hI h4 252 53 = 0 := (f4.I (by omega)).trans k3
  refine ⟨L4, ?_⟩
  refine m_movesSave (n := 6) (q := b + 16) L4 (Lk L4 K_257) (Ln L4 N_257) (by decide) (by decide) (by omega) k4 p4 (fun h5 f5 p5 v5 => ?_)
  have L5 := f5.lay L4
  have k5 : hI h5 252 53 = 0 := (f5.I (by omega)).trans k4
  refine ⟨L5, ?_⟩
  refine m_movesSave (n := 6) (q := b + 22) L5 (Lk L5 K_260) (Ln L5 N_260) (by decide) (by decide) (by omega) k5 p5 (fun h6 f6 p6 v6 => ?_)
  have L6 := f6.lay L5
  have k6 : hI h6 252 53 = 0 := (f6.I (by omega)).trans k5
  refine ⟨L6, ?_⟩
  refine m_movesSave (n := 6) (q := b + 28) L6 (Lk L6 K_261) (Ln L6 N_261) (by decide) (by decide) (by omega) k6 p6 (fun h7 f7 p7 v7 => ?_)
  have L7 := f7.lay L6
  refine ⟨L7, ?_⟩
  refine hQ h7 ((((((((f0.wd (fun x k hx => by unfold AMs; omega)).tr (f1.wd (fun x k hx => by unfold AMs; omega))).tr (f2.wd (fun x k hx => by unfold AMs; omega))).tr (f3.wd (fun x k hx => by unfold AMs; omega))).tr (f4.wd (fun x k hx => by unfold AMs; omega))).tr (f5.wd (fun x k hx => by unfold AMs; omega))).tr (f6.wd (fun x k hx => by unfold AMs; omega))).tr (f7.wd (fun x k hx => by unfold AMs; omega))) ?_ (fun j hj => ⟨?_, ?_, ?_⟩) (fun j hj => ⟨?_, ?_, ?_⟩)
  · rw [f7.I (by omega), f6.I (by omega), f5.I (by omega), f4.I (by omega), f3.I (by omega), f2.I (by omega)]; exact w0
  · rw [f7.I (by omega), f6.I (by omega), f5.I (by omega), f4.I (by omega), f3.I (by omega), v2 j (by omega), f1.I (by omega), f0.I (by omega)]
  · rw [f7.I (by omega), f6.I (by omega), f5.I (by omega), f4.I (by omega), v3 j (by omega), f2.I (by omega), f1.I (by omega), f0.I (by omega)]
  · rw [f7.I (by omega), f6.I (by omega), f5.I (by omega), v4 j (by omega), f3.I (by omega), f2.I (by omega), f1.I (by omega), f0.I (by omega)]
  · rw [f7.I (by omega), f6.I (by omega), v5 j (by omega), f4.I (by omega), f3.I (by omega), f2.I (by omega), f1.I (by omega), f0.I (by omega)]
  · rw [f7.I (by omega), v6 j (by omega), f5.I (by omega), f4.I (by omega), f3.I (by omega), f2.I (by omega), f1.I (by omega), f0.I (by omega)]
  · rw [v7 j (by omega), f6.I (by omega), f5.I (by omega), f4.I (by omega), f3.I (by omega), f2.I (by omega), f1.I (by omega), f0.I (by omega)]
theorem m_movesAllB {m b : Nat} {Q : HP → Prop} (L : Lay h) (hm : m < 20) (hb : b = 34 * m) (hQ : ∀ h', FrC AMb h h' → hI h' 253 4 = hI h 290 b → (∀ j, j < 5 → hI h' 254 j = hI h 290 (b + 1 + j) ∧ hI h' 255 j = hI h 290 (b + 6 + j) ∧ hI h' 256 j = hI h 290 (b + 11 + j)) → (∀ j, j < 6 → hI h' 257 j = hI h 290 (b + 16 + j) ∧ hI h' 260 j = hI h 290 (b + 22 + j) ∧ hI h' 261 j = hI h 290 (b + 28 + j)) → Q h') : CallV g mX10_movesAll (d + 2) (0, 0) [.ref 252, .int (nI m), .int 1] h Q := by
  refine wX10_movesAll_0 _ _ L ⟨rfl, ?_⟩
  rw [n34', ← hb]
  have f0 : FrC (fun x k => x = 252 ∧ (k = 52 ∨ k = 53)) h (setI (setI h 252 52 (nI b)) 252 53 1) := (FrC.stI (by omega)).tr (FrC.stI (by omega))
  have a52 : hI (setI (setI h 252 52 (nI b)) 252 53 1) 252 52 = nI b := rfl
  have a53 : hI (setI (setI h 252 52 (nI b)) 252 53 1) 252 53 = 1 := rfl
  generalize setI (setI h 252 52 (nI b)) 252 53 1 = h0 at *
  have L0 := f0.lay L
  refine wX10_moves_0 _ L0 ?_
  rw [a52, a53, nI_clamp (n := b) (by omega), nI_1]
  refine ⟨fun c => absurd c (by decide), fun _ => ⟨vn (by omega) (by omega), ?_⟩⟩
  have f1 : FrC (fun x k => (x = 253 ∧ k = 4) ∨ (x = 252 ∧ k = 52)) h0 (setI (setI (setI h0 290 b (hI h0 290 b)) 252 52 (nI (b + 1))) 253 4 (hI h0 290 b)) := (((FrC.rf h0).sm rfl).tr (FrC.stI (by omega))).tr (FrC.stI (by omega))
  have w0 : hI (setI (setI (setI h0 290 b (hI h0 290 b)) 252 52 (nI (b + 1))) 253 4 (hI h0 290 b)) 253 4 = hI h 290 b := by rw [rdI]; exact f0.I (by omega)
  have p1 : hI (setI (setI (setI h0 290 b (hI h0 290 b)) 252 52 (nI (b + 1))) 253 4 (hI h0 290 b)) 252 52 = nI (b + 1) := by rw [rdn (by omega), rdI]
  refine ⟨(f1.lay L0), ?_⟩
  generalize setI (setI (setI h0 290 b (hI h0 290 b)) 252 52 (nI (b + 1))) 253 4 (hI h0 290 b) = h1 at *
  have L1 := f1.lay L0
  have k1 : hI h1 252 53 = 1 := (f1.I (by omega)).trans a53
  refine m_movesBack (n := 5) (q := b + 1) L1 (Lk L1 K_254) (Ln L1 N_254) (by decide) (by decide) (by omega) k1 p1 (fun h2 f2 p2 v2 => ?_)
  have L2 := f2.lay L1
  have k2 : hI h2 252 53 = 1 := (f2.I (by omega)).trans k1
  refine ⟨L2, ?_⟩
  refine m_movesBack (n := 5) (q := b + 6) L2 (Lk L2 K_255) (Ln L2 N_255) (by decide) (by decide) (by omega) k2 p2 (fun h3 f3 p3 v3 => ?_)
  have L3 := f3.lay L2
  have k3 : hI h3 252 53 = 1 := (f3.I (by omega)).trans k2
  refine ⟨L3, ?_⟩
  refine m_movesBack (n := 5) (q := b + 11) L3 (Lk L3 K_256) (Ln L3 N_256) (by decide) (by decide) (by omega) k3 p3 (fun h4 f4 p4 v4 => ?_)
  have L4 := f4.lay L3
  have k4 : hI h4 252 53 = 1 := (f4.I (by omega)).trans k3
  refine ⟨L4, ?_⟩
  refine m_movesBack (n := 6) (q := b + 16) L4 (Lk L4 K_257) (Ln L4 N_257) (by decide) (by decide) (by omega) k4 p4 (fun h5 f5 p5 v5 => ?_)
  have L5 := f5.lay L4
  have k5 : hI h5 252 53 = 1 := (f5.I (by omega)).trans k4
  refine ⟨L5, ?_⟩
  refine m_movesBack (n := 6) (q := b + 22) L5 (Lk L5 K_260) (Ln L5 N_260) (by decide) (by decide) (by omega) k5 p5 (fun h6 f6 p6 v6 => ?_)
  have L6 := f6.lay L5
  have k6 : hI h6 252 53 = 1 := (f6.I (by omega)).trans k5
  refine ⟨L6, ?_⟩
  refine m_movesBack (n := 6) (q := b + 28) L6 (Lk L6 K_261) (Ln L6 N_261) (by decide) (by decide) (by omega) k6 p6 (fun h7 f7 p7 v7 => ?_)
  have L7 := f7.lay L6
  refine ⟨L7, ?_⟩
  refine hQ h7 ((((((((f0.wd (fun x k hx => by unfold AMb; omega)).tr (f1.wd (fun x k hx => by unfold AMb; omega))).tr (f2.wd (fun x k hx => by unfold AMb; omega))).tr (f3.wd (fun x k hx => by unfold AMb; omega))).tr (f4.wd (fun x k hx => by unfold AMb; omega))).tr (f5.wd (fun x k hx => by unfold AMb; omega))).tr (f6.wd (fun x k hx => by unfold AMb; omega))).tr (f7.wd (fun x k hx => by unfold AMb; omega))) ?_ (fun j hj => ⟨?_, ?_, ?_⟩) (fun j hj => ⟨?_, ?_, ?_⟩)
  · rw [f7.I (by omega), f6.I (by omega), f5.I (by omega), f4.I (by omega), f3.I (by omega), f2.I (by omega)]; exact w0
  · rw [f7.I (by omega), f6.I (by omega), f5.I (by omega), f4.I (by omega), f3.I (by omega), v2 j (by omega), f1.I (by omega), f0.I (by omega)]
  · rw [f7.I (by omega), f6.I (by omega), f5.I (by omega), f4.I (by omega), v3 j (by omega), f2.I (by omega), f1.I (by omega), f0.I (by omega)]
  · rw [f7.I (by omega), f6.I (by omega), f5.I (by omega), v4 j (by omega), f3.I (by omega), f2.I (by omega), f1.I (by omega), f0.I (by omega)]
  · rw [f7.I (by omega), f6.I (by omega), v5 j (by omega), f4.I (by omega), f3.I (by omega), f2.I (by omega), f1.I (by omega), f0.I (by omega)]
  · rw [f7.I (by omega), v6 j (by omega), f5.I (by omega), f4.I (by omega), f3.I (by omega), f2.I (by omega), f1.I (by omega), f0.I (by omega)]
  · rw [v7 j (by omega), f6.I (by omega), f5.I (by omega), f4.I (by omega), f3.I (by omega), f2.I (by omega), f1.I (by omega), f0.I (by omega)]
end MAC
