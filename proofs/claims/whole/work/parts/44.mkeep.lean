/-! the reference keeps all and lays it back -/
def AT (x k : Nat) : Prop := (x = 253 ∧ k < 8) ∨ ((254 ≤ x ∧ x ≤ 256) ∧ k < 5) ∨ ((x = 257 ∨ x = 260 ∨ x = 261) ∧ k < 6)
def AF (x k : Nat) : Prop := (x = 252 ∧ (k = 48 ∨ k = 63 ∨ k = 64)) ∨ (284 ≤ x ∧ x ≤ 289) ∨ (292 ≤ x ∧ x ≤ 298) ∨ (x = 299 ∧ 3600 ≤ k)
def AU (x k : Nat) : Prop := AF x k ∨ AT x k
def SvS (h0 h : HP) : Prop := (∀ j, j < 8 → hI h 299 (3600 + j) = hI h0 253 j) ∧ (∀ j, j < 5 → hI h 299 (3608 + j) = hI h0 254 j) ∧ (∀ j, j < 5 → hI h 299 (3613 + j) = hI h0 255 j) ∧ (∀ j, j < 5 → hI h 299 (3618 + j) = hI h0 256 j) ∧ (∀ j, j < 6 → hI h 299 (3623 + j) = hI h0 257 j) ∧ (∀ j, j < 6 → hI h 299 (3629 + j) = hI h0 260 j) ∧ (∀ j, j < 6 → hI h 299 (3635 + j) = hI h0 261 j)
theorem SvS.to {h0 h h' : HP} (s : SvS h0 h) (e : ∀ k, 3600 ≤ k → hI h' 299 k = hI h 299 k) : SvS h0 h' := ⟨fun j hj => by rw [e _ (by omega)]; exact s.1 j hj, fun j hj => by rw [e _ (by omega)]; exact s.2.1 j hj, fun j hj => by rw [e _ (by omega)]; exact s.2.2.1 j hj, fun j hj => by rw [e _ (by omega)]; exact s.2.2.2.1 j hj, fun j hj => by rw [e _ (by omega)]; exact s.2.2.2.2.1 j hj, fun j hj => by rw [e _ (by omega)]; exact s.2.2.2.2.2.1 j hj, fun j hj => by rw [e _ (by omega)]; exact s.2.2.2.2.2.2 j hj⟩
section CA
variable {g : GT} {d : Nat} {h : HP}
theorem m_carrySave {a n p : Nat} {Q : HP → Prop} (L : Lay h) (hk : hK h a = 21) (hn : hN h a = n) (ha : ¬ a = 299) (ha2 : ¬ a = 252) (hp : p + n ≤ 4500) (h64 : hI h 252 64 = 0) (h63 : hI h 252 63 = nI p) (hQ : ∀ h', FrC (fun x k => (x = 299 ∧ p ≤ k ∧ k < p + n) ∨ (x = 252 ∧ k = 63)) h h' → hI h' 252 63 = nI (p + n) → (∀ j, j < n → hI h' 299 (p + j) = hI h a j) → Q h') : CallV g mX10_carryRow d (0, 0) [.ref 252, .ref a] h Q := by
  refine wX10_carryRow_0 a L ?_
  refine loopN (σ := Unit) (P := fun i _ h' => Sat g mX10_carryRow d (0, 0) (qV Q) 2 [.ref 252, .ref a, .int (nI i)] [] h') (I := fun i _ h' => FrC (fun x k => (x = 299 ∧ p ≤ k ∧ k < p + n) ∨ (x = 252 ∧ k = 63)) h h' ∧ hI h' 252 63 = nI (p + i) ∧ ∀ j, j < i → hI h' 299 (p + j) = hI h a j) n (fun _ h' e => ?_) (fun i _ h' hi e ih => ?_) 0 () h (by omega) ⟨FrC.rf h, h63, fun j hj => by omega⟩
  · obtain ⟨f, e1, e2⟩ := e
    refine wX10_carryRow_2 _ _ (f.lay L) ⟨by rw [f.K]; exact hk, fun _ => hQ h' f e1 e2, fun c => absurd ?_ c⟩
    rw [f.N, hn]
    exact nI_le (Nat.le_refl _) (by omega)
  · obtain ⟨f, e1, e2⟩ := e
    refine wX10_carryRow_2 _ _ (f.lay L) ⟨by rw [f.K]; exact hk, ?_⟩
    rw [f.N, hn, f.I (k := 64) (by omega), h64, e1, nI_clamp (n := p + i) (by omega), nI_clamp (n := i) (by omega), nI_1, nI_1]
    refine ⟨fun c => absurd c (nI_ge hi (by omega)), fun _ => ⟨fun _ => ⟨vn hi (by omega), vn (by omega) (by omega), ?_⟩, fun c => absurd rfl c⟩⟩
    refine ih () _ ⟨f.tr ((FrC.stI (by omega)).tr (FrC.stI (by omega))), rdI, fun j hj => ?_⟩
    rw [rdn (by omega)]
    by_cases c : j = i
    · subst c; rw [rdI]; exact f.I (by omega)
    · rw [rdn (by omega)]; exact e2 j (by omega)
theorem m_carryBack {a n p : Nat} {Q : HP → Prop} (L : Lay h) (hk : hK h a = 21) (hn : hN h a = n) (ha : ¬ a = 299) (ha2 : ¬ a = 252) (hp : p + n ≤ 4500) (h64 : hI h 252 64 = 1) (h63 : hI h 252 63 = nI p) (hQ : ∀ h', FrC (fun x k => (x = a ∧ k < n) ∨ (x = 252 ∧ k = 63)) h h' → hI h' 252 63 = nI (p + n) → (∀ j, j < n → hI h' a j = hI h 299 (p + j)) → Q h') : CallV g mX10_carryRow d (0, 0) [.ref 252, .ref a] h Q := by
  refine wX10_carryRow_0 a L ?_
  refine loopN (σ := Unit) (P := fun i _ h' => Sat g mX10_carryRow d (0, 0) (qV Q) 2 [.ref 252, .ref a, .int (nI i)] [] h') (I := fun i _ h' => FrC (fun x k => (x = a ∧ k < n) ∨ (x = 252 ∧ k = 63)) h h' ∧ hI h' 252 63 = nI (p + i) ∧ ∀ j, j < i → hI h' a j = hI h 299 (p + j)) n (fun _ h' e => ?_) (fun i _ h' hi e ih => ?_) 0 () h (by omega) ⟨FrC.rf h, h63, fun j hj => by omega⟩
  · obtain ⟨f, e1, e2⟩ := e
    refine wX10_carryRow_2 _ _ (f.lay L) ⟨by rw [f.K]; exact hk, fun _ => hQ h' f e1 e2, fun c => absurd ?_ c⟩
    rw [f.N, hn]
    exact nI_le (Nat.le_refl _) (by omega)
  · obtain ⟨f, e1, e2⟩ := e
    have key := wX10_carryRow_2 (g := g) (d := d) (b := (0, 0)) (Q := qV Q) a (nI i) (f.lay L)
    rw [f.N, hn, f.I (k := 64) (by omega), h64, rdn (by omega), e1, nI_clamp (n := p + i) (by omega), nI_clamp (n := i) (by omega), nI_1, nI_1] at key
    refine key ⟨by rw [f.K]; exact hk, fun c => absurd c (nI_ge hi (by omega)), fun _ => ⟨fun c => absurd c (by decide), fun _ => ⟨vn (by omega) (by omega), vn hi (by omega), ?_⟩⟩⟩
    refine ih () _ ⟨f.tr ((FrC.stI (by omega)).tr (FrC.stI (by omega))), rdI, fun j hj => ?_⟩
    rw [rdn (by omega)]
    by_cases c : j = i
    · subst c; rw [rdI]; exact f.I (by omega)
    · rw [rdn (by omega)]; exact e2 j (by omega)
theorem m_keepsAll {Q : HP → Prop} (L : Lay h) (hQ : ∀ h', FrC AF h h' → SvS h h' → (∀ q, hI h' 286 q = hI h 286 q) → Q h') : CallV g mX10_keepsAll (d + 2) (0, 0) [.ref 252] h Q := by
  refine wX10_keepsAll_0 L (wX10_carriesAll_0 4 0 L ⟨rfl, ?_⟩)
  rw [show (900 : Int32) * 4 = nI 3600 from rfl]
  have f0 : FrC (fun x k => x = 252 ∧ (k = 63 ∨ k = 64)) h (setI (setI h 252 63 (nI 3600)) 252 64 0) := (FrC.stI (by omega)).tr (FrC.stI (by omega))
  have g0 : hI (setI (setI h 252 63 (nI 3600)) 252 64 0) 252 63 = nI 3600 := rfl
  have k0 : hI (setI (setI h 252 63 (nI 3600)) 252 64 0) 252 64 = 0 := rfl
  generalize setI (setI h 252 63 (nI 3600)) 252 64 0 = h0 at *
  have L0 := f0.lay L
  refine m_carrySave (n := 8) (p := 3600) L0 (Lk L0 K_253) (Ln L0 N_253) (by decide) (by decide) (by decide) k0 g0 (fun h1 f1 g1 v1 => ?_)
  have L1 := f1.lay L0
  have k1 : hI h1 252 64 = 0 := (f1.I (by omega)).trans k0
  refine ⟨L1, ?_⟩
  refine m_carrySave (n := 5) (p := 3608) L1 (Lk L1 K_254) (Ln L1 N_254) (by decide) (by decide) (by decide) k1 g1 (fun h2 f2 g2 v2 => ?_)
  have L2 := f2.lay L1
  have k2 : hI h2 252 64 = 0 := (f2.I (by omega)).trans k1
  refine ⟨L2, ?_⟩
  refine m_carrySave (n := 5) (p := 3613) L2 (Lk L2 K_255) (Ln L2 N_255) (by decide) (by decide) (by decide) k2 g2 (fun h3 f3 g3 v3 => ?_)
  have L3 := f3.lay L2
  have k3 : hI h3 252 64 = 0 := (f3.I (by omega)).trans k2
  refine ⟨L3, ?_⟩
  refine m_carrySave (n := 5) (p := 3618) L3 (Lk L3 K_256) (Ln L3 N_256) (by decide) (by decide) (by decide) k3 g3 (fun h4 f4 g4 v4 => ?_)
  have L4 := f4.lay L3
  have k4 : hI h4 252 64 = 0 := (f4.I (by omega)).trans k3
  refine ⟨L4, ?_⟩
  refine m_carrySave (n := 6) (p := 3623) L4 (Lk L4 K_257) (Ln L4 N_257) (by decide) (by decide) (by decide) k4 g4 (fun h5 f5 g5 v5 => ?_)
  have L5 := f5.lay L4
  have k5 : hI h5 252 64 = 0 := (f5.I (by omega)).trans k4
  refine ⟨L5, ?_⟩
  refine m_carrySave (n := 6) (p := 3629) L5 (Lk L5 K_260) (Ln L5 N_260) (by decide) (by decide) (by decide) k5 g5 (fun h6 f6 g6 v6 => ?_)
  have L6 := f6.lay L5
  have k6 : hI h6 252 64 = 0 := (f6.I (by omega)).trans k5
  refine ⟨L6, ?_⟩
  refine m_carrySave (n := 6) (p := 3635) L6 (Lk L6 K_261) (Ln L6 N_261) (by decide) (by decide) (by decide) k6 g6 (fun h7 f7 g7 v7 => ?_)
  have L7 := f7.lay L6
  have k7 : hI h7 252 64 = 0 := (f7.I (by omega)).trans k6
  refine ⟨L7, ?_⟩
  refine ⟨fun _ => ⟨L7, hQ h7 ?_ ?_ ?_⟩, fun c => absurd rfl c⟩
  · refine ((((((f0.wd ?_).tr (f1.wd ?_)).tr (f2.wd ?_)).tr (f3.wd ?_)).tr (f4.wd ?_)).tr (f5.wd ?_)).tr (f6.wd ?_) |>.tr (f7.wd ?_) <;> (intro x k hx; unfold AF; omega)
  · refine ⟨?_, ?_, ?_, ?_, ?_, ?_, ?_⟩
    · intro j hj
      rw [f7.I (by omega), f6.I (by omega), f5.I (by omega), f4.I (by omega), f3.I (by omega), f2.I (by omega), v1 j hj, f0.I (by omega)]
    · intro j hj
      rw [f7.I (by omega), f6.I (by omega), f5.I (by omega), f4.I (by omega), f3.I (by omega), v2 j hj, f1.I (by omega), f0.I (by omega)]
    · intro j hj
      rw [f7.I (by omega), f6.I (by omega), f5.I (by omega), f4.I (by omega), v3 j hj, f2.I (by omega), f1.I (by omega), f0.I (by omega)]
    · intro j hj
      rw [f7.I (by omega), f6.I (by omega), f5.I (by omega), v4 j hj, f3.I (by omega), f2.I (by omega), f1.I (by omega), f0.I (by omega)]
    · intro j hj
      rw [f7.I (by omega), f6.I (by omega), v5 j hj, f4.I (by omega), f3.I (by omega), f2.I (by omega), f1.I (by omega), f0.I (by omega)]
    · intro j hj
      rw [f7.I (by omega), v6 j hj, f5.I (by omega), f4.I (by omega), f3.I (by omega), f2.I (by omega), f1.I (by omega), f0.I (by omega)]
    · intro j hj
      rw [v7 j hj, f6.I (by omega), f5.I (by omega), f4.I (by omega), f3.I (by omega), f2.I (by omega), f1.I (by omega), f0.I (by omega)]
  · intro q
    rw [f7.I (by omega), f6.I (by omega), f5.I (by omega), f4.I (by omega), f3.I (by omega), f2.I (by omega), f1.I (by omega), f0.I (by omega)]
theorem m_laysBack {h0 : HP} {Q : HP → Prop} (L : Lay h) (fr : FrC AU h0 h) (sv : SvS h0 h) (hQ : ∀ h', FrC AF h0 h' → SvS h0 h' → (∀ q, hI h' 286 q = hI h 286 q) → (∀ x k, 290 ≤ x → x ≤ 298 → hI h' x k = hI h x k) → Q h') : CallV g mX10_laysBack (d + 2) (0, 0) [.ref 252] h Q := by
  refine wX10_laysBack_0 L (wX10_carriesAll_0 4 1 L ⟨rfl, ?_⟩)
  rw [show (900 : Int32) * 4 = nI 3600 from rfl]
  have f0 : FrC (fun x k => x = 252 ∧ (k = 63 ∨ k = 64)) h (setI (setI h 252 63 (nI 3600)) 252 64 1) := (FrC.stI (by omega)).tr (FrC.stI (by omega))
  have g0 : hI (setI (setI h 252 63 (nI 3600)) 252 64 1) 252 63 = nI 3600 := rfl
  have k0 : hI (setI (setI h 252 63 (nI 3600)) 252 64 1) 252 64 = 1 := rfl
  generalize setI (setI h 252 63 (nI 3600)) 252 64 1 = b0 at *
  have L0 := f0.lay L
  refine m_carryBack (n := 8) (p := 3600) L0 (Lk L0 K_253) (Ln L0 N_253) (by decide) (by decide) (by decide) k0 g0 (fun b1 f1 g1 v1 => ?_)
  have L1 := f1.lay L0
  have k1 : hI b1 252 64 = 1 := (f1.I (by omega)).trans k0
  refine ⟨L1, ?_⟩
  refine m_carryBack (n := 5) (p := 3608) L1 (Lk L1 K_254) (Ln L1 N_254) (by decide) (by decide) (by decide) k1 g1 (fun b2 f2 g2 v2 => ?_)
  have L2 := f2.lay L1
  have k2 : hI b2 252 64 = 1 := (f2.I (by omega)).trans k1
  refine ⟨L2, ?_⟩
  refine m_carryBack (n := 5) (p := 3613) L2 (Lk L2 K_255) (Ln L2 N_255) (by decide) (by decide) (by decide) k2 g2 (fun b3 f3 g3 v3 => ?_)
  have L3 := f3.lay L2
  have k3 : hI b3 252 64 = 1 := (f3.I (by omega)).trans k2
  refine ⟨L3, ?_⟩
  refine m_carryBack (n := 5) (p := 3618) L3 (Lk L3 K_256) (Ln L3 N_256) (by decide) (by decide) (by decide) k3 g3 (fun b4 f4 g4 v4 => ?_)
  have L4 := f4.lay L3
  have k4 : hI b4 252 64 = 1 := (f4.I (by omega)).trans k3
  refine ⟨L4, ?_⟩
  refine m_carryBack (n := 6) (p := 3623) L4 (Lk L4 K_257) (Ln L4 N_257) (by decide) (by decide) (by decide) k4 g4 (fun b5 f5 g5 v5 => ?_)
  have L5 := f5.lay L4
  have k5 : hI b5 252 64 = 1 := (f5.I (by omega)).trans k4
  refine ⟨L5, ?_⟩
  refine m_carryBack (n := 6) (p := 3629) L5 (Lk L5 K_260) (Ln L5 N_260) (by decide) (by decide) (by decide) k5 g5 (fun b6 f6 g6 v6 => ?_)
  have L6 := f6.lay L5
  have k6 : hI b6 252 64 = 1 := (f6.I (by omega)).trans k5
  refine ⟨L6, ?_⟩
  refine m_carryBack (n := 6) (p := 3635) L6 (Lk L6 K_261) (Ln L6 N_261) (by decide) (by decide) (by decide) k6 g6 (fun b7 f7 g7 v7 => ?_)
  have L7 := f7.lay L6
  have k7 : hI b7 252 64 = 1 := (f7.I (by omega)).trans k6
  refine ⟨L7, ?_⟩
  have all : FrC (fun x k => AT x k ∨ (x = 252 ∧ (k = 63 ∨ k = 64))) h b7 := by
    refine ((((((f0.wd ?_).tr (f1.wd ?_)).tr (f2.wd ?_)).tr (f3.wd ?_)).tr (f4.wd ?_)).tr (f5.wd ?_)).tr (f6.wd ?_) |>.tr (f7.wd ?_) <;> (intro x k hx; unfold AT; omega)
  have res : ∀ x k, AT x k → hI b7 x k = hI h0 x k := by
    intro x k hx
    unfold AT at hx
    rcases (show (x = 253 ∧ k < 8) ∨ (x = 254 ∧ k < 5) ∨ (x = 255 ∧ k < 5) ∨ (x = 256 ∧ k < 5) ∨ (x = 257 ∧ k < 6) ∨ (x = 260 ∧ k < 6) ∨ (x = 261 ∧ k < 6) by omega) with ⟨rfl, hk⟩ | ⟨rfl, hk⟩ | ⟨rfl, hk⟩ | ⟨rfl, hk⟩ | ⟨rfl, hk⟩ | ⟨rfl, hk⟩ | ⟨rfl, hk⟩
    · rw [f7.I (by omega), f6.I (by omega), f5.I (by omega), f4.I (by omega), f3.I (by omega), f2.I (by omega), v1 k hk, f0.I (by omega)]; exact sv.1 k hk
    · rw [f7.I (by omega), f6.I (by omega), f5.I (by omega), f4.I (by omega), f3.I (by omega), v2 k hk, f1.I (by omega), f0.I (by omega)]; exact sv.2.1 k hk
    · rw [f7.I (by omega), f6.I (by omega), f5.I (by omega), f4.I (by omega), v3 k hk, f2.I (by omega), f1.I (by omega), f0.I (by omega)]; exact sv.2.2.1 k hk
    · rw [f7.I (by omega), f6.I (by omega), f5.I (by omega), v4 k hk, f3.I (by omega), f2.I (by omega), f1.I (by omega), f0.I (by omega)]; exact sv.2.2.2.1 k hk
    · rw [f7.I (by omega), f6.I (by omega), v5 k hk, f4.I (by omega), f3.I (by omega), f2.I (by omega), f1.I (by omega), f0.I (by omega)]; exact sv.2.2.2.2.1 k hk
    · rw [f7.I (by omega), v6 k hk, f5.I (by omega), f4.I (by omega), f3.I (by omega), f2.I (by omega), f1.I (by omega), f0.I (by omega)]; exact sv.2.2.2.2.2.1 k hk
    · rw [v7 k hk, f6.I (by omega), f5.I (by omega), f4.I (by omega), f3.I (by omega), f2.I (by omega), f1.I (by omega), f0.I (by omega)]; exact sv.2.2.2.2.2.2 k hk
  refine ⟨fun _ => ⟨L7, hQ b7 ⟨?_, ?_, fun x k => ⟨fun hx => ?_, fun hx => ?_⟩⟩ (sv.to (fun k hk => all.I (by unfold AT; omega))) (fun q => all.I (by unfold AT; omega)) (fun x k h1 h2 => all.I (by unfold AT; omega))⟩, fun c => absurd rfl c⟩
  · exact all.1.trans fr.1
  · exact all.2.1.trans fr.2.1
  · by_cases c : AT x k
    · exact res x k c
    · rw [all.I (fun w => w.elim c (fun z => hx (by unfold AF; omega)))]
      exact fr.I (fun w => w.elim hx c)
  · by_cases c : JC x
    · have hx2 : ¬ AF x k := fun w => hx ⟨w, c⟩
      have nt : ¬ AT x k := by unfold JC at c; unfold AT; omega
      rw [all.J (fun w => w.elim nt (fun z => hx2 (by unfold AF; omega)))]
      exact fr.J (fun w => w.elim hx2 nt)
    · rw [all.Jn c]; exact fr.Jn c
end CA
