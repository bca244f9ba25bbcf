/-! what can be undone -/
def PkC (h : HP) (r s : Nat) (t : Tw) : Prop := hI h r (34 * s) = nI (t.1 4) ∧ (∀ j, j < t.1 2 → hI h r (34 * s + 1 + 3 * j) = t.2 1 j ∧ hI h r (34 * s + 2 + 3 * j) = t.2 2 j ∧ hI h r (34 * s + 3 + 3 * j) = t.2 3 j) ∧ ∀ i, i < t.1 3 → hI h r (34 * s + 16 + 3 * i) = t.2 4 i ∧ hI h r (34 * s + 17 + 3 * i) = t.2 7 i ∧ hI h r (34 * s + 18 + 3 * i) = t.2 8 i
theorem PkC.to {h h' : HP} {r r' s : Nat} {t : Tw} (hB : TB t) (H : PkC h r s t) (e : ∀ k, 34 * s ≤ k → k < 34 * s + 34 → hI h' r' k = hI h r k) : PkC h' r' s t := by
  unfold TB at hB
  exact ⟨(e _ (by omega) (by omega)).trans H.1, fun j hj => by rw [e _ (by omega) (by omega), e _ (by omega) (by omega), e _ (by omega) (by omega)]; exact H.2.1 j hj, fun i hi => by rw [e _ (by omega) (by omega), e _ (by omega) (by omega), e _ (by omega) (by omega)]; exact H.2.2 i hi⟩
def PkM (h : HP) (c b : Nat) (t : Tw) : Prop := hI h c b = nI (t.1 4) ∧ (∀ j, j < t.1 2 → hI h c (b + 1 + j) = t.2 1 j ∧ hI h c (b + 6 + j) = t.2 2 j ∧ hI h c (b + 11 + j) = t.2 3 j) ∧ ∀ i, i < t.1 3 → hI h c (b + 16 + i) = t.2 4 i ∧ hI h c (b + 22 + i) = t.2 7 i ∧ hI h c (b + 28 + i) = t.2 8 i
theorem PkM.to {h h' : HP} {c c' b b' : Nat} {t : Tw} (hB : TB t) (H : PkM h c b t) (e : ∀ k, k < 34 → hI h' c' (b' + k) = hI h c (b + k)) : PkM h' c' b' t := by
  unfold TB at hB
  have e2 : ∀ k j, k + j < 34 → hI h' c' (b' + k + j) = hI h c (b + k + j) := fun k j hk => by rw [Nat.add_assoc, Nat.add_assoc]; exact e _ hk
  exact ⟨(e 0 (by omega)).trans H.1, fun j hj => by rw [e2 _ _ (by omega), e2 _ _ (by omega), e2 _ _ (by omega)]; exact H.2.1 j hj, fun i hi => by rw [e2 _ _ (by omega), e2 _ _ (by omega), e2 _ _ (by omega)]; exact H.2.2 i hi⟩
abbrev Pst : Type := Nat × (Nat → Tw)
def kpS (p : Pst) (t : Tw) : Pst := if p.1 = 20 then (20, fun i => if i = 19 then t else p.2 (i + 1)) else (p.1 + 1, up1 p.2 p.1 t)
def CPs (h : HP) (a : Nat) (p : Pst) : Prop := ∃ nx, nx < 20 ∧ p.1 ≤ 20 ∧ hI h a 1 = nI p.1 ∧ hI h a 2 = nI nx ∧ ∀ i, i < p.1 → PkC h (a + 1) ((nx + 20 - p.1 + i) % 20) (p.2 i)
def MPs (h : HP) (p : Pst) : Prop := p.1 ≤ 20 ∧ hI h 252 51 = nI p.1 ∧ ∀ i, i < p.1 → PkM h 290 (34 * i) (p.2 i)
theorem n34 (a : Nat) : nI a * 34 = nI (34 * a) := by rw [show (34 : Int32) = nI 34 from rfl, pk_mul, Nat.mul_comm]
theorem n34' (a : Nat) : (34 : Int32) * nI a = nI (34 * a) := by rw [show (34 : Int32) = nI 34 from rfl, pk_mul]
section PKC
variable {g : GT} {d : Nat} {h : HP} {t : Tw}
theorem c_pack {a r s : Nat} {Q : HP → Prop} (hA : TwS h a) (kr : hK h r = 21) (nr : hN h r = 680) (hd : r < a ∨ a + 9 ≤ r) (hs : s < 20) (hQ : ∀ h', FrC (fun x k => x = r ∧ 34 * s ≤ k ∧ k < 34 * s + 34) h h' → hI h' r (34 * s) = hI h a 4 → (∀ j, j < 5 → hI h' r (34 * s + 1 + 3 * j) = hI h (a + 1) j ∧ hI h' r (34 * s + 2 + 3 * j) = hI h (a + 2) j ∧ hI h' r (34 * s + 3 + 3 * j) = hI h (a + 3) j) → (∀ j, j < 6 → hI h' r (34 * s + 16 + 3 * j) = hI h (a + 4) j ∧ hI h' r (34 * s + 17 + 3 * j) = hI h (a + 7) j ∧ hI h' r (34 * s + 18 + 3 * j) = hI h (a + 8) j) → Q h') : CallV g mX8_packInto d (0, 0) [.ref a, .ref r, .int (nI (34 * s))] h Q := by
  obtain ⟨k0, ⟨r5, r6, r7, r8, r9, r10, r11, r12⟩, ⟨k1, k2, k3, k4, k5, k6, k7, k8⟩, n1, n2, n3, n4, n5, n6, n7, n8⟩ := hA
  refine vX8_packInto_0 a r _ h ⟨fun c => absurd c (nI_pos (by omega)), fun _ => ⟨kr, ?_⟩⟩
  rw [nr, show nI (34 * s) + 34 = nI (34 * s + 34) from nI_add _ 34]
  refine ⟨fun _ => ⟨k0, kr, vn (by omega) (by omega), ?_⟩, fun c => absurd (nI_le (a := 34 * s + 34) (b := 680) (by omega) (by omega)) c⟩
  rw [nI_clamp (n := 34 * s) (by omega), nI_1]
  refine loopN (σ := Unit) (P := fun i _ h' => Sat g mX8_packInto d (0, 0) (qV Q) 29 [.ref a, .ref r, .double 0, .int (nI (34 * s + 1 + 3 * i)), .int (nI i)] [] h') (I := fun i _ h' => FrC (fun x k => x = r ∧ 34 * s ≤ k ∧ k < 34 * s + 34) h h' ∧ hI h' r (34 * s) = hI h a 4 ∧ ∀ j, j < i → hI h' r (34 * s + 1 + 3 * j) = hI h (a + 1) j ∧ hI h' r (34 * s + 2 + 3 * j) = hI h (a + 2) j ∧ hI h' r (34 * s + 3 + 3 * j) = hI h (a + 3) j) 5 (fun _ h' e => ?_) (fun i _ h' hi e ih => ?_) 0 () _ (by omega) ⟨FrC.stI (by omega), rdI, fun j hj => by omega⟩
  · obtain ⟨f, e0, e1⟩ := e
    refine vX8_packInto_29 a r _ _ h' ⟨fun _ => ?_, fun c => absurd (by decide) c⟩
    refine loopN (σ := Unit) (P := fun i _ h' => Sat g mX8_packInto d (0, 0) (qV Q) 83 [.ref a, .ref r, .double 0, .int (nI (34 * s + 16 + 3 * i)), .int (nI i)] [] h') (I := fun i _ h' => FrC (fun x k => x = r ∧ 34 * s ≤ k ∧ k < 34 * s + 34) h h' ∧ hI h' r (34 * s) = hI h a 4 ∧ (∀ j, j < 5 → hI h' r (34 * s + 1 + 3 * j) = hI h (a + 1) j ∧ hI h' r (34 * s + 2 + 3 * j) = hI h (a + 2) j ∧ hI h' r (34 * s + 3 + 3 * j) = hI h (a + 3) j) ∧ ∀ j, j < i → hI h' r (34 * s + 16 + 3 * j) = hI h (a + 4) j ∧ hI h' r (34 * s + 17 + 3 * j) = hI h (a + 7) j ∧ hI h' r (34 * s + 18 + 3 * j) = hI h (a + 8) j) 6 (fun _ h' e => ?_) (fun i _ h' hi e ih => ?_) 0 () h' (by omega) ⟨f, e0, e1, fun j hj => by omega⟩
    · exact vX8_packInto_83 a r _ _ h' ⟨fun _ => hQ h' e.1 e.2.1 e.2.2.1 e.2.2.2, fun c => absurd (by decide) c⟩
    · obtain ⟨f, e0, e1, e2⟩ := e
      have K := f.K
      have N := f.N
      have R := f.2.1
      refine vX8_packInto_83 a r _ _ h' ⟨fun c => absurd c (nI_ge (a := i) (b := 6) hi (by omega)), fun _ => ⟨by rw [K]; exact k0, a + 4, by rw [R]; exact r8, by rw [K]; exact k4, by rw [N, n4]; exact vn (by omega) (by omega), by rw [K]; exact kr, by rw [N, nr]; exact vn (by omega) (by omega), by show hK h' a = 9; rw [K]; exact k0, a + 7, by show hR h' a 11 = _; rw [R]; exact r11, by show hK h' _ = 21; rw [K]; exact k7, by show vp_in _ (hN h' _); rw [N, n7]; exact vn (by omega) (by omega), by show hK h' r = 21; rw [K]; exact kr, by show vp_in _ (hN h' r); rw [N, nr, nI_1]; exact vn (by omega) (by omega), ?_⟩⟩
      rw [nI_1, nI_1, nI_1, nI_clamp (n := i) (by omega), nI_clamp (n := 34 * s + 16 + 3 * i) (by omega), nI_clamp (n := 34 * s + 16 + 3 * i + 1) (by omega), nI_clamp (n := 34 * s + 16 + 3 * i + 1 + 1) (by omega), rdn (by omega), f.I (by omega), f.I (by omega), nI_1]
      intro h3 e3
      have f3 : FrC (fun x k => x = r ∧ 34 * s ≤ k ∧ k < 34 * s + 34) h' h3 := by rw [e3]; exact (FrC.stI (by omega)).tr (FrC.stI (by omega))
      have K3 := f3.K.trans K
      have N3 := f3.N.trans N
      have R3 := f3.2.1.trans R
      refine ⟨by rw [K3]; exact k0, a + 8, by rw [R3]; exact r12, by rw [K3]; exact k8, by rw [N3, n8]; exact vn (by omega) (by omega), by rw [K3]; exact kr, by rw [N3, nr]; exact vn (by omega) (by omega), ?_⟩
      rw [f3.I (by omega), f.I (by omega)]
      have w1 : hI h3 r (34 * s + 16 + 3 * i) = hI h (a + 4) i := by rw [e3, rdn (by omega), rdI]
      have w2 : hI h3 r (34 * s + 16 + 3 * i + 1) = hI h (a + 7) i := by rw [e3, rdI]
      have w3 : ∀ k, ¬ k = 34 * s + 16 + 3 * i → ¬ k = 34 * s + 16 + 3 * i + 1 → hI h3 r k = hI h' r k := fun k c1 c2 => by rw [e3, rdn (by omega), rdn (by omega)]
      clear e3
      refine ih () _ ⟨(f.tr f3).tr (FrC.stI (by omega)), ?_, fun j hj => ?_, fun j hj => ?_⟩
      · rw [rdn (by omega), w3 _ (by omega) (by omega)]; exact e0
      · rw [rdn (by omega), rdn (by omega), rdn (by omega), w3 _ (by omega) (by omega), w3 _ (by omega) (by omega), w3 _ (by omega) (by omega)]; exact e1 j hj
      · by_cases c : j = i
        · subst c
          refine ⟨(rdn (by omega)).trans w1, (rdn (by omega)).trans ?_, ?_⟩
          · rw [show 34 * s + 17 + 3 * j = 34 * s + 16 + 3 * j + 1 by omega]; exact w2
          · rw [show 34 * s + 18 + 3 * j = 34 * s + 16 + 3 * j + 1 + 1 by omega]; exact rdI
        · rw [rdn (by omega), rdn (by omega), rdn (by omega), w3 _ (by omega) (by omega), w3 _ (by omega) (by omega), w3 _ (by omega) (by omega)]; exact e2 j (by omega)
  · obtain ⟨f, e0, e2⟩ := e
    have K := f.K
    have N := f.N
    have R := f.2.1
    refine vX8_packInto_29 a r _ _ h' ⟨fun c => absurd c (nI_ge (a := i) (b := 5) hi (by omega)), fun _ => ⟨by rw [K]; exact k0, a + 1, by rw [R]; exact r5, by rw [K]; exact k1, by rw [N, n1]; exact vn (by omega) (by omega), by rw [K]; exact kr, by rw [N, nr]; exact vn (by omega) (by omega), by show hK h' a = 9; rw [K]; exact k0, a + 2, by show hR h' a 6 = _; rw [R]; exact r6, by show hK h' _ = 21; rw [K]; exact k2, by show vp_in _ (hN h' _); rw [N, n2]; exact vn (by omega) (by omega), by show hK h' r = 21; rw [K]; exact kr, by show vp_in _ (hN h' r); rw [N, nr, nI_1]; exact vn (by omega) (by omega), ?_⟩⟩
    rw [nI_1, nI_1, nI_1, nI_clamp (n := i) (by omega), nI_clamp (n := 34 * s + 1 + 3 * i) (by omega), nI_clamp (n := 34 * s + 1 + 3 * i + 1) (by omega), nI_clamp (n := 34 * s + 1 + 3 * i + 1 + 1) (by omega), rdn (by omega), f.I (by omega), f.I (by omega), nI_1]
    intro h3 e3
    have f3 : FrC (fun x k => x = r ∧ 34 * s ≤ k ∧ k < 34 * s + 34) h' h3 := by rw [e3]; exact (FrC.stI (by omega)).tr (FrC.stI (by omega))
    have K3 := f3.K.trans K
    have N3 := f3.N.trans N
    have R3 := f3.2.1.trans R
    refine ⟨by rw [K3]; exact k0, a + 3, by rw [R3]; exact r7, by rw [K3]; exact k3, by rw [N3, n3]; exact vn (by omega) (by omega), by rw [K3]; exact kr, by rw [N3, nr]; exact vn (by omega) (by omega), ?_⟩
    rw [f3.I (by omega), f.I (by omega)]
    have w1 : hI h3 r (34 * s + 1 + 3 * i) = hI h (a + 1) i := by rw [e3, rdn (by omega), rdI]
    have w2 : hI h3 r (34 * s + 1 + 3 * i + 1) = hI h (a + 2) i := by rw [e3, rdI]
    have w3 : ∀ k, ¬ k = 34 * s + 1 + 3 * i → ¬ k = 34 * s + 1 + 3 * i + 1 → hI h3 r k = hI h' r k := fun k c1 c2 => by rw [e3, rdn (by omega), rdn (by omega)]
    clear e3
    refine ih () _ ⟨(f.tr f3).tr (FrC.stI (by omega)), ?_, fun j hj => ?_⟩
    · rw [rdn (by omega), w3 _ (by omega) (by omega)]; exact e0
    · by_cases c : j = i
      · subst c
        refine ⟨(rdn (by omega)).trans w1, (rdn (by omega)).trans ?_, ?_⟩
        · rw [show 34 * s + 2 + 3 * j = 34 * s + 1 + 3 * j + 1 by omega]; exact w2
        · rw [show 34 * s + 3 + 3 * j = 34 * s + 1 + 3 * j + 1 + 1 by omega]; exact rdI
      · rw [rdn (by omega), rdn (by omega), rdn (by omega), w3 _ (by omega) (by omega), w3 _ (by omega) (by omega), w3 _ (by omega) (by omega)]; exact e2 j (by omega)
def AUn (a x k : Nat) : Prop := (x = a ∧ k = 4) ∨ ((x = a + 1 ∨ x = a + 2 ∨ x = a + 3) ∧ k < 5) ∨ ((x = a + 4 ∨ x = a + 7 ∨ x = a + 8) ∧ k < 6)
theorem c_unpack {a r s : Nat} {Q : HP → Prop} (hA : TwS h a) (kr : hK h r = 21) (nr : hN h r = 680) (hd : r < a ∨ a + 9 ≤ r) (hs : s < 20) (hQ : ∀ h', FrC (AUn a) h h' → hI h' a 4 = hI h r (34 * s) → (∀ j, j < 5 → hI h' (a + 1) j = hI h r (34 * s + 1 + 3 * j) ∧ hI h' (a + 2) j = hI h r (34 * s + 2 + 3 * j) ∧ hI h' (a + 3) j = hI h r (34 * s + 3 + 3 * j)) → (∀ j, j < 6 → hI h' (a + 4) j = hI h r (34 * s + 16 + 3 * j) ∧ hI h' (a + 7) j = hI h r (34 * s + 17 + 3 * j) ∧ hI h' (a + 8) j = hI h r (34 * s + 18 + 3 * j)) → Q h') : CallV g mX8_unpackFrom d (0, 0) [.ref a, .ref r, .int (nI (34 * s))] h Q := by
  obtain ⟨k0, ⟨r5, r6, r7, r8, r9, r10, r11, r12⟩, ⟨k1, k2, k3, k4, k5, k6, k7, k8⟩, n1, n2, n3, n4, n5, n6, n7, n8⟩ := hA
  refine vX8_unpackFrom_0 a r _ h ⟨fun c => absurd c (nI_pos (by omega)), fun _ => ⟨kr, ?_⟩⟩
  rw [nr, show nI (34 * s) + 34 = nI (34 * s + 34) from nI_add _ 34]
  refine ⟨fun _ => ⟨kr, vn (by omega) (by omega), k0, ?_⟩, fun c => absurd (nI_le (a := 34 * s + 34) (b := 680) (by omega) (by omega)) c⟩
  rw [nI_clamp (n := 34 * s) (by omega), nI_1]
  refine loopN (σ := Unit) (P := fun i _ h' => Sat g mX8_unpackFrom d (0, 0) (qV Q) 29 [.ref a, .ref r, .double 0, .int (nI (34 * s + 1 + 3 * i)), .int (nI i)] [] h') (I := fun i _ h' => FrC (AUn a) h h' ∧ hI h' a 4 = hI h r (34 * s) ∧ ∀ j, j < i → hI h' (a + 1) j = hI h r (34 * s + 1 + 3 * j) ∧ hI h' (a + 2) j = hI h r (34 * s + 2 + 3 * j) ∧ hI h' (a + 3) j = hI h r (34 * s + 3 + 3 * j)) 5 (fun _ h' e => ?_) (fun i _ h' hi e ih => ?_) 0 () _ (by omega) ⟨FrC.stI (by unfold AUn; omega), rdI, fun j hj => by omega⟩
  · obtain ⟨f, e0, e1⟩ := e
    refine vX8_unpackFrom_29 a r _ _ h' ⟨fun _ => ?_, fun c => absurd (by decide) c⟩
    refine loopN (σ := Unit) (P := fun i _ h' => Sat g mX8_unpackFrom d (0, 0) (qV Q) 83 [.ref a, .ref r, .double 0, .int (nI (34 * s + 16 + 3 * i)), .int (nI i)] [] h') (I := fun i _ h' => FrC (AUn a) h h' ∧ hI h' a 4 = hI h r (34 * s) ∧ (∀ j, j < 5 → hI h' (a + 1) j = hI h r (34 * s + 1 + 3 * j) ∧ hI h' (a + 2) j = hI h r (34 * s + 2 + 3 * j) ∧ hI h' (a + 3) j = hI h r (34 * s + 3 + 3 * j)) ∧ ∀ j, j < i → hI h' (a + 4) j = hI h r (34 * s + 16 + 3 * j) ∧ hI h' (a + 7) j = hI h r (34 * s + 17 + 3 * j) ∧ hI h' (a + 8) j = hI h r (34 * s + 18 + 3 * j)) 6 (fun _ h' e => ?_) (fun i _ h' hi e ih => ?_) 0 () h' (by omega) ⟨f, e0, e1, fun j hj => by omega⟩
    · exact vX8_unpackFrom_83 a r _ _ h' ⟨fun _ => hQ h' e.1 e.2.1 e.2.2.1 e.2.2.2, fun c => absurd (by decide) c⟩
    · obtain ⟨f, e0, e1, e2⟩ := e
      have K := f.K
      have N := f.N
      have R := f.2.1
      refine vX8_unpackFrom_83 a r _ _ h' ⟨fun c => absurd c (nI_ge (a := i) (b := 6) hi (by omega)), fun _ => ⟨by rw [K]; exact k0, a + 4, by rw [R]; exact r8, by rw [K]; exact kr, by rw [N, nr]; exact vn (by omega) (by omega), by rw [K]; exact k4, by rw [N, n4]; exact vn (by omega) (by omega), by show hK h' a = 9; rw [K]; exact k0, a + 7, by show hR h' a 11 = _; rw [R]; exact r11, by show hK h' r = 21; rw [K]; exact kr, by show vp_in _ (hN h' r); rw [N, nr, nI_1]; exact vn (by omega) (by omega), by show hK h' _ = 21; rw [K]; exact k7, by show vp_in _ (hN h' _); rw [N, n7]; exact vn (by omega) (by omega), ?_⟩⟩
      rw [nI_1, nI_1, nI_1, nI_clamp (n := i) (by omega), nI_clamp (n := 34 * s + 16 + 3 * i) (by omega), nI_clamp (n := 34 * s + 16 + 3 * i + 1) (by omega), nI_clamp (n := 34 * s + 16 + 3 * i + 1 + 1) (by omega), rdn (by omega), f.I (by unfold AUn; omega), f.I (by unfold AUn; omega), nI_1]
      intro h3 e3
      have f3 : FrC (AUn a) h' h3 := by rw [e3]; exact (FrC.stI (by unfold AUn; omega)).tr (FrC.stI (by unfold AUn; omega))
      have K3 := f3.K.trans K
      have N3 := f3.N.trans N
      have R3 := f3.2.1.trans R
      refine ⟨by rw [K3]; exact k0, a + 8, by rw [R3]; exact r12, by rw [K3]; exact kr, by rw [N3, nr]; exact vn (by omega) (by omega), by rw [K3]; exact k8, by rw [N3, n8]; exact vn (by omega) (by omega), ?_⟩
      rw [f3.I (by unfold AUn; omega), f.I (by unfold AUn; omega)]
      have w1 : hI h3 (a + 4) i = hI h r (34 * s + 16 + 3 * i) := by rw [e3, rdn (by omega), rdI]
      have w2 : hI h3 (a + 7) i = hI h r (34 * s + 16 + 3 * i + 1) := by rw [e3, rdI]
      have w3 : ∀ x k, ¬ (x = a + 4 ∧ k = i) → ¬ (x = a + 7 ∧ k = i) → hI h3 x k = hI h' x k := fun x k c1 c2 => by rw [e3, rdn (by omega), rdn (by omega)]
      clear e3
      refine ih () _ ⟨(f.tr f3).tr (FrC.stI (by unfold AUn; omega)), ?_, fun j hj => ?_, fun j hj => ?_⟩
      · rw [rdn (by omega), w3 _ _ (by omega) (by omega)]; exact e0
      · rw [rdn (by omega), rdn (by omega), rdn (by omega), w3 _ _ (by omega) (by omega), w3 _ _ (by omega) (by omega), w3 _ _ (by omega) (by omega)]; exact e1 j hj
      · by_cases c : j = i
        · subst c
          refine ⟨(rdn (by omega)).trans w1, (rdn (by omega)).trans ?_, ?_⟩
          · rw [show 34 * s + 17 + 3 * j = 34 * s + 16 + 3 * j + 1 by omega]; exact w2
          · rw [show 34 * s + 18 + 3 * j = 34 * s + 16 + 3 * j + 1 + 1 by omega]; exact rdI
        · rw [rdn (by omega), rdn (by omega), rdn (by omega), w3 _ _ (by omega) (by omega), w3 _ _ (by omega) (by omega), w3 _ _ (by omega) (by omega)]; exact e2 j (by omega)
  · obtain ⟨f, e0, e2⟩ := e
    have K := f.K
    have N := f.N
    have R := f.2.1
    refine vX8_unpackFrom_29 a r _ _ h' ⟨fun c => absurd c (nI_ge (a := i) (b := 5) hi (by omega)), fun _ => ⟨by rw [K]; exact k0, a + 1, by rw [R]; exact r5, by rw [K]; exact kr, by rw [N, nr]; exact vn (by omega) (by omega), by rw [K]; exact k1, by rw [N, n1]; exact vn (by omega) (by omega), by show hK h' a = 9; rw [K]; exact k0, a + 2, by show hR h' a 6 = _; rw [R]; exact r6, by show hK h' r = 21; rw [K]; exact kr, by show vp_in _ (hN h' r); rw [N, nr, nI_1]; exact vn (by omega) (by omega), by show hK h' _ = 21; rw [K]; exact k2, by show vp_in _ (hN h' _); rw [N, n2]; exact vn (by omega) (by omega), ?_⟩⟩
    rw [nI_1, nI_1, nI_1, nI_clamp (n := i) (by omega), nI_clamp (n := 34 * s + 1 + 3 * i) (by omega), nI_clamp (n := 34 * s + 1 + 3 * i + 1) (by omega), nI_clamp (n := 34 * s + 1 + 3 * i + 1 + 1) (by omega), rdn (by omega), f.I (by unfold AUn; omega), f.I (by unfold AUn; omega), nI_1]
    intro h3 e3
    have f3 : FrC (AUn a) h' h3 := by rw [e3]; exact (FrC.stI (by unfold AUn; omega)).tr (FrC.stI (by unfold AUn; omega))
    have K3 := f3.K.trans K
    have N3 := f3.N.trans N
    have R3 := f3.2.1.trans R
    refine ⟨by rw [K3]; exact k0, a + 3, by rw [R3]; exact r7, by rw [K3]; exact kr, by rw [N3, nr]; exact vn (by omega) (by omega), by rw [K3]; exact k3, by rw [N3, n3]; exact vn (by omega) (by omega), ?_⟩
    rw [f3.I (by unfold AUn; omega), f.I (by unfold AUn; omega)]
    have w1 : hI h3 (a + 1) i = hI h r (34 * s + 1 + 3 * i) := by rw [e3, rdn (by omega), rdI]
    have w2 : hI h3 (a + 2) i = hI h r (34 * s + 1 + 3 * i + 1) := by rw [e3, rdI]
    have w3 : ∀ x k, ¬ (x = a + 1 ∧ k = i) → ¬ (x = a + 2 ∧ k = i) → hI h3 x k = hI h' x k := fun x k c1 c2 => by rw [e3, rdn (by omega), rdn (by omega)]
    clear e3
    refine ih () _ ⟨(f.tr f3).tr (FrC.stI (by unfold AUn; omega)), ?_, fun j hj => ?_⟩
    · rw [rdn (by omega), w3 _ _ (by omega) (by omega)]; exact e0
    · by_cases c : j = i
      · subst c
        refine ⟨(rdn (by omega)).trans w1, (rdn (by omega)).trans ?_, ?_⟩
        · rw [show 34 * s + 2 + 3 * j = 34 * s + 1 + 3 * j + 1 by omega]; exact w2
        · rw [show 34 * s + 3 + 3 * j = 34 * s + 1 + 3 * j + 1 + 1 by omega]; exact rdI
      · rw [rdn (by omega), rdn (by omega), rdn (by omega), w3 _ _ (by omega) (by omega), w3 _ _ (by omega) (by omega), w3 _ _ (by omega) (by omega)]; exact e2 j (by omega)
end PKC
