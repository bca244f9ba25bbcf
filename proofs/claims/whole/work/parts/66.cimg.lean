/-! all that an image keeps; of the class -/
abbrev Ld : Type := (Tw × Tw) × Pst × Nts × Nat × Nat
def CNe (h : HP) (e : Nat) (N : Nts) : Prop := hI h e 6 = nI N.1 ∧ ∀ k, k < N.1 → hI h (e + 21) k = nI (N.2.1 k) ∧ hI h (e + 22) k = nI (N.2.2.1 k) ∧ hI h (e + 23) k = N.2.2.2 k
def CLd (h : HP) (e : Nat) (l : Ld) : Prop := TownIs h (e + 1) l.1.1 ∧ TownIs h (e + 10) l.1.2 ∧ CPs h (e + 19) l.2.1 ∧ CNe h e l.2.2.1 ∧ hI h e 7 = pl l.2.2.2.1 ∧ hI h e 8 = nI l.2.2.2.2
def LdOK (l : Ld) (cnt : Nat) : Prop := TB l.1.1 ∧ TR l.1.1 ∧ l.1.1.1 4 ≤ 999 ∧ BG l.1.2 l.1.1 ∧ PsOK l.2.1 l.1.1 ∧ NtOK l.2.2.1 l.1.1 ∧ l.2.2.2.1 ≤ cnt ∧ l.2.2.2.2 < 2147483648
theorem CLd.to {h h' : HP} {e : Nat} {l : Ld} {cnt : Nat} (H : CLd h e l) (hO : LdOK l cnt) (hk : hK h' = hK h) (hn : hN h' = hN h) (hr : hR h' = hR h) (f : ∀ x k, e ≤ x → x < e + 24 → hI h' x k = hI h x k) : CLd h' e l := by
  obtain ⟨h1, h2, h3, h4, h5, h6⟩ := H
  refine ⟨⟨h1.1.to hk hn hr, h1.2.1, fun k hk => (f _ _ (by omega) (by omega)).trans (h1.2.2.1 k hk), fun r j hr => (f _ _ (by omega) (by unfold rowOK at hr; omega)).trans (h1.2.2.2 r j hr)⟩, ⟨h2.1.to hk hn hr, h2.2.1, fun k hk => (f _ _ (by omega) (by omega)).trans (h2.2.2.1 k hk), fun r j hr => (f _ _ (by omega) (by unfold rowOK at hr; omega)).trans (h2.2.2.2 r j hr)⟩, h3.fr hO.2.2.2.2.1 (fun x k hx => f x k (by omega) (by omega)), ⟨(f _ _ (by omega) (by omega)).trans h4.1, fun k hk => by rw [f _ _ (by omega) (by omega), f _ _ (by omega) (by omega), f _ _ (by omega) (by omega)]; exact h4.2 k hk⟩, (f _ _ (by omega) (by omega)).trans h5, (f _ _ (by omega) (by omega)).trans h6⟩
section CIM
variable {g : GT} {d : Nat} {h : HP} {l : Ld} {cnt : Nat}
theorem c_pastCopy {a b : Nat} {Q : HP → Prop} (ka : hK h a = 6) (ra : hR h a 0 = some (a + 1)) (ka1 : hK h (a + 1) = 21) (na : hN h (a + 1) = 680) (kb : hK h b = 6) (rb : hR h b 0 = some (b + 1)) (kb1 : hK h (b + 1) = 21) (nb : hN h (b + 1) = 680) (hab : a + 1 < b ∨ b + 1 < a) (hQ : ∀ h', Fr (fun x => x = a ∨ x = a + 1) h h' → hI h' a 1 = hI h b 1 → hI h' a 2 = hI h b 2 → (∀ k, k < 680 → hI h' (a + 1) k = hI h (b + 1) k) → Q h') : CallV g mX5_copyFrom d (0, 0) [.ref a, .ref b] h Q := by
  refine vX5_copyFrom_0 a b h ⟨kb, ka, kb, ka, ?_⟩
  rw [rdn (by omega)]
  refine loopN (σ := Unit) (P := fun i _ h' => Sat g mX5_copyFrom d (0, 0) (qV Q) 18 [.ref a, .ref b, .int (nI i)] [] h') (I := fun i _ h' => Fr (fun x => x = a ∨ x = a + 1) h h' ∧ hI h' a 1 = hI h b 1 ∧ hI h' a 2 = hI h b 2 ∧ ∀ k, k < i → hI h' (a + 1) k = hI h (b + 1) k) 680 (fun _ h' e => ?_) (fun i _ h' hi e ih => ?_) 0 () (setI (setI h a 1 (hI h b 1)) a 2 (hI h b 2)) (by omega) ⟨(Fr.stI (by omega)).tr (Fr.stI (by omega)), (rdn (by omega)).trans rdI, rdI, fun k hk => by omega⟩
  · exact vX5_copyFrom_18 a b _ h' ⟨fun _ => hQ h' e.1 e.2.1 e.2.2.1 e.2.2.2, fun c => absurd (by decide) c⟩
  · obtain ⟨f, e1, e2, e3⟩ := e
    have K := f.K
    have N := f.N
    have R := f.2.1
    refine vX5_copyFrom_18 a b _ h' ⟨fun c => absurd c (nI_ge (a := i) (b := 680) hi (by omega)), fun _ => ⟨by rw [K]; exact ka, _, by rw [R]; exact ra, by rw [K]; exact kb, _, by rw [R]; exact rb, by rw [K]; exact kb1, by rw [N, nb]; exact vn (by omega) (by omega), by rw [K]; exact ka1, by rw [N, na]; exact vn (by omega) (by omega), ?_⟩⟩
    rw [nI_clamp (n := i) (by omega), nI_1, (f.2.2 (b + 1) (by omega)).1]
    refine ih () _ ⟨f.tr (Fr.stI (by omega)), (rdn (by omega)).trans e1, (rdn (by omega)).trans e2, fun k hk => ?_⟩
    by_cases c : k = i
    · subst c; exact rdI
    · rw [rdn (by omega)]; exact e3 k (by omega)
theorem c_ledCopy {e f : Nat} {Q : HP → Prop} (L : Lay h) (hE : LeS h e) (hF : LeS h f) (hef : e + 24 ≤ f ∨ f + 24 ≤ e) (H : CLd h f l) (hO : LdOK l cnt) (hQ : ∀ h', Fr (fun x => e ≤ x ∧ x < e + 24) h h' → CLd h' e l → Q h') : CallV g mX3_copyFrom (d + 1) (0, 0) [.ref e, .ref f] h Q := by
  obtain ⟨ke, ⟨re0, re1, re2, re3, re4, re5⟩, ⟨te1, te2⟩, ⟨kep, rep, kep1, nep⟩, ⟨ke3, ke4, ke5⟩, ne3, ne4, ne5⟩ := hE
  obtain ⟨kf, ⟨rf0, rf1, rf2, rf3, rf4, rf5⟩, ⟨tf1, tf2⟩, ⟨kfp, rfp, kfp1, nfp⟩, ⟨kf3, kf4, kf5⟩, nf3, nf4, nf5⟩ := hF
  obtain ⟨H1, H2, H3, H4, H5, H6⟩ := id H
  refine vX3_copyFrom_0 e f h ⟨ke, _, re0, kf, _, rf0, te1.1, c_copyFrom te1 H1 (by omega) (fun h1 o1 T1 => ?_)⟩
  have f1 := o1.fr
  have K1 := f1.K
  have R1 := f1.2.1
  have N1 := f1.N
  have H2' : TownIs h1 (f + 10) l.1.2 := H2.fr f1 (fun x h1 h2 => by omega)
  have te2' : TwS h1 (e + 10) := te2.to K1 N1 R1
  refine ⟨by rw [K1]; exact ke, _, by rw [R1]; exact re1, by rw [K1]; exact kf, _, by rw [R1]; exact rf1, te2'.1, c_copyFrom te2' H2' (by omega) (fun h2 o2 T2 => ?_)⟩
  have f2 : Fr (fun x => e ≤ x ∧ x < e + 24) h h2 := (f1.wd (fun x hx => by omega)).tr (o2.fr.wd (fun x hx => by omega))
  have T1' : TownIs h2 (e + 1) l.1.1 := T1.fr o2.fr (fun x h1 h2 => by omega)
  have K2 := f2.K
  have R2 := f2.2.1
  have N2 := f2.N
  refine ⟨by rw [K2]; exact ke, _, by rw [R2]; exact re2, by rw [K2]; exact kf, _, by rw [R2]; exact rf2, by rw [K2]; exact kep, ?_⟩
  refine c_pastCopy (by rw [K2]; exact kep) (by rw [R2]; exact rep) (by rw [K2]; exact kep1) (by rw [N2]; exact nep) (by rw [K2]; exact kfp) (by rw [R2]; exact rfp) (by rw [K2]; exact kfp1) (by rw [N2]; exact nfp) (by omega) (fun h3 f3 p1 p2 p3 => ?_)
  have f03 : Fr (fun x => e ≤ x ∧ x < e + 24) h h3 := f2.tr (f3.wd (fun x hx => by omega))
  have K3 := f03.K
  have R3 := f03.2.1
  have N3 := f03.N
  refine loopN (σ := Unit) (P := fun i _ h' => Sat g mX3_copyFrom (d + 1) (0, 0) (qV Q) 35 [.ref e, .ref f, .int (nI i)] [] h') (I := fun i _ h' => Fr (fun x => e + 21 ≤ x ∧ x ≤ e + 23) h3 h' ∧ ∀ k, k < i → hI h' (e + 21) k = hI h (f + 21) k ∧ hI h' (e + 22) k = hI h (f + 22) k ∧ hI h' (e + 23) k = hI h (f + 23) k) 10 (fun _ h' e => ?_) (fun i _ h' hi e ih => ?_) 0 () h3 (by omega) ⟨Fr.rf h3, fun k hk => by omega⟩
  · obtain ⟨f4, e4⟩ := e
    have f04 := f03.tr (f4.wd (B := fun x => e ≤ x ∧ x < e + 24) (fun x hx => by omega))
    have K4 := f04.K
    refine vX3_copyFrom_35 e f _ h' ⟨fun _ => ⟨by rw [K4]; exact kf, by rw [K4]; exact ke, by show hK h' f = 4; rw [K4]; exact kf, by show hK h' e = 4; rw [K4]; exact ke, by show hK h' f = 4; rw [K4]; exact kf, by show hK h' e = 4; rw [K4]; exact ke, ?_⟩, fun c => absurd (by decide) c⟩
    rw [rdn (a := e) (x := f) (by omega), rdn (a := e) (x := f) (by omega), rdn (a := e) (x := f) (by omega), (f04.2.2 f (by omega)).1, H4.1, H5, H6]
    intro h5 e5
    have f5 : Fr (fun x => x = e) h' h5 := by rw [e5]; exact ((Fr.stI (by omega)).tr (Fr.stI (by omega))).tr (Fr.stI (by omega))
    have w6 : hI h5 e 6 = nI l.2.2.1.1 := by rw [e5, rdn (by omega), rdn (by omega), rdI]
    have w7 : hI h5 e 7 = pl l.2.2.2.1 := by rw [e5, rdn (by omega), rdI]
    have w8 : hI h5 e 8 = nI l.2.2.2.2 := by rw [e5, rdI]
    clear e5
    have f05 := f04.tr (f5.wd (B := fun x => e ≤ x ∧ x < e + 24) (fun x hx => by omega))
    have g35 : ∀ x, e < x → x < e + 21 → ∀ k, hI h5 x k = hI h3 x k := fun x h1 h2 k => by rw [(f5.2.2 x (by omega)).1, (f4.2.2 x (by omega)).1]
    have g25 : ∀ x, e < x → x < e + 19 → ∀ k, hI h5 x k = hI h2 x k := fun x h1 h2 k => by rw [g35 x h1 (by omega), (f3.2.2 x (by omega)).1]
    refine hQ h5 f05 ⟨⟨T1'.1.to (f05.K.trans K2.symm) (f05.N.trans N2.symm) (f05.2.1.trans R2.symm), T1'.2.1, fun k hk => (g25 _ (by omega) (by omega) _).trans (T1'.2.2.1 k hk), fun r j hr => (g25 _ (by omega) (by unfold rowOK at hr; omega) _).trans (T1'.2.2.2 r j hr)⟩, ⟨T2.1.to (f05.K.trans K2.symm) (f05.N.trans N2.symm) (f05.2.1.trans R2.symm), T2.2.1, fun k hk => (g25 _ (by omega) (by omega) _).trans (T2.2.2.1 k hk), fun r j hr => (g25 _ (by omega) (by unfold rowOK at hr; omega) _).trans (T2.2.2.2 r j hr)⟩, ?_, ⟨w6, fun k hk => ?_⟩, w7, w8⟩
    · obtain ⟨nx, q1, q2, q3, q4, q5⟩ := H3
      refine ⟨nx, q1, q2, ?_, ?_, fun i hi => (q5 i hi).to (hO.2.2.2.2.1.2 i hi).1 (fun k h1 h2 => ?_)⟩
      · rw [g35 _ (by omega) (by omega), p1, (f2.2.2 (f + 19) (by omega)).1]; exact q3
      · rw [g35 _ (by omega) (by omega), p2, (f2.2.2 (f + 19) (by omega)).1]; exact q4
      · rw [g35 _ (by omega) (by omega), p3 k (by omega), (f2.2.2 (f + 19 + 1) (by omega)).1]
    · obtain ⟨n1, n2, n3⟩ := e4 k (by have := hO.2.2.2.2.2.1.1; omega)
      rw [(f5.2.2 (e + 21) (by omega)).1, (f5.2.2 (e + 22) (by omega)).1, (f5.2.2 (e + 23) (by omega)).1, n1, n2, n3]
      exact H4.2 k hk
  · obtain ⟨f4, e4⟩ := e
    have f04 := f03.tr (f4.wd (B := fun x => e ≤ x ∧ x < e + 24) (fun x hx => by omega))
    have K4 := f04.K
    have R4 := f04.2.1
    have N4 := f04.N
    refine vX3_copyFrom_35 e f _ h' ⟨fun c => absurd c (nI_ge (a := i) (b := 10) hi (by omega)), fun _ => ⟨by rw [K4]; exact ke, _, by rw [R4]; exact re3, by rw [K4]; exact kf, _, by rw [R4]; exact rf3, by rw [K4]; exact kf3, by rw [N4, nf3]; exact vn (by omega) (by omega), by rw [K4]; exact ke3, by rw [N4, ne3]; exact vn (by omega) (by omega), by show hK h' e = 4; rw [K4]; exact ke, _, by show hR h' e 4 = _; rw [R4]; exact re4, by show hK h' f = 4; rw [K4]; exact kf, _, by show hR h' f 4 = _; rw [R4]; exact rf4, by show hK h' _ = 21; rw [K4]; exact kf4, by show vp_in _ (hN h' _); rw [N4, nf4]; exact vn (by omega) (by omega), by show hK h' _ = 21; rw [K4]; exact ke4, by show vp_in _ (hN h' _); rw [N4, ne4]; exact vn (by omega) (by omega), ?_⟩⟩
    rw [nI_clamp (n := i) (by omega), nI_1, rdn (a := e + 21) (x := f + 22) (by omega), (f04.2.2 (f + 21) (by omega)).1, (f04.2.2 (f + 22) (by omega)).1]
    intro h6 e6
    have f6 : Fr (fun x => e + 21 ≤ x ∧ x ≤ e + 23) h' h6 := by rw [e6]; exact (Fr.stI (by omega)).tr (Fr.stI (by omega))
    have f06 := f04.tr (f6.wd (B := fun x => e ≤ x ∧ x < e + 24) (fun x hx => by omega))
    have K6 := f06.K
    have R6 := f06.2.1
    have N6 := f06.N
    have v1 : ∀ k, hI h6 (e + 21) k = if k = i then hI h (f + 21) i else hI h' (e + 21) k := fun k => by
      rw [e6, rdn (by omega)]
      by_cases c : k = i
      · subst c; rw [if_pos rfl]; exact rdI
      · rw [if_neg c, rdn (by omega)]
    have v2 : ∀ k, hI h6 (e + 22) k = if k = i then hI h (f + 22) i else hI h' (e + 22) k := fun k => by
      rw [e6]
      by_cases c : k = i
      · subst c; rw [if_pos rfl]; exact rdI
      · rw [if_neg c, rdn (by omega), rdn (by omega)]
    have v3 : ∀ k, hI h6 (e + 23) k = hI h' (e + 23) k := fun k => by rw [e6, rdn (by omega), rdn (by omega)]
    clear e6
    refine ⟨by rw [K6]; exact ke, _, by rw [R6]; exact re5, by rw [K6]; exact kf, _, by rw [R6]; exact rf5, by rw [K6]; exact kf5, by rw [N6, nf5]; exact vn (by omega) (by omega), by rw [K6]; exact ke5, by rw [N6, ne5]; exact vn (by omega) (by omega), ?_⟩
    rw [(f06.2.2 (f + 23) (by omega)).1]
    refine ih () _ ⟨(f4.tr f6).tr (Fr.stI (by omega)), fun k hk => ?_⟩
    rw [rdn (a := e + 23) (x := e + 21) (by omega), rdn (a := e + 23) (x := e + 22) (by omega), v1, v2]
    by_cases c : k = i
    · subst c; rw [if_pos rfl, if_pos rfl]; exact ⟨rfl, rfl, rdI⟩
    · rw [if_neg c, if_neg c, rdn (by omega), v3]; exact e4 k (by omega)
theorem c_image {x : Int32} {Q : Int32 → HP → Prop} (L : Lay h) (H : CLd h 3 l) (hO : LdOK l cnt) (no : (∀ k, k < 4 → ¬ x = nI k) → Q (-1) h) (yes : ∀ k, k < 4 → x = nI k → ∀ h', Fr (fun x => (156 + 24 * k ≤ x ∧ x < 180 + 24 * k) ∨ x = 28) h h' → (∀ j, ¬ j = k → hI h' 28 j = hI h 28 j) → ¬ hI h' 28 k = 0 → CLd h' (156 + 24 * k) l → Q (nI (l.1.1.1 4)) h') : CallI g mX9_image (d + 2) [.ref 0, .int x] h Q := by
  refine wX9_image_0 _ L ?_
  rcases pk_ix x (n := 4) (by decide) with y | y | ⟨k, hk, rfl⟩
  · exact ⟨fun z => no (no_idx (by decide) (Or.inl z)), fun z => absurd y z⟩
  · exact ⟨fun z => no (no_idx (by decide) (Or.inl z)), fun _ => ⟨fun z => absurd z (Int32.not_lt.mpr y), fun _ => no (no_idx (by decide) (Or.inr y))⟩⟩
  rw [nI_clamp (n := k) (by omega)]
  refine ⟨fun z => absurd z (nI_pos (by omega)), fun _ => ⟨fun _ => ⟨vn (by omega) (by omega), _, Lim L (by omega), (Lle L (by omega)).1, c_ledCopy L (Lle L (by omega)) (Lle_3 L) (by omega) H hO (fun h1 f1 H1 => ⟨L.fr f1, ?_⟩)⟩, fun z => absurd (nI_lt (a := k) (b := 4) (by omega) (by omega)) z⟩⟩
  have e4 : hI h1 4 4 = nI (l.1.1.1 4) := by rw [(f1.2.2 4 (by omega)).1]; exact H.1.2.2.1 4 (by omega)
  rw [e4]
  refine yes k hk rfl _ ((f1.wd (fun x hx => by omega)).tr (Fr.stI (by omega))) (fun j hj => ?_) ?_ (H1.to hO rfl rfl rfl (fun x k h1 h2 => rdn (by omega)))
  · rw [rdn (by omega), (f1.2.2 28 (by omega)).1]
  · rw [rdI]; decide
theorem c_back {x : Int32} {Q : Int32 → HP → Prop} (L : Lay h) (H : ∀ k, k < 4 → ¬ hI h 28 k = 0 → ∃ l c, CLd h (156 + 24 * k) l ∧ LdOK l c) (no : (∀ k, k < 4 → x = nI k → hI h 28 k = 0) → Q (-1) h) (yes : ∀ k, k < 4 → x = nI k → ¬ hI h 28 k = 0 → ∀ l c, CLd h (156 + 24 * k) l → LdOK l c → ∀ h', Fr (fun x => 3 ≤ x ∧ x < 27) h h' → CLd h' 3 l → Q (nI (l.1.1.1 4)) h') : CallI g mX9_back (d + 2) [.ref 0, .int x] h Q := by
  refine wX9_back_0 _ L ?_
  rcases pk_ix x (n := 4) (by decide) with y | y | ⟨k, hk, rfl⟩
  · exact ⟨fun z => no (fun k hk e => absurd e (no_idx (by decide) (Or.inl z) k hk)), fun z => absurd y z⟩
  · exact ⟨fun z => no (fun k hk e => absurd e (no_idx (by decide) (Or.inl z) k hk)), fun _ => ⟨fun z => no (fun k hk e => absurd e (no_idx (by decide) (Or.inr z) k hk)), fun z => absurd y z⟩⟩
  rw [nI_clamp (n := k) (by omega)]
  refine ⟨fun z => absurd z (nI_pos (by omega)), fun _ => ⟨fun z => absurd z (nI_ge (a := k) (b := 4) (by omega) (by omega)), fun _ => ⟨vn (by omega) (by omega), fun z => no (fun k' hk' e => ?_), fun z => ⟨_, Lim L (by omega), ?_⟩⟩⟩⟩
  · have : k = k' := (nI_eq (by omega) (by omega)).mp e
    subst this; exact z
  · obtain ⟨l, c, H1, O1⟩ := H k hk z
    refine c_ledCopy L (Lle_3 L) (Lle L (by omega)) (by omega) H1 O1 (fun h1 f1 H2 => ⟨L.fr f1, ?_⟩)
    have e4 : hI h1 4 4 = nI (l.1.1.1 4) := H2.1.2.2.1 4 (by omega)
    rw [e4]
    exact yes k hk rfl z l c H1 O1 h1 f1 H2
end CIM
