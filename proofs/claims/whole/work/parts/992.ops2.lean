/-! notes and images, on both sides -/
section OI
variable {g : GT} {d : Nat} {h : HP} {G : G4}
theorem c_back2 {x : Int32} {im : Nat → Ld} {cnt : Nat} {Q : Int32 → HP → Prop} (L : Lay h) (H : ∀ k, k < 4 → ¬ hI h 28 k = 0 → CLd h (156 + 24 * k) (im k) ∧ LdOK (im k) cnt) (no : (∀ k, k < 4 → x = nI k → hI h 28 k = 0) → Q (-1) h) (yes : ∀ k, k < 4 → x = nI k → ¬ hI h 28 k = 0 → ∀ h', Fr (fun x => 3 ≤ x ∧ x < 27) h h' → CLd h' 3 (im k) → Q (nI ((im k).1.1.1 4)) h') : CallI g mX9_back (d + 2) [.ref 0, .int x] h Q := by
  refine wX9_back_0 _ L ?_
  rcases pk_ix x (n := 4) (by decide) with y | y | ⟨k, hk, rfl⟩
  · exact ⟨fun z => no (fun k hk e => absurd e (no_idx (by decide) (Or.inl z) k hk)), fun z => absurd y z⟩
  · exact ⟨fun z => no (fun k hk e => absurd e (no_idx (by decide) (Or.inl z) k hk)), fun _ => ⟨fun z => no (fun k hk e => absurd e (no_idx (by decide) (Or.inr z) k hk)), fun z => absurd y z⟩⟩
  rw [nI_clamp (n := k) (by omega)]
  refine ⟨fun z => absurd z (nI_pos (by omega)), fun _ => ⟨fun z => absurd z (nI_ge (a := k) (b := 4) (by omega) (by omega)), fun _ => ⟨vn (by omega) (by omega), fun z => no (fun k' hk' e => ?_), fun z => ⟨_, Lim L (by omega), ?_⟩⟩⟩⟩
  · have : k = k' := (nI_eq (by omega) (by omega)).mp e
    subst this; exact z
  · obtain ⟨H1, O1⟩ := H k hk z
    refine c_ledCopy L (Lle_3 L) (Lle L (by omega)) (by omega) H1 O1 (fun h1 f1 H2 => ⟨L.fr f1, ?_⟩)
    rw [show hI h1 4 4 = nI ((im k).1.1.1 4) from H2.1.2.2.1 4 (by omega)]
    exact yes k hk rfl z h1 f1 H2
theorem m_back2 {x : Int32} {im : Nat → Ld} {cnt : Nat} {Q : Int32 → HP → Prop} (L : Lay h) (H : ∀ k, k < 4 → ¬ hI h 300 k = 0 → MLv (imV h k) (hI h 299 (900 * k + 41)) (im k) ∧ LdOK (im k) cnt) (no : (∀ k, k < 4 → x = nI k → hI h 300 k = 0) → Q (-1) h) (yes : ∀ k, k < 4 → x = nI k → ¬ hI h 300 k = 0 → ∀ h', FrC ABk h h' → MLv (hI h') (hI h' 252 51) (im k) → Q (nI ((im k).1.1.1 4)) h') : CallI g mX10_back (d + 2) [.ref 252, .int x] h Q := by
  refine wX10_back_0 _ L (m_in L (a := 0) (b := 3) rfl rfl (by decide) (by decide) (fun k k1 k2 ek => ⟨L, fun z => absurd z (by decide), fun _ => ?_⟩) (fun nin => ⟨L, fun _ => no (fun k hk ek => absurd (show IN x 0 3 by rw [ek]; exact IN_j (by omega) (by omega) (by decide)) nin), fun z => absurd rfl z⟩))
  subst ek
  rw [nI_clamp (n := k) (by omega)]
  refine ⟨vn (by omega) (by omega), fun z => no (fun k' hk' ek' => ?_), fun z => ?_⟩
  · have := (nI_eq (by omega) (by omega)).mp ek'
    subst this
    exact z
  · obtain ⟨M, O⟩ := H k (by omega) z
    refine m_imageB (d := d) L (by omega) rfl (fun h2 L2 f2 e2 c2 => ⟨L2, ?_⟩)
    have M2 : MLv (hI h2) (hI h2 252 51) (im k) := M.to O (fun a j w => by rw [c2 a j w]; rfl) e2
    rw [M2.1 4 (by omega)]
    exact yes k (by omega) rfl z h2 f2 M2
theorem op_image {a : Int32} (S : StG h G) : BothQ g (d + 40) mX9_image mX10_image [.int a] h := by
  refine c_image S.1.1 S.1.2.1 S.2.2.1 (fun no => ?_) (fun k hk ek h1 f1 j1 n1 C1 => ?_)
  · exact And.intro (Lk (by first | assumption | exact S.1.1 | exact (S.c f1).1.1 | exact S.1.1.fr f1.1 | exact S.1.1.fr f1 | exact F1.1 | exact f1.lay S.1.1) K_252) <| m_image S.1.1 S.2.1.1 S.2.2.1 (fun _ => ⟨rfl, G, S⟩) (fun k hk ek => absurd ek (no k hk))
  · have L1 : Lay h1 := S.1.1.fr f1
    have a1 : ∀ x c, ¬ ((156 + 24 * k ≤ x ∧ x < 180 + 24 * k) ∨ x = 28) → hI h1 x c = hI h x c := fun x c w => by rw [(f1.2.2 x w).1]
    have M1 : GM h1 G := S.2.1.cls S.2.2 (fun x c hx => a1 x c (by omega))
    refine And.intro (Lk (by first | assumption | exact S.1.1 | exact (S.c f1).1.1 | exact S.1.1.fr f1.1 | exact S.1.1.fr f1 | exact F1.1 | exact f1.lay S.1.1) K_252) <| m_image L1 M1.1 S.2.2.1 (fun no => absurd ek (no k hk)) (fun k2 hk2 ek2 h2 f2 n2 V2 => ?_)
    have : k2 = k := (nI_eq (by omega) (by omega)).mp (ek2.symm.trans ek)
    subst this
    have L2 := f2.lay L1
    have a2 : ∀ x c, ¬ ((156 + 24 * k2 ≤ x ∧ x < 180 + 24 * k2) ∨ x = 28) → ¬ (ASv (900 * k2) x c ∨ (x = 300 ∧ c = k2)) → hI h2 x c = hI h x c := fun x c w w2 => (f2.I w2).trans (a1 x c w)
    refine ⟨rfl, (G.1, G.2.1, G.2.2.1, fun j => if j = k2 then some G.1 else G.2.2.2 j), ⟨L2, S.1.2.1.to2 S.2.2.1 (Lle_3 L2) (fun x c _ _ => a2 x c (by omega) (by unfold ASv; omega)), S.1.2.2.1.to (a2 _ _ (by omega) (by unfold ASv; omega)) (fun c => a2 _ _ (by omega) (by unfold ASv; omega)), (a2 _ _ (by omega) (by unfold ASv; omega)).trans S.1.2.2.2.1, S.1.2.2.2.2.1.to (fun x c hx => a2 x c (by omega) (by unfold ASv; omega)), fun k hk => ?_⟩, ⟨S.2.1.1.to S.2.2.1 (fun b j w => a2 b j (by have := (us_rg w).1; omega) (by have := (us_rg w).1; unfold ASv; omega)) (a2 _ _ (by omega) (by unfold ASv; omega)), S.2.1.2.1.to (a2 _ _ (by omega) (by unfold ASv; omega)) (fun c => a2 _ _ (by omega) (by unfold ASv; omega)), S.2.1.2.2.1.to (a2 _ _ (by omega) (by unfold ASv; omega)) (fun x c hx => a2 x c (by omega) (by unfold ASv; omega)), (a2 _ _ (by omega) (by unfold ASv; omega)).trans S.2.1.2.2.2.1, S.2.1.2.2.2.2.1.to (fun c => a2 _ _ (by omega) (by unfold ASv; omega)), fun k hk => ?_⟩, S.2.2.1, S.2.2.2.1, fun k l hk el => ?_, S.2.2.2.2.2⟩
    · show ((if k = k2 then some G.1 else G.2.2.2 k) = none → _) ∧ ∀ l, (if k = k2 then some G.1 else G.2.2.2 k) = some l → _
      by_cases c : k = k2
      · subst c
        rw [if_pos rfl]
        refine ⟨fun z => absurd z (by simp), fun l el => ?_⟩
        have el := Option.some.inj el
        subst el
        exact ⟨by rw [f2.I (by unfold ASv; omega)]; exact n1, C1.to2 S.2.2.1 (Lle L2 hk) (fun x c _ _ => f2.I (by unfold ASv; omega))⟩
      · rw [if_neg c]
        exact imgC S.1 S.2.2 L2 hk (by rw [f2.I (by unfold ASv; omega)]; exact j1 k c) (fun x j hx => a2 x j (by omega) (by unfold ASv; omega))
    · show ((if k = k2 then some G.1 else G.2.2.2 k) = none → _) ∧ ∀ l, (if k = k2 then some G.1 else G.2.2.2 k) = some l → _
      by_cases c : k = k2
      · subst c
        rw [if_pos rfl]
        refine ⟨fun z => absurd z (by simp), fun l el => ?_⟩
        have el := Option.some.inj el
        subst el
        exact ⟨n2, V2⟩
      · rw [if_neg c]
        exact imgM S.2.1 S.2.2 hk (a2 _ _ (by omega) (by unfold ASv; omega)) (fun q h1 h2 => a2 _ _ (by omega) (by unfold ASv; omega))
    · have el : (if k = k2 then some G.1 else G.2.2.2 k) = some l := el
      by_cases c : k = k2
      · rw [if_pos c] at el
        have el := Option.some.inj el
        subst el
        exact S.2.2.1
      · rw [if_neg c] at el
        exact S.2.2.2.2.1 k l hk el
theorem op_back {a : Int32} (S : StG h G) : BothQ g (d + 40) mX9_back mX10_back [.int a] h := by
  have im : ∀ k, k < 4 → ∃ l, (¬ hI h 28 k = 0 → G.2.2.2 k = some l) ∧ (¬ hI h 300 k = 0 → G.2.2.2 k = some l) := fun k hk => by
    cases e : G.2.2.2 k with
    | none => exact ⟨G.1, fun z => absurd ((S.1.2.2.2.2.2 k hk).1 e) z, fun z => absurd ((S.2.1.2.2.2.2.2 k hk).1 e) z⟩
    | some l => exact ⟨l, fun _ => rfl, fun _ => rfl⟩
  have dz : ∀ k, k < 4 → (hI h 28 k = 0 ↔ hI h 300 k = 0) := fun k hk => by
    cases e : G.2.2.2 k with
    | none => exact ⟨fun _ => (S.2.1.2.2.2.2.2 k hk).1 e, fun _ => (S.1.2.2.2.2.2 k hk).1 e⟩
    | some l => exact ⟨fun z => absurd z ((S.1.2.2.2.2.2 k hk).2 l e).1, fun z => absurd z ((S.2.1.2.2.2.2.2 k hk).2 l e).1⟩
  obtain ⟨f, hf⟩ : ∃ f : Nat → Ld, ∀ k, k < 4 → (¬ hI h 28 k = 0 → G.2.2.2 k = some (f k)) := ⟨fun k => (G.2.2.2 k).getD G.1, fun k hk z => by
    obtain ⟨l, q, -⟩ := im k hk
    show G.2.2.2 k = some ((G.2.2.2 k).getD G.1)
    rw [q z]; rfl⟩
  refine c_back2 (im := f) (cnt := G.2.2.1.2) S.1.1 (fun k hk z => ?_) (fun no => ?_) (fun k hk ek z h1 f1 C1 => ?_)
  · exact ⟨((S.1.2.2.2.2.2 k hk).2 _ (hf k hk z)).2, S.2.2.2.2.1 k _ hk (hf k hk z)⟩
  · refine And.intro (Lk (by first | assumption | exact S.1.1 | exact (S.c f1).1.1 | exact S.1.1.fr f1.1 | exact S.1.1.fr f1 | exact F1.1 | exact f1.lay S.1.1) K_252) <| m_back2 (im := f) (cnt := G.2.2.1.2) S.1.1 (fun k hk z => ?_) (fun _ => ⟨rfl, G, S⟩) (fun k hk ek z => absurd ((dz k hk).mp (no k hk ek)) z)
    have z1 : ¬ hI h 28 k = 0 := fun y => z ((dz k hk).mp y)
    exact ⟨((S.2.1.2.2.2.2.2 k hk).2 _ (hf k hk z1)).2, S.2.2.2.2.1 k _ hk (hf k hk z1)⟩
  · have L1 : Lay h1 := S.1.1.fr f1
    have a1 : ∀ x c, ¬ (3 ≤ x ∧ x < 27) → hI h1 x c = hI h x c := fun x c w => by rw [(f1.2.2 x w).1]
    have M1 : GM h1 G := S.2.1.cls S.2.2 (fun x c hx => a1 x c (by omega))
    have e3 : ∀ k, hI h1 300 k = hI h 300 k := fun k => a1 _ _ (by omega)
    refine And.intro (Lk (by first | assumption | exact S.1.1 | exact (S.c f1).1.1 | exact S.1.1.fr f1.1 | exact S.1.1.fr f1 | exact F1.1 | exact f1.lay S.1.1) K_252) <| m_back2 (im := f) (cnt := G.2.2.1.2) L1 (fun k hk z => ?_) (fun no => absurd ((dz k hk).mpr ((e3 k).symm.trans (no k hk ek))) z) (fun k2 hk2 ek2 z2 h2 f2 M2 => ?_)
    · have z1 : ¬ hI h 28 k = 0 := fun y => z ((e3 k).trans ((dz k hk).mp y))
      exact ⟨((M1.2.2.2.2.2 k hk).2 _ (hf k hk z1)).2, S.2.2.2.2.1 k _ hk (hf k hk z1)⟩
    · have : k2 = k := (nI_eq (by omega) (by omega)).mp (ek2.symm.trans ek)
      subst this
      have L2 := f2.lay L1
      have nu : ∀ x c, ¬ ((253 ≤ x ∧ x ≤ 268) ∨ x = 290) → ¬ (x = 252 ∧ (c = 51 ∨ c = 63 ∨ c = 64)) → ¬ x = 291 → ¬ ABk x c := fun x c w1 w2 w3 w => by
        unfold ABk at w
        rcases w with w | w | w
        · exact w1 (us_rg w).1
        · exact w2 w
        · exact w3 w
      exact ⟨rfl, _, S.led (f k2) L2 (C1.to2 (S.2.2.2.2.1 k2 _ hk (hf k2 hk z)) (Lle_3 L2) (fun x c _ _ => f2.I (nu x c (by omega) (by omega) (by omega)))) M2 (S.2.2.2.2.1 k2 _ hk (hf k2 hk z)) (fun x c hx => (f2.I (nu x c (by omega) (by omega) (by omega))).trans (a1 x c (by omega))) (fun c hc => (f2.I (nu _ c (by omega) (by omega) (by omega))).trans (a1 _ c (by omega))) (fun x c hx => (f2.I (nu x c (by omega) (by omega) (by omega))).trans (a1 x c (by omega))) (fun c hc => (f2.I (nu _ c (by omega) (by omega) (by omega))).trans (a1 _ c (by omega)))⟩
end OI
