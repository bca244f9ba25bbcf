/-! the two objects at rest, side by side -/
abbrev G4 : Type := Ld × ((Nat → Nat) × Nat) × ((Nat → Pg) × Nat) × (Nat → Option Ld)
def GC (h : HP) (G : G4) : Prop := Lay h ∧ CLd h 3 G.1 ∧ TpC G.2.1.1 G.2.1.2 h ∧ hI h 0 3 = nI G.2.2.1.2 ∧ CRs h G.2.2.1.1 G.2.2.1.2 ∧ ∀ k, k < 4 → (G.2.2.2 k = none → hI h 28 k = 0) ∧ ∀ l, G.2.2.2 k = some l → ¬ hI h 28 k = 0 ∧ CLd h (156 + 24 * k) l
def GM (h : HP) (G : G4) : Prop := MLv (hI h) (hI h 252 51) G.1 ∧ TpM G.2.1.1 G.2.1.2 h ∧ MRs h G.2.2.1.1 G.2.2.1.2 ∧ hI h 252 33 = 12 ∧ MF h ∧ ∀ k, k < 4 → (G.2.2.2 k = none → hI h 300 k = 0) ∧ ∀ l, G.2.2.2 k = some l → ¬ hI h 300 k = 0 ∧ MLv (imV h k) (hI h 299 (900 * k + 41)) l
def GO (G : G4) : Prop := LdOK G.1 G.2.2.1.2 ∧ G.2.2.1.2 ≤ 6 ∧ ∀ k l, k < 4 → G.2.2.2 k = some l → LdOK l G.2.2.1.2
def StG (h : HP) (G : G4) : Prop := GC h G ∧ GM h G ∧ GO G
theorem CLd.to2 {h h' : HP} {e : Nat} {l : Ld} {cnt : Nat} (H : CLd h e l) (hO : LdOK l cnt) (E : LeS h' e) (f : ∀ x k, e ≤ x → x < e + 24 → hI h' x k = hI h x k) : CLd h' e l := by
  obtain ⟨h1, h2, h3, h4, h5, h6⟩ := H
  have b1 := hO.1
  have n10 := hO.2.2.2.2.2.1.1
  refine ⟨⟨E.2.2.1.1, h1.2.1, fun k hk => by rw [f _ _ (by omega) (by omega)]; exact h1.2.2.1 k hk, fun r j hr => by have hr2 := hr; unfold rowOK at hr2; rw [f _ _ (by omega) (by omega)]; exact h1.2.2.2 r j hr⟩, ⟨E.2.2.1.2, h2.2.1, fun k hk => by rw [f _ _ (by omega) (by omega)]; exact h2.2.2.1 k hk, fun r j hr => by have hr2 := hr; unfold rowOK at hr2; rw [f _ _ (by omega) (by omega)]; exact h2.2.2.2 r j hr⟩, h3.fr hO.2.2.2.2.1 (fun x k hx => f x k (by omega) (by omega)), ⟨by rw [f _ _ (by omega) (by omega)]; exact h4.1, fun k hk => by rw [f _ _ (by omega) (by omega), f _ _ (by omega) (by omega), f _ _ (by omega) (by omega)]; exact h4.2 k hk⟩, by rw [f _ _ (by omega) (by omega)]; exact h5, by rw [f _ _ (by omega) (by omega)]; exact h6⟩
theorem TpC.to {T : Nat → Nat} {n : Nat} {h h' : HP} (H : TpC T n h) (e0 : hI h' 0 1 = hI h 0 1) (e : ∀ k, hI h' 1 k = hI h 1 k) : TpC T n h' := ⟨H.1, e0.trans H.2.1, fun i hi => (e i).trans (H.2.2.1 i hi), H.2.2.2⟩
theorem TpM.to {T : Nat → Nat} {n : Nat} {h h' : HP} (H : TpM T n h) (e0 : hI h' 252 24 = hI h 252 24) (e : ∀ k, hI h' 276 k = hI h 276 k) : TpM T n h' := ⟨H.1, e0.trans H.2.1, fun i hi => (e i).trans (H.2.2.1 i hi), H.2.2.2⟩
/-- the class's images stay -/
theorem imgC {h h' : HP} {G : G4} (H : GC h G) (O : GO G) (L : Lay h') {k : Nat} (hk : k < 4) (e28 : hI h' 28 k = hI h 28 k) (e : ∀ x j, 156 + 24 * k ≤ x ∧ x < 180 + 24 * k → hI h' x j = hI h x j) : (G.2.2.2 k = none → hI h' 28 k = 0) ∧ ∀ l, G.2.2.2 k = some l → ¬ hI h' 28 k = 0 ∧ CLd h' (156 + 24 * k) l := by
  obtain ⟨q1, q2⟩ := H.2.2.2.2.2 k hk
  refine ⟨fun z => by rw [e28]; exact q1 z, fun l el => ?_⟩
  obtain ⟨z1, z2⟩ := q2 l el
  exact ⟨by rw [e28]; exact z1, z2.to2 (O.2.2 k l hk el) (Lle L hk) (fun x j h1 h2 => e x j (by omega))⟩
theorem imgM {h h' : HP} {G : G4} (H : GM h G) (O : GO G) {k : Nat} (hk : k < 4) (e300 : hI h' 300 k = hI h 300 k) (e : ∀ c, 900 * k ≤ c → c < 900 * k + 785 → hI h' 299 c = hI h 299 c) : (G.2.2.2 k = none → hI h' 300 k = 0) ∧ ∀ l, G.2.2.2 k = some l → ¬ hI h' 300 k = 0 ∧ MLv (imV h' k) (hI h' 299 (900 * k + 41)) l := by
  obtain ⟨q1, q2⟩ := H.2.2.2.2.2 k hk
  refine ⟨fun z => by rw [e300]; exact q1 z, fun l el => ?_⟩
  obtain ⟨z1, z2⟩ := q2 l el
  refine ⟨by rw [e300]; exact z1, z2.to (O.2.2 k l hk el) (fun a j w => ?_) (e _ (by omega) (by omega))⟩
  have : offA a + j < 785 := by
    have q := us_all w
    sorry
  exact e _ (by omega) (by omega)
