/-! the two objects at rest, side by side -/
abbrev G4 : Type := Ld × ((Nat → Nat) × Nat) × ((Nat → Pg) × Nat) × (Nat → Option Ld)
def GC (h : HP) (G : G4) : Prop := Lay h ∧ CLd h 3 G.1 ∧ TpC G.2.1.1 G.2.1.2 h ∧ hI h 0 3 = nI G.2.2.1.2 ∧ CRs h G.2.2.1.1 G.2.2.1.2 ∧ ∀ k, k < 4 → (G.2.2.2 k = none → hI h 28 k = 0) ∧ ∀ l, G.2.2.2 k = some l → ¬ hI h 28 k = 0 ∧ CLd h (156 + 24 * k) l
def GM (h : HP) (G : G4) : Prop := MLv (hI h) (hI h 252 51) G.1 ∧ TpM G.2.1.1 G.2.1.2 h ∧ MRs h G.2.2.1.1 G.2.2.1.2 ∧ hI h 252 33 = 12 ∧ MF h ∧ ∀ k, k < 4 → (G.2.2.2 k = none → hI h 300 k = 0) ∧ ∀ l, G.2.2.2 k = some l → ¬ hI h 300 k = 0 ∧ MLv (imV h k) (hI h 299 (900 * k + 41)) l
def GO (G : G4) : Prop := LdOK G.1 G.2.2.1.2 ∧ G.2.2.1.2 ≤ 6 ∧ (∀ k l, k < 4 → G.2.2.2 k = some l → LdOK l G.2.2.1.2) ∧ ∀ r, r < G.2.2.1.2 → (G.2.2.1.1 r).2.1 (G.2.2.1.1 r).1 ≤ 299
def StG (h : HP) (G : G4) : Prop := GC h G ∧ GM h G ∧ GO G
theorem CLd.to2 {h h' : HP} {e : Nat} {l : Ld} {cnt : Nat} (H : CLd h e l) (hO : LdOK l cnt) (E : LeS h' e) (f : ∀ x k, e ≤ x → x < e + 24 → hI h' x k = hI h x k) : CLd h' e l := by
  obtain ⟨h1, h2, h3, h4, h5, h6⟩ := H
  have b1 := hO.1
  have n10 := hO.2.2.2.2.2.1.1
  refine ⟨⟨E.2.2.1.1, h1.2.1, fun k hk => by rw [f _ _ (by omega) (by omega)]; exact h1.2.2.1 k hk, fun r j hr => by have hr2 := hr; unfold rowOK at hr2; rw [f _ _ (by omega) (by omega)]; exact h1.2.2.2 r j hr⟩, ⟨E.2.2.1.2, h2.2.1, fun k hk => by rw [f _ _ (by omega) (by omega)]; exact h2.2.2.1 k hk, fun r j hr => by have hr2 := hr; unfold rowOK at hr2; rw [f _ _ (by omega) (by omega)]; exact h2.2.2.2 r j hr⟩, h3.fr hO.2.2.2.2.1 (fun x k hx => f x k (by omega) (by omega)), ⟨by rw [f _ _ (by omega) (by omega)]; exact h4.1, fun k hk => by rw [f _ _ (by omega) (by omega), f _ _ (by omega) (by omega), f _ _ (by omega) (by omega)]; exact h4.2 k hk⟩, by rw [f _ _ (by omega) (by omega)]; exact h5, by rw [f _ _ (by omega) (by omega)]; exact h6⟩
theorem TpC.to {T : Nat → Nat} {n : Nat} {h h' : HP} (H : TpC T n h) (e0 : hI h' 0 1 = hI h 0 1) (e : ∀ k, hI h' 1 k = hI h 1 k) : TpC T n h' := ⟨H.1, e0.trans H.2.1, fun i hi => (e i).trans (H.2.2.1 i hi), H.2.2.2⟩
theorem TpM.to {T : Nat → Nat} {n : Nat} {h h' : HP} (H : TpM T n h) (e0 : hI h' 252 24 = hI h 252 24) (e : ∀ k, hI h' 276 k = hI h 276 k) : TpM T n h' := ⟨H.1, e0.trans H.2.1, fun i hi => (e i).trans (H.2.2.1 i hi), H.2.2.2⟩
theorem us_rg {a j : Nat} (w : usA a j) : ((253 ≤ a ∧ a ≤ 268) ∨ a = 290) ∧ j < 680 := by
  unfold usA at w
  rcases w with ⟨q, w⟩ | ⟨q, w⟩ | ⟨q, w⟩ | ⟨q, w⟩ | ⟨q, w⟩ | ⟨q, w⟩ | ⟨q, w⟩
  · exact ⟨Or.inl (by omega), by omega⟩
  · exact ⟨Or.inl (by omega), by omega⟩
  · exact ⟨Or.inl (by omega), by omega⟩
  · exact ⟨Or.inl (by omega), by omega⟩
  · exact ⟨Or.inl (by omega), by omega⟩
  · exact ⟨Or.inl (by omega), by omega⟩
  · exact ⟨Or.inr q, by omega⟩
theorem offA_le (a : Nat) : offA a ≤ 105 := by
  have I : ∀ (c : Prop) [Decidable c] (x y : Nat), x ≤ 105 → y ≤ 105 → (if c then x else y) ≤ 105 := fun c _ x y h1 h2 => by
    by_cases z : c
    · rw [if_pos z]; exact h1
    · rw [if_neg z]; exact h2
  exact (I _ _ _ (by decide) (I _ _ _ (by decide) (I _ _ _ (by decide) (I _ _ _ (by decide) (I _ _ _ (by decide) (I _ _ _ (by decide) (I _ _ _ (by decide) (I _ _ _ (by decide) (I _ _ _ (by decide) (I _ _ _ (by decide) (I _ _ _ (by decide) (I _ _ _ (by decide) (I _ _ _ (by decide) (I _ _ _ (by decide) (I _ _ _ (by decide) (I _ _ _ (by decide) (I _ _ _ (by decide) (Nat.le_refl _))))))))))))))))))
/-- the class's images stay -/
theorem imgC {h h' : HP} {G : G4} (H : GC h G) (O : GO G) (L : Lay h') {k : Nat} (hk : k < 4) (e28 : hI h' 28 k = hI h 28 k) (e : ∀ x j, 156 + 24 * k ≤ x ∧ x < 180 + 24 * k → hI h' x j = hI h x j) : (G.2.2.2 k = none → hI h' 28 k = 0) ∧ ∀ l, G.2.2.2 k = some l → ¬ hI h' 28 k = 0 ∧ CLd h' (156 + 24 * k) l := by
  obtain ⟨q1, q2⟩ := H.2.2.2.2.2 k hk
  refine ⟨fun z => by rw [e28]; exact q1 z, fun l el => ?_⟩
  obtain ⟨z1, z2⟩ := q2 l el
  exact ⟨by rw [e28]; exact z1, z2.to2 (O.2.2.1 k l hk el) (Lle L hk) (fun x j h1 h2 => e x j (by omega))⟩
theorem imgM {h h' : HP} {G : G4} (H : GM h G) (O : GO G) {k : Nat} (hk : k < 4) (e300 : hI h' 300 k = hI h 300 k) (e : ∀ c, 900 * k ≤ c → c < 900 * k + 785 → hI h' 299 c = hI h 299 c) : (G.2.2.2 k = none → hI h' 300 k = 0) ∧ ∀ l, G.2.2.2 k = some l → ¬ hI h' 300 k = 0 ∧ MLv (imV h' k) (hI h' 299 (900 * k + 41)) l := by
  obtain ⟨q1, q2⟩ := H.2.2.2.2.2 k hk
  refine ⟨fun z => by rw [e300]; exact q1 z, fun l el => ?_⟩
  obtain ⟨z1, z2⟩ := q2 l el
  refine ⟨by rw [e300]; exact z1, z2.to (O.2.2.1 k l hk el) (fun a j w => ?_) (e _ (by omega) (by omega))⟩
  have : offA a + j < 785 := by
    have := offA_le a
    have := (us_rg w).2
    omega
  exact e _ (by omega) (by omega)
theorem StG.cz {h : HP} {G : G4} (S : StG h G) : CZ h (rhoC G.2.2.1.1 G.1.2.2.2.1) G.1.1.1 := by
  obtain ⟨⟨L, H, T, e03, R, I⟩, M, O⟩ := S
  refine ⟨L, H.1, O.1.2.1, G.2.2.1.2, O.2.1, e03, ?_⟩
  have e7 := H.2.2.2.2.1
  have hc : G.1.2.2.2.1 ≤ G.2.2.1.2 := O.1.2.2.2.2.2.2.1
  unfold rhoC
  rcases pl_cases G.1.2.2.2.1 with ⟨q1, q2⟩ | ⟨j, q1, q2⟩
  · rw [if_pos q2]; exact Or.inl ⟨e7.trans q1, rfl⟩
  · rw [if_neg (by omega)]
    refine Or.inr ⟨j, G.2.2.1.1 j, by omega, e7.trans q2, R.2 j (by omega), ?_⟩
    rw [q1, Nat.add_sub_cancel]
theorem StG.td {h : HP} {G : G4} (S : StG h G) : TD h 253 G.1.1.1 := ⟨S.2.2.1.1, S.2.1.1.1, S.2.1.1.2.1⟩
theorem StG.mz {h : HP} {G : G4} (S : StG h G) : MZ h (rhoC G.2.2.1.1 G.1.2.2.2.1) G.1.1.1 := ⟨S.1.1, S.td, S.2.2.1.2.1, S.2.1.2.2.1.rho S.2.2.1.2.2.2.2.2.2.1 S.2.1.1.2.2.2.2.1, S.2.1.2.2.2.2.1⟩
theorem StG.hb {h : HP} {G : G4} (S : StG h G) : G.1.1.1.1 4 ≤ 2000 := by have := S.2.2.1.2.2.1; omega
theorem StG.mnt {h : HP} {G : G4} (S : StG h G) : MNt h G.1.2.2.1 := S.2.1.1.2.2.1
theorem StG.cnt {h : HP} {G : G4} (S : StG h G) : CNt h G.1.2.2.1 := S.1.2.1.2.2.2.1
theorem StG.mto {h : HP} {G : G4} (S : StG h G) : MTo h G.1.1.2 := S.2.1.1.2.2.2.2.2.1
theorem StG.mps {h : HP} {G : G4} (S : StG h G) : MPs h G.1.2.1 := ⟨S.2.2.1.2.2.2.2.1.1, S.2.1.1.2.2.2.2.2.2.1, S.2.1.1.2.2.2.2.2.2.2⟩
/-- what the class has, where only its own working cells have changed -/
theorem GC.to {h h' : HP} {G : G4} (H : GC h G) (O : GO G) (L : Lay h') (e : ∀ x k, x ≤ 28 ∨ (126 ≤ x ∧ x < 252) → hI h' x k = hI h x k) : GC h' G :=
  ⟨L, H.2.1.to2 O.1 (Lle_3 L) (fun x k _ _ => e x k (by omega)), H.2.2.1.to (e _ _ (by omega)) (fun k => e _ _ (by omega)), (e _ _ (by omega)).trans H.2.2.2.1, H.2.2.2.2.1.to (fun x k hx => e x k (by omega)), fun k hk => imgC H O L hk (e _ _ (by omega)) (fun x j hx => e x j (by omega))⟩
theorem GM.to {h h' : HP} {G : G4} (H : GM h G) (O : GO G) (hF : MF h') (e2 : ∀ k, k = 24 ∨ k = 28 ∨ k = 33 ∨ k = 51 → hI h' 252 k = hI h 252 k) (e : ∀ x k, (253 ≤ x ∧ x ≤ 268) ∨ (276 ≤ x ∧ x ≤ 282) ∨ x = 290 ∨ x = 300 → hI h' x k = hI h x k) (e9 : ∀ k, k < 3600 → hI h' 299 k = hI h 299 k) : GM h' G :=
  ⟨H.1.to O.1 (fun a j w => e a j (by have := (us_rg w).1; omega)) (e2 _ (by omega)), H.2.1.to (e2 _ (by omega)) (fun k => e _ _ (by omega)), H.2.2.1.to (e2 _ (by omega)) (fun x k hx => e x k (by omega)), (e2 _ (by omega)).trans H.2.2.2.1, hF, fun k hk => imgM H O hk (e _ _ (by omega)) (fun c h1 h2 => e9 c (by omega))⟩
theorem MF.to {h h' : HP} (H : MF h) (e : ∀ k, hI h' 286 k = hI h 286 k) : MF h' := fun q hq => (e q).trans (H q hq)
theorem GM.cls {h h' : HP} {G : G4} (H : GM h G) (O : GO G) (e : ∀ x k, 252 ≤ x → hI h' x k = hI h x k) : GM h' G := H.to O (H.2.2.2.2.1.to (fun k => e _ _ (by omega))) (fun k _ => e _ _ (by omega)) (fun x k hx => e x k (by omega)) (fun k _ => e _ _ (by omega))
theorem StG.c {h h' : HP} {G : G4} (S : StG h G) (f : RC h h') : StG h' G := by
  have L : Lay h' := S.1.1.fr f
  exact ⟨S.1.to S.2.2 L (fun x k hx => by rw [(f.2.2 x (by omega)).1]), S.2.1.cls S.2.2 (fun x k hx => by rw [(f.2.2 x (by omega)).1]), S.2.2⟩
theorem StG.m {h h' : HP} {G : G4} (S : StG h G) (f : RM h h') : StG h' G := by
  have L : Lay h' := f.1.lay S.1.1
  exact ⟨S.1.to S.2.2 L (fun x k hx => f.1.I (by unfold AF; omega)), S.2.1.to S.2.2 f.2 (fun k hk => f.1.I (by unfold AF; omega)) (fun x k hx => f.1.I (by unfold AF; omega)) (fun k hk => f.1.I (by unfold AF; omega)), S.2.2⟩
