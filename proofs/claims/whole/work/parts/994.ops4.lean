/-! city and rule, on both sides -/
theorem StG.all {h h2 : HP} {G : G4} {l : Ld} {T : Nat → Nat} {n cnt : Nat} {P : Nat → Pg} (S : StG h G) (L : Lay h2) (C : CLd h2 3 l) (TC : TpC T n h2) (e03 : hI h2 0 3 = nI cnt) (R : CRs h2 P cnt) (M : MLv (hI h2) (hI h2 252 51) l) (TM : TpM T n h2) (R' : MRs h2 P cnt) (O : LdOK l cnt) (hle : G.2.2.1.2 ≤ cnt) (hc : cnt ≤ 6) (hP : ∀ r, r < cnt → (P r).2.1 (P r).1 ≤ 299) (e28 : ∀ k, hI h2 28 k = hI h 28 k) (eI : ∀ x k, 156 ≤ x ∧ x < 252 → hI h2 x k = hI h x k) (e33 : hI h2 252 33 = hI h 252 33) (e286 : ∀ k, hI h2 286 k = hI h 286 k) (e299 : ∀ k, k < 3600 → hI h2 299 k = hI h 299 k) (e300 : ∀ k, hI h2 300 k = hI h 300 k) : StG h2 (l, (T, n), (P, cnt), G.2.2.2) :=
  ⟨⟨L, C, TC, e03, R, fun k hk => imgC S.1 S.2.2 L hk (e28 k) (fun x j hx => eI x j (by omega))⟩, ⟨M, TM, R', e33.trans S.2.1.2.2.2.1, S.2.1.2.2.2.2.1.to e286, fun k hk => imgM S.2.1 S.2.2 hk (e300 k) (fun c _ _ => e299 c (by omega))⟩, O, hc, fun k l hk el => (S.2.2.2.2.1 k l hk el).mono hle, hP⟩
section OC
variable {g : GT} {d : Nat} {h : HP} {G : G4}
theorem StG.mt0 (S : StG h G) {h1 : HP} (L : Lay h1) (e24 : hI h1 252 24 = hI h 252 24) (e : ∀ k, hI h1 276 k = hI h 276 k) : MT0 G.2.1.1 G.2.1.2 h1 := ⟨L, S.2.1.2.1.1, e24.trans S.2.1.2.1.2.1, fun i hi => (e i).trans (S.2.1.2.1.2.2.1 i hi), S.2.1.2.1.2.2.2⟩
theorem tp0C {T : Nat → Nat} {h1 : HP} (e : hI h1 0 1 = 0) : TpC T 0 h1 := ⟨Nat.zero_le _, e, fun i hi => absurd hi (Nat.not_lt_zero _), fun i hi => absurd hi (Nat.not_lt_zero _)⟩
theorem tp0M {T : Nat → Nat} {h1 : HP} (e : hI h1 252 24 = 0) : TpM T 0 h1 := ⟨Nat.zero_le _, e, fun i hi => absurd hi (Nat.not_lt_zero _), fun i hi => absurd hi (Nat.not_lt_zero _)⟩
theorem op_city (S : StG h G) : BothQ g (d + 40) mX9_city mX10_city [] h := by
  refine c_city (T := G.2.1.1) (n := G.2.1.2) S.1.1 S.1.2.2.1.1 S.1.2.2.1.2.1 S.1.2.2.1.2.2 (fun h1 f F1 k1 e1 E1 hf => ?_) (fun h1 t k F1 e1 E1 O1 T4 T13 q1 q2 q6 => ?_)
  · have a1 : ∀ x k, 252 ≤ x → hI h1 x k = hI h x k := fun x k hx => F1.2.2.2 x k (by unfold ACy; omega)
    refine And.intro (Lk (by first | assumption | exact S.1.1 | exact (S.c f1).1.1 | exact S.1.1.fr f1.1 | exact S.1.1.fr f1 | exact F1.1 | exact f1.lay S.1.1) K_252) <| m_city0 (T := G.2.1.1) (n := G.2.1.2) (S.mt0 F1.1 (a1 _ _ (by omega)) (fun k => a1 _ _ (by omega))) (fun h2 f2 F2 e2 E2 hf2 => ?_) (fun h2 t k F2 e2 E2 => absurd (E1.symm.trans E2) (by simp))
    have : f2 = f := Sum.inl.inj (E2.symm.trans E1)
    subst this
    have L2 := F2.lay F1.1
    have ac : ∀ x k, (x = 0 ∧ ¬ k = 1) ∨ (2 ≤ x ∧ x ≤ 28) ∨ (126 ≤ x ∧ x < 252) → hI h2 x k = hI h x k := fun x k hx => by
      rw [F2.I (by unfold AMf; omega)]
      by_cases c : 3 ≤ x ∧ x ≤ 22
      · exact k1 x k c
      · exact F1.2.2.2 x k (by unfold ACy; omega)
    have am : ∀ x k, ¬ AMf x k → 252 ≤ x → hI h2 x k = hI h x k := fun x k w hx => (F2.I w).trans (a1 x k hx)
    exact ⟨rfl, _, S.all (T := G.2.1.1) (n := 0) L2 (S.1.2.1.to2 S.2.2.1 (Lle_3 L2) (fun x k _ _ => ac x k (by omega))) (tp0C ((F2.I (by unfold AMf; omega)).trans e1)) ((ac _ _ (by omega)).trans S.1.2.2.2.1) (S.1.2.2.2.2.1.to (fun x k hx => ac x k (by omega))) (S.2.1.1.to S.2.2.1 (fun a j w => am a j (by have := (us_rg w).1; unfold AMf; omega) (by have := (us_rg w).1; omega)) (am _ _ (by unfold AMf; omega) (by omega))) (tp0M e2) (S.2.1.2.2.1.to (am _ _ (by unfold AMf; omega) (by omega)) (fun x k hx => am x k (by unfold AMf; omega) (by omega))) S.2.2.1 (Nat.le_refl _) S.2.2.2.1 S.2.2.2.2.2 (fun k => ac _ _ (by omega)) (fun x k hx => ac x k (by omega)) (am _ _ (by unfold AMf; omega) (by omega)) (fun k => am _ _ (by unfold AMf; omega) (by omega)) (fun k _ => am _ _ (by unfold AMf; omega) (by omega)) (fun k => am _ _ (by unfold AMf; omega) (by omega))⟩
  · have a1 : ∀ x k, 252 ≤ x → hI h1 x k = hI h x k := fun x k hx => F1.2.2.2 x k (by unfold ACy; omega)
    refine And.intro (Lk (by first | assumption | exact S.1.1 | exact (S.c f1).1.1 | exact S.1.1.fr f1.1 | exact S.1.1.fr f1 | exact F1.1 | exact f1.lay S.1.1) K_252) <| m_city0 (T := G.2.1.1) (n := G.2.1.2) (S.mt0 F1.1 (a1 _ _ (by omega)) (fun k => a1 _ _ (by omega))) (fun h2 f2 F2 e2 E2 hf2 => absurd (E1.symm.trans E2) (by simp)) (fun h2 t2 k2 F2 e2 E2 O2 D2 To2 n5 p51 => ?_)
    have : t2 = t := Sum.inr.inj (E2.symm.trans E1)
    subst this
    have L2 := F2.lay F1.1
    have nz : ∀ x k, x < 252 → ¬ AMg x k := fun x k hx w => by unfold AMg AMf at w; omega
    have ac : ∀ x k, ¬ ACy x k → x < 252 → hI h2 x k = hI h x k := fun x k w hx => (F2.I (nz x k hx)).trans (F1.2.2.2 x k w)
    have am : ∀ x k, ¬ AMg x k → 252 ≤ x → hI h2 x k = hI h x k := fun x k w hx => (F2.I w).trans (a1 x k hx)
    have H := S.1.2.1
    have V := S.2.1.1
    have O := S.2.2.1
    have hB := O2.1
    have OL : LdOK ((t2, t2), (0, G.1.2.1.2), (0, G.1.2.2.1.2), G.1.2.2.2) G.2.2.1.2 := by
      refine ⟨O2.1, O2.tr, by rw [O2.2.1]; omega, ⟨O2.1, O2.tr, fun _ _ => rfl, O2.2.1, fun i hi => ?_⟩, ⟨Nat.zero_le _, fun i hi => absurd hi (Nat.not_lt_zero _)⟩, ⟨Nat.zero_le _, fun i hi => absurd hi (Nat.not_lt_zero _)⟩, O.2.2.2.2.2.2⟩
      have := O2.2.2.2.2.2 i hi
      exact ⟨rfl, rfl, this.2.2.2.1, this.2.2.2.2⟩
    have tw : ∀ a, a = 4 ∨ a = 13 → TownIs h1 a t2 → TwS h2 a → TownIs h2 a t2 := fun a ha q w => ⟨w, q.2.1, fun k hk => by rw [F2.I (nz _ _ (by omega))]; exact q.2.2.1 k hk, fun r j hr => by have z := hr; unfold rowOK at z; rw [F2.I (nz _ _ (by omega))]; exact q.2.2.2 r j hr⟩
    have CL : CLd h2 3 ((t2, t2), (0, G.1.2.1.2), (0, G.1.2.2.1.2), G.1.2.2.2) := by
      refine ⟨tw 4 (Or.inl rfl) T4 (Ltw_4 L2), tw 13 (Or.inr rfl) T13 (Ltw_13 L2), ⟨0, by omega, Nat.zero_le _, ?_, ?_, fun i hi => absurd hi (Nat.not_lt_zero _)⟩, ⟨?_, fun k hk => absurd hk (Nat.not_lt_zero _)⟩, ?_, ?_⟩
      · rw [F2.I (nz _ _ (by omega))]; exact q1
      · rw [F2.I (nz _ _ (by omega))]; exact q2
      · rw [F2.I (nz _ _ (by omega))]; exact q6
      · rw [ac _ _ (by unfold ACy; omega) (by omega)]; exact H.2.2.2.2.1
      · rw [ac _ _ (by unfold ACy; omega) (by omega)]; exact H.2.2.2.2.2
    have ML : MLv (hI h2) (hI h2 252 51) ((t2, t2), (0, G.1.2.1.2), (0, G.1.2.2.1.2), G.1.2.2.2) := by
      refine ⟨D2.2.1, D2.2.2, ⟨n5, fun k hk => absurd hk (Nat.not_lt_zero _)⟩, ?_, ?_, To2, p51, fun i hi => absurd hi (Nat.not_lt_zero _)⟩
      · rw [am _ _ (by unfold AMg AMf; omega) (by omega)]; exact V.2.2.2.1
      · rw [am _ _ (by unfold AMg AMf; omega) (by omega)]; exact V.2.2.2.2.1
    exact ⟨rfl, _, S.all (T := G.2.1.1) (n := 0) L2 CL (tp0C ((F2.I (nz _ _ (by omega))).trans e1)) ((ac _ _ (by unfold ACy; omega) (by omega)).trans S.1.2.2.2.1) (S.1.2.2.2.2.1.to (fun x k hx => ac x k (by unfold ACy; omega) (by omega))) ML (tp0M e2) (S.2.1.2.2.1.to (am _ _ (by unfold AMg AMf; omega) (by omega)) (fun x k hx => am x k (by unfold AMg AMf; omega) (by omega))) OL (Nat.le_refl _) S.2.2.2.1 S.2.2.2.2.2 (fun k => ac _ _ (by unfold ACy; omega) (by omega)) (fun x k hx => ac x k (by unfold ACy; omega) (by omega)) (am _ _ (by unfold AMg AMf; omega) (by omega)) (fun k => am _ _ (by unfold AMg AMf; omega) (by omega)) (fun k _ => am _ _ (by unfold AMg AMf; omega) (by omega)) (fun k => am _ _ (by unfold AMg AMf; omega) (by omega))⟩
theorem op_rule (S : StG h G) : BothQ g (d + 40) mX9_rule mX10_rule [] h := by
  have c6 := S.2.2.2.1
  have H := S.1.2.1
  have V := S.2.1.1
  have O := S.2.2.1
  -- what stays
  have fr : ∀ h1 h2, FLy (ARr G.2.2.1.2) h h1 → FrC (AMr G.2.2.1.2) h1 h2 → (∀ x k, ¬ ARr G.2.2.1.2 x k → x < 252 → hI h2 x k = hI h x k) ∧ (∀ x k, ¬ AMr G.2.2.1.2 x k → 252 ≤ x → hI h2 x k = hI h x k) := fun h1 h2 F1 F2 => ⟨fun x k w hx => (F2.I (fun z => by unfold AMr MZr MY MX at z; omega)).trans (F1.2.2.2 x k w), fun x k w hx => (F2.I w).trans (F1.2.2.2 x k (fun z => by unfold ARr at z; omega))⟩
  have fin : ∀ (h1 h2 : HP) (P : Nat → Pg) (cnt : Nat), FLy (ARr G.2.2.1.2) h h1 → FrC (AMr G.2.2.1.2) h1 h2 → G.2.2.1.2 < 6 → G.2.2.1.2 ≤ cnt → cnt ≤ 6 → hI h1 0 1 = 0 → hI h2 252 24 = 0 → hI h2 0 3 = nI cnt → CRs h2 P cnt → MRs h2 P cnt → (∀ r, r < cnt → (P r).2.1 (P r).1 ≤ 299) → ∃ G', StG h2 G' := by
    intro h1 h2 P cnt F1 F2 hc hle hc6 e1 e2 e3 R R' hP
    obtain ⟨ac, am⟩ := fr h1 h2 F1 F2
    have L2 := F2.lay F1.1
    have nm : ∀ x k, 252 ≤ x → ¬ (x = 252 ∧ (k = 24 ∨ k = 25 ∨ k = 26 ∨ k = 27 ∨ k = 28 ∨ k = 29 ∨ k = 30 ∨ k = 31 ∨ k = 32)) → ¬ (277 ≤ x ∧ x ≤ 283) → ¬ AMr G.2.2.1.2 x k := fun x k _ w1 w2 z => by unfold AMr MZr MY MX at z; omega
    have e01 : hI h2 0 1 = 0 := (F2.I (fun z => by unfold AMr MZr MY MX at z; omega)).trans e1
    exact ⟨_, S.all (T := G.2.1.1) (n := 0) L2 (H.to2 O (Lle_3 L2) (fun x k _ _ => ac x k (by unfold ARr; omega) (by omega))) (tp0C e01) e3 R (V.to O (fun a j w => by have q := (us_rg w).1; exact am a j (nm a j (by omega) (by omega) (by omega)) (by omega)) (am _ _ (nm _ _ (by omega) (by omega) (by omega)) (by omega))) (tp0M e2) R' (O.mono hle) hle hc6 hP (fun k => ac _ _ (by unfold ARr; omega) (by omega)) (fun x k hx => ac x k (by unfold ARr; omega) (by omega)) (am _ _ (nm _ _ (by omega) (by omega) (by omega)) (by omega)) (fun k => am _ _ (nm _ _ (by omega) (by omega) (by omega)) (by omega)) (fun k _ => am _ _ (nm _ _ (by omega) (by omega) (by omega)) (by omega)) (fun k => am _ _ (nm _ _ (by omega) (by omega) (by omega)) (by omega))⟩
  have oldC : ∀ h1 h2, FLy (ARr G.2.2.1.2) h h1 → FrC (AMr G.2.2.1.2) h1 h2 → ∀ r, r < G.2.2.1.2 → CRule h2 (126 + 5 * r) (G.2.2.1.1 r) ∧ MRule h2 r (G.2.2.1.1 r) := fun h1 h2 F1 F2 r hr => by
    obtain ⟨ac, am⟩ := fr h1 h2 F1 F2
    refine ⟨(S.1.2.2.2.2.1.2 r hr).to (fun x k hx => ac x k (by unfold ARr; omega) (by omega)), (S.2.1.2.2.1.2.2 r hr).to2 (S.2.2.2.2.2 r hr) (am _ _ (fun z => by unfold AMr MZr MY MX at z; omega) (by omega)) (fun x k hx hk => am x k (fun z => by unfold AMr MZr MY MX at z; omega) (by omega)) (fun x k hx hk => am x k (fun z => by unfold AMr MZr MY MX at z; omega) (by omega))⟩
  refine c_rule (d := d + 8) (T := G.2.1.1) (n := G.2.1.2) S.1.1 S.1.2.2.1.1 S.1.2.2.1.2.1 S.1.2.2.1.2.2 c6 S.1.2.2.2.1 (fun e6 => ?_) (fun hc h1 f F1 e1 e3 E1 hf => ?_) (fun hc h1 σ F1 e1 e3 E1 I1 R1 => ?_)
  · exact And.intro (Lk (by first | assumption | exact S.1.1 | exact (S.c f1).1.1 | exact S.1.1.fr f1.1 | exact S.1.1.fr f1 | exact F1.1 | exact f1.lay S.1.1) K_252) <| m_rule (d := d + 27) (S.mt0 S.1.1 rfl (fun _ => rfl)) S.2.1.2.2.2.1 c6 S.2.1.2.2.1.2.1 (fun _ => ⟨rfl, G, S⟩) (fun z => absurd z (by omega)) (fun z => absurd z (by omega))
  · have a1 : ∀ x k, 252 ≤ x → hI h1 x k = hI h x k := fun x k hx => F1.2.2.2 x k (by unfold ARr; omega)
    refine And.intro (Lk (by first | assumption | exact S.1.1 | exact (S.c f1).1.1 | exact S.1.1.fr f1.1 | exact S.1.1.fr f1 | exact F1.1 | exact f1.lay S.1.1) K_252) <| m_rule (d := d + 27) (S.mt0 F1.1 (a1 _ _ (by omega)) (fun k => a1 _ _ (by omega))) ((a1 _ _ (by omega)).trans S.2.1.2.2.2.1) c6 ((a1 _ _ (by omega)).trans S.2.1.2.2.1.2.1) (fun z => absurd z (by omega)) (fun _ h2 f2 F2 e24 e28 E2 hf2 => ?_) (fun _ h2 σ F2 e24 e28 E2 => absurd (E1.uniq E2) (by simp))
    have : f2 = f := Sum.inl.inj (E2.uniq E1)
    subst this
    refine ⟨rfl, fin h1 h2 G.2.2.1.1 G.2.2.1.2 F1 F2 hc (Nat.le_refl _) c6 e1 e24 ?_ ⟨c6, fun r hr => (oldC h1 h2 F1 F2 r hr).1⟩ ⟨c6, e28, fun r hr => (oldC h1 h2 F1 F2 r hr).2⟩ S.2.2.2.2.2⟩
    exact (F2.I (fun z => by unfold AMr MZr MY MX at z; omega)).trans e3
  · have a1 : ∀ x k, 252 ≤ x → hI h1 x k = hI h x k := fun x k hx => F1.2.2.2 x k (by unfold ARr; omega)
    refine And.intro (Lk (by first | assumption | exact S.1.1 | exact (S.c f1).1.1 | exact S.1.1.fr f1.1 | exact S.1.1.fr f1 | exact F1.1 | exact f1.lay S.1.1) K_252) <| m_rule (d := d + 27) (S.mt0 F1.1 (a1 _ _ (by omega)) (fun k => a1 _ _ (by omega))) ((a1 _ _ (by omega)).trans S.2.1.2.2.2.1) c6 ((a1 _ _ (by omega)).trans S.2.1.2.2.1.2.1) (fun z => absurd z (by omega)) (fun _ h2 f2 F2 e24 e28 E2 hf2 => absurd (E1.uniq E2) (by simp)) (fun _ h2 σ2 F2 e24 e28 E2 I2 R2 => ?_)
    have : σ2 = σ := Sum.inr.inj (E2.uniq E1)
    subst this
    have n4 := S.1.2.2.1.1
    have upP : ∀ r, (fun r => if r = G.2.2.1.2 then pgS σ2 else G.2.2.1.1 r) r = if r = G.2.2.1.2 then pgS σ2 else G.2.2.1.1 r := fun r => rfl
    refine ⟨rfl, fin h1 h2 (fun r => if r = G.2.2.1.2 then pgS σ2 else G.2.2.1.1 r) (G.2.2.1.2 + 1) F1 F2 hc (by omega) (by omega) e1 e24 ((F2.I (fun z => by unfold AMr MZr MY MX at z; omega)).trans e3) ⟨by omega, fun r hr => ?_⟩ ⟨by omega, e28, fun r hr => ?_⟩ (fun r hr => ?_)⟩
    · rw [upP]
      by_cases c : r = G.2.2.1.2
      · rw [if_pos c, c]
        exact R1.to (fun x k hx => F2.I (fun z => by unfold AMr MZr MY MX at z; omega))
      · rw [if_neg c]; exact (oldC h1 h2 F1 F2 r (by omega)).1
    · rw [upP]
      by_cases c : r = G.2.2.1.2
      · rw [if_pos c, c]; exact R2
      · rw [if_neg c]; exact (oldC h1 h2 F1 F2 r (by omega)).2
    · by_cases c : r = G.2.2.1.2
      · rw [if_pos c]
        have e : se σ2 ≤ 253 := iv_e n4 I2
        have eA : sA σ2 (sq σ2) = se σ2 := I2.2.2.2.2.2
        show sA σ2 (sq σ2) ≤ 299
        omega
      · rw [if_neg c]; exact S.2.2.2.2.2 r (by omega)
end OC
