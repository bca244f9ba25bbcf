/-! the other calls, on both sides -/
/-- a TAPE that has changed, and nothing else -/
theorem StG.tape {h h2 : HP} {G : G4} {T : Nat → Nat} {n : Nat} (S : StG h G) (L : Lay h2) (C : TpC T n h2) (M : TpM T n h2) (e : ∀ x k, (x = 0 ∧ ¬ k = 1) ∨ (2 ≤ x ∧ x ≤ 28) ∨ (126 ≤ x ∧ x < 252) → hI h2 x k = hI h x k) (e2 : ∀ x k, (x = 252 ∧ ¬ k = 24) ∨ (252 < x ∧ ¬ x = 276) → hI h2 x k = hI h x k) : StG h2 (G.1, (T, n), G.2.2) :=
  ⟨⟨L, S.1.2.1.to2 S.2.2.1 (Lle_3 L) (fun x k _ _ => e x k (by omega)), C, (e _ _ (by omega)).trans S.1.2.2.2.1, S.1.2.2.2.2.1.to (fun x k hx => e x k (by omega)), fun k hk => imgC S.1 S.2.2 L hk (e _ _ (by omega)) (fun x j hx => e x j (by omega))⟩, ⟨S.2.1.1.to S.2.2.1 (fun a j w => e2 a j (by have := (us_rg w).1; omega)) (e2 _ _ (by omega)), M, S.2.1.2.2.1.to (e2 _ _ (by omega)) (fun x k hx => e2 x k (by omega)), (e2 _ _ (by omega)).trans S.2.1.2.2.2.1, S.2.1.2.2.2.2.1.to (fun k => e2 _ _ (by omega)), fun k hk => imgM S.2.1 S.2.2 hk (e2 _ _ (by omega)) (fun c _ _ => e2 _ _ (by omega))⟩, S.2.2⟩
section OT
variable {g : GT} {d : Nat} {h : HP} {G : G4}
theorem op_feed {a b c e f : Int32} (S : StG h G) : BothQ g (d + 40) mX9_feed mX10_feed [.int a, .int b, .int c, .int e, .int f] h := by
  refine c_feed S.1.1 S.1.2.2.1 (fun no => ?_) (fun yes h1 f1 H1 => ?_)
  · exact And.intro (Lk (by first | assumption | exact S.1.1 | exact (S.c f1).1.1 | exact S.1.1.fr f1.1 | exact S.1.1.fr f1 | exact F1.1 | exact f1.lay S.1.1) K_252) <| m_feed S.1.1 S.2.1.2.1 (fun _ => ⟨rfl, G, S⟩) (fun z => by omega)
  · have L1 := f1.lay S.1.1
    refine And.intro (Lk (by first | assumption | exact S.1.1 | exact (S.c f1).1.1 | exact S.1.1.fr f1.1 | exact S.1.1.fr f1 | exact F1.1 | exact f1.lay S.1.1) K_252) <| m_feed L1 (S.2.1.2.1.to (f1.I (by omega)) (fun k => f1.I (by omega))) (fun z => by omega) (fun _ h2 f2 H2 => ⟨rfl, _, S.tape (f2.lay L1) (H1.to (f2.I (by omega)) (fun k => f2.I (by omega))) H2 (fun x k hx => ?_) (fun x k hx => ?_)⟩)
    · rw [f2.I (by omega), f1.I (by omega)]
    · rw [f2.I (by omega), f1.I (by omega)]
theorem op_end {a : Int32} (S : StG h G) : BothQ g (d + 40) mX9_end mX10_end [.int a] h := by
  have n4 := S.1.2.2.1.1
  refine c_end S.1.1 S.1.2.2.1 (fun no => ?_) (fun m hm em h1 f1 H1 => ?_)
  · exact And.intro (Lk (by first | assumption | exact S.1.1 | exact (S.c f1).1.1 | exact S.1.1.fr f1.1 | exact S.1.1.fr f1 | exact F1.1 | exact f1.lay S.1.1) K_252) <| m_end S.1.1 S.2.1.2.1 (fun _ => ⟨rfl, G, S⟩) (fun m hm em => absurd em (no m hm))
  · have L1 := f1.lay S.1.1
    refine And.intro (Lk (by first | assumption | exact S.1.1 | exact (S.c f1).1.1 | exact S.1.1.fr f1.1 | exact S.1.1.fr f1 | exact F1.1 | exact f1.lay S.1.1) K_252) <| m_end L1 (S.2.1.2.1.to (f1.I (by omega)) (fun k => f1.I (by omega))) (fun no => absurd em (no m hm)) (fun m2 hm2 em2 h2 f2 H2 => ?_)
    have : m2 = m := (nI_eq (by omega) (by omega)).mp (em2.symm.trans em)
    subst this
    refine ⟨rfl, _, S.tape (f2.lay L1) (H1.to (f2.I (by omega)) (fun k => f2.I (by omega))) H2 (fun x k hx => ?_) (fun x k hx => ?_)⟩
    · rw [f2.I (by omega), f1.I (by omega)]
    · rw [f2.I (by omega), f1.I (by omega)]
theorem LdOK.c {l : Ld} {cnt c x : Nat} (O : LdOK l cnt) (hc : c ≤ cnt) (hx : x < 2147483648) : LdOK (l.1, l.2.1, l.2.2.1, c, x) cnt := ⟨O.1, O.2.1, O.2.2.1, O.2.2.2.1, O.2.2.2.2.1, O.2.2.2.2.2.1, hc, hx⟩
/-- inForce and x have changed -/
theorem StG.cx {h2 : HP} {c x : Nat} (S : StG h G) (L : Lay h2) (hc : c ≤ G.2.2.1.2) (hx : x < 2147483648) (e7 : hI h2 3 7 = pl c) (e8 : hI h2 3 8 = nI x) (m7 : hI h2 253 7 = pl c) (m6 : hI h2 253 6 = nI x) (e : ∀ a k, ¬ (a = 3 ∧ (k = 7 ∨ k = 8)) ∧ ¬ (a = 253 ∧ (k = 6 ∨ k = 7)) → hI h2 a k = hI h a k) : StG h2 ((G.1.1, G.1.2.1, G.1.2.2.1, c, x), G.2) := by
  have H := S.1.2.1
  have M := S.2.1.1
  have hB0 := S.2.2.1.2.2.2.1.1
  have n10 := S.2.2.1.2.2.2.2.2.1.1
  have p20 := S.2.2.1.2.2.2.2.1
  refine S.led _ L ⟨⟨Ltw_4 L, H.1.2.1, fun k hk => by rw [e _ _ (by omega)]; exact H.1.2.2.1 k hk, fun r j hr => by have q := hr; unfold rowOK at q; rw [e _ _ (by omega)]; exact H.1.2.2.2 r j hr⟩, ⟨Ltw_13 L, H.2.1.2.1, fun k hk => by rw [e _ _ (by omega)]; exact H.2.1.2.2.1 k hk, fun r j hr => by have q := hr; unfold rowOK at q; rw [e _ _ (by omega)]; exact H.2.1.2.2.2 r j hr⟩, H.2.2.1.fr p20 (fun x k hx => e x k (by omega)), ⟨by rw [e _ _ (by omega)]; exact H.2.2.2.1.1, fun k hk => by rw [e _ _ (by omega), e _ _ (by omega), e _ _ (by omega)]; exact H.2.2.2.1.2 k hk⟩, e7, e8⟩ ⟨fun k hk => (e _ _ (by omega)).trans (M.1 k hk), fun r j hr => by have q := hr; unfold rowOK at q; exact (e _ _ (by omega)).trans (M.2.1 r j hr), ⟨(e _ _ (by omega)).trans M.2.2.1.1, fun k hk => by rw [e _ _ (by omega), e _ _ (by omega), e _ _ (by omega)]; exact M.2.2.1.2 k hk⟩, m6, m7, ⟨fun j hj => by rw [e _ _ (by omega), e _ _ (by omega), e _ _ (by omega)]; exact M.2.2.2.2.2.1.1 j hj, fun i hi => (e _ _ (by omega)).trans (M.2.2.2.2.2.1.2 i hi)⟩, (e _ _ (by omega)).trans M.2.2.2.2.2.2.1, fun i hi => (M.2.2.2.2.2.2.2 i hi).to (p20.2 i hi).1 (fun k _ _ => e _ _ (by omega))⟩ (S.2.2.1.c hc hx) (fun a k ha => e a k (by omega)) (fun k hk => e _ _ (by omega)) (fun a k ha => e a k (by omega)) (fun k hk => e _ _ (by omega))
theorem op_force {a : Int32} (S : StG h G) : BothQ g (d + 40) mX9_force mX10_force [.int a] h := by
  have e7 := S.1.2.1.2.2.2.2.1
  have e8 := S.1.2.1.2.2.2.2.2
  have m7 := S.2.1.1.2.2.2.2.1
  have m6 := S.2.1.1.2.2.2.1
  have c6 := S.2.2.2.1
  refine c_force S.1.1 c6 S.1.2.2.2.1 (fun no => ?_) (fun c hc ec => ?_)
  · exact And.intro (Lk (by first | assumption | exact S.1.1 | exact (S.c f1).1.1 | exact S.1.1.fr f1.1 | exact S.1.1.fr f1 | exact F1.1 | exact f1.lay S.1.1) K_252) <| m_force S.1.1 c6 S.2.1.2.2.1.2.1 (fun _ => ⟨rfl, G, S⟩) (fun c hc ec => absurd ec (no c hc))
  · have f1 : FrC (fun x k => x = 3 ∧ k = 7) h (setI h 3 7 (pl c)) := FrC.stI ⟨rfl, rfl⟩
    refine And.intro (Lk (by first | assumption | exact S.1.1 | exact (S.c f1).1.1 | exact S.1.1.fr f1.1 | exact S.1.1.fr f1 | exact F1.1 | exact f1.lay S.1.1) K_252) <| m_force (f1.lay S.1.1) c6 ((f1.I (by omega)).trans S.2.1.2.2.1.2.1) (fun no => absurd ec (no c hc)) (fun c2 hc2 ec2 => ⟨?_, _, S.cx (c := c) (f1.lay S.1.1 |>.to rfl rfl rfl) hc S.2.2.1.2.2.2.2.2.2.2 ?_ ?_ ?_ ?_ (fun x k hx => ?_)⟩)
    · rw [e7, f1.I (by omega)]; exact m7.symm
    · rw [rdn (by omega), rdI]
    · rw [rdn (by omega), rdn (by omega)]; exact e8
    · rw [rdI, ← ec2, ec]
    · rw [rdn (by omega), rdn (by omega)]; exact m6
    · rw [rdn (by omega), rdn (by omega)]
theorem op_seed {a : Int32} (S : StG h G) : BothQ g (d + 40) mX9_seed mX10_seed [.int a] h := by
  have e7 := S.1.2.1.2.2.2.2.1
  have e8 := S.1.2.1.2.2.2.2.2
  have m7 := S.2.1.1.2.2.2.2.1
  have m6 := S.2.1.1.2.2.2.1
  refine c_seed S.1.1 (fun no => ?_) (fun j hj ej => ?_)
  · exact And.intro (Lk (by first | assumption | exact S.1.1 | exact (S.c f1).1.1 | exact S.1.1.fr f1.1 | exact S.1.1.fr f1 | exact F1.1 | exact f1.lay S.1.1) K_252) <| m_seed S.1.1 (fun _ => ⟨rfl, G, S⟩) (fun j hj ej => absurd no (by rw [ej]; exact nI_pos (by omega)))
  · have f1 : FrC (fun x k => x = 3 ∧ k = 8) h (setI h 3 8 (nI j)) := FrC.stI ⟨rfl, rfl⟩
    refine And.intro (Lk (by first | assumption | exact S.1.1 | exact (S.c f1).1.1 | exact S.1.1.fr f1.1 | exact S.1.1.fr f1 | exact F1.1 | exact f1.lay S.1.1) K_252) <| m_seed (f1.lay S.1.1) (fun no => absurd no (by rw [ej]; exact nI_pos (by omega))) (fun j2 hj2 ej2 => ⟨?_, _, S.cx (x := j) (f1.lay S.1.1 |>.to rfl rfl rfl) S.2.2.1.2.2.2.2.2.2.1 hj ?_ ?_ ?_ ?_ (fun x k hx => ?_)⟩)
    · rw [e8, f1.I (by omega)]; exact m6.symm
    · rw [rdn (by omega), rdn (by omega)]; exact e7
    · rw [rdn (by omega), rdI]
    · rw [rdn (by omega), rdn (by omega)]; exact m7
    · rw [rdI, ← ej2, ej]
    · rw [rdn (by omega), rdn (by omega)]
end OT
