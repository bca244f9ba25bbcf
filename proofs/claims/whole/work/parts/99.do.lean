/-! what is done, on both sides -/
theorem GM.mz {h : HP} {G : G4} (H : GM h G) (O : GO G) (L : Lay h) : MZ h (rhoC G.2.2.1.1 G.1.2.2.2.1) G.1.1.1 := ⟨L, ⟨O.1.1, H.1.1, H.1.2.1⟩, O.1.2.1, H.2.2.1.rho O.1.2.2.2.2.2.2.1 H.1.2.2.2.2.1, H.2.2.2.2.1⟩
theorem GM.mps {h : HP} {G : G4} (H : GM h G) (O : GO G) : MPs h G.1.2.1 := ⟨O.1.2.2.2.2.1.1, H.1.2.2.2.2.2.2.1, H.1.2.2.2.2.2.2.2⟩
/-- a ledger that has changed, and nothing else -/
theorem StG.led {h h2 : HP} {G : G4} (S : StG h G) (l : Ld) (L : Lay h2) (C : CLd h2 3 l) (M : MLv (hI h2) (hI h2 252 51) l) (O : LdOK l G.2.2.1.2) (e : ∀ x k, x ≤ 2 ∨ x = 28 ∨ (126 ≤ x ∧ x < 252) → hI h2 x k = hI h x k) (e2 : ∀ k, k = 24 ∨ k = 28 ∨ k = 33 → hI h2 252 k = hI h 252 k) (e3 : ∀ x k, (276 ≤ x ∧ x ≤ 282) ∨ x = 286 ∨ x = 300 → hI h2 x k = hI h x k) (e9 : ∀ k, k < 3600 → hI h2 299 k = hI h 299 k) : StG h2 (l, G.2) :=
  ⟨⟨L, C, S.1.2.2.1.to (e _ _ (by omega)) (fun k => e _ _ (by omega)), (e _ _ (by omega)).trans S.1.2.2.2.1, S.1.2.2.2.2.1.to (fun x k hx => e x k (by omega)), fun k hk => imgC S.1 S.2.2 L hk (e _ _ (by omega)) (fun x j hx => e x j (by omega))⟩, ⟨M, S.2.1.2.1.to (e2 _ (by omega)) (fun k => e3 _ _ (by omega)), S.2.1.2.2.1.to (e2 _ (by omega)) (fun x k hx => e3 x k (by omega)), (e2 _ (by omega)).trans S.2.1.2.2.2.1, S.2.1.2.2.2.2.1.to (fun k => e3 _ _ (by omega)), fun k hk => imgM S.2.1 S.2.2 hk (e3 _ _ (by omega)) (fun c h1 h2 => e9 c (by omega))⟩, O, S.2.2.2⟩
theorem LdOK.act {l : Ld} {cnt : Nat} {t' : Tw} {p' : Pst} (O : LdOK l cnt) (hB : TB t') (hR : TR t') (h9 : t'.1 4 ≤ 999) (h1 : One l.1.1 t') (hP : PsOK p' t') : LdOK ((t', l.1.2), p', l.2.2) cnt := by
  obtain ⟨o1, o2, o3, o4, o5, o6, o7⟩ := O
  refine ⟨hB, hR, h9, ⟨o4.1, o4.2.1, fun k hk => (o4.2.2.1 k hk).trans (h1.1 k hk).symm, o4.2.2.2.1, fun i hi => ?_⟩, hP, ⟨o6.1, fun k hk => ?_⟩, o7⟩
  · have hi : i < l.1.1.1 3 := by rw [h1.1 3 (by omega)] at hi; exact hi
    have := o4.2.2.2.2 i hi
    have q := h1.2 i hi
    exact ⟨this.1.trans q.1.symm, this.2.1.trans q.2.symm, this.2.2⟩
  · show l.2.2.1.2.1 k ≤ 60 ∧ l.2.2.1.2.2.1 k < t'.1 3 ∧ (l.2.2.1.2.2.2 k = -1 ∨ ∃ j, j < t'.1 2 ∧ l.2.2.1.2.2.2 k = nI j)
    rw [h1.1 2 (by omega), h1.1 3 (by omega)]
    exact o6.2 k hk
/-- an ACT on both sides -/
theorem StG.act {h h1 h2 : HP} {G : G4} {t' : Tw} {p' : Pst} (S : StG h G) (f1 : RA h h1 t' p') (f2 : RMa h1 h2 t' p') (O : LdOK ((t', G.1.1.2), p', G.1.2.2) G.2.2.1.2) : StG h2 (((t', G.1.1.2), p', G.1.2.2), G.2) := by
  have L1 : Lay h1 := S.1.1.fr f1.1
  have L2 : Lay h2 := f2.1.lay L1
  have a1 : ∀ x k, ¬ AA x → hI h1 x k = hI h x k := fun x k w => by rw [(f1.1.2.2 x w).1]
  have H := S.1.2.1
  have M := S.2.1.1
  have O0 := S.2.2.1
  have n10 := O0.2.2.2.2.2.1.1
  refine S.led _ L2 ⟨⟨Ltw_4 L2, f1.2.1.2.1, fun k hk => by rw [f2.1.I (by unfold AMa; omega)]; exact f1.2.1.2.2.1 k hk, fun r j hr => by have q := hr; unfold rowOK at q; rw [f2.1.I (by unfold AMa; omega)]; exact f1.2.1.2.2.2 r j hr⟩, ⟨Ltw_13 L2, H.2.1.2.1, fun k hk => by rw [f2.1.I (by unfold AMa; omega), a1 _ _ (by unfold AA; omega)]; exact H.2.1.2.2.1 k hk, fun r j hr => by have q := hr; unfold rowOK at q; rw [f2.1.I (by unfold AMa; omega), a1 _ _ (by unfold AA; omega)]; exact H.2.1.2.2.2 r j hr⟩, f1.2.2.fr O.2.2.2.2.1 (fun x k hx => f2.1.I (by unfold AMa; omega)), ⟨by rw [f2.1.I (by unfold AMa; omega), a1 _ _ (by unfold AA; omega)]; exact H.2.2.2.1.1, fun k hk => by rw [f2.1.I (by unfold AMa; omega), f2.1.I (by unfold AMa; omega), f2.1.I (by unfold AMa; omega), a1 _ _ (by unfold AA; omega), a1 _ _ (by unfold AA; omega), a1 _ _ (by unfold AA; omega)]; exact H.2.2.2.1.2 k hk⟩, by rw [f2.1.I (by unfold AMa; omega), a1 _ _ (by unfold AA; omega)]; exact H.2.2.2.2.1, by rw [f2.1.I (by unfold AMa; omega), a1 _ _ (by unfold AA; omega)]; exact H.2.2.2.2.2⟩ ⟨f2.2.1.2.1, f2.2.1.2.2, ?_, ?_, ?_, ?_, f2.2.2.2.1, f2.2.2.2.2⟩ O (fun x k hx => by rw [f2.1.I (by unfold AMa; omega), a1 _ _ (by unfold AA; omega)]) (fun k hk => by rw [f2.1.I (by unfold AMa; omega), a1 _ _ (by unfold AA; omega)]) (fun x k hx => by rw [f2.1.I (by unfold AMa; omega), a1 _ _ (by unfold AA; omega)]) (fun k hk => by rw [f2.1.I (by unfold AMa; omega), a1 _ _ (by unfold AA; omega)])
  · refine ⟨by rw [f2.1.I (by unfold AMa; omega), a1 _ _ (by unfold AA; omega)]; exact M.2.2.1.1, fun k hk => ?_⟩
    rw [f2.1.I (by unfold AMa; omega), f2.1.I (by unfold AMa; omega), f2.1.I (by unfold AMa; omega), a1 _ _ (by unfold AA; omega), a1 _ _ (by unfold AA; omega), a1 _ _ (by unfold AA; omega)]; exact M.2.2.1.2 k hk
  · rw [f2.1.I (by unfold AMa; omega), a1 _ _ (by unfold AA; omega)]; exact M.2.2.2.1
  · rw [f2.1.I (by unfold AMa; omega), a1 _ _ (by unfold AA; omega)]; exact M.2.2.2.2.1
  · refine ⟨fun j hj => ?_, fun i hi => ?_⟩
    · rw [f2.1.I (by unfold AMa; omega), f2.1.I (by unfold AMa; omega), f2.1.I (by unfold AMa; omega), a1 _ _ (by unfold AA; omega), a1 _ _ (by unfold AA; omega), a1 _ _ (by unfold AA; omega)]; exact M.2.2.2.2.2.1.1 j hj
    · rw [f2.1.I (by unfold AMa; omega), a1 _ _ (by unfold AA; omega)]; exact M.2.2.2.2.2.1.2 i hi
theorem tr_set3 {t : Tw} {j : Nat} {y : Int32} (hR : TR t) (hy : R9 y) : TR (setT t 3 j y) := by
  refine ⟨hR.1, fun j' hj' => ?_, fun i hi => ?_⟩
  · have := hR.2.1 j' hj'
    show RG (up2 t.2 3 j y 1 j') ∧ RG (up2 t.2 3 j y 2 j') ∧ R9 (up2 t.2 3 j y 3 j')
    rw [up2_ne _ _ (by omega), up2_ne _ _ (by omega)]
    refine ⟨this.1, this.2.1, ?_⟩
    by_cases c : j' = j
    · subst c; rw [up2_eq]; exact hy
    · rw [up2_ne _ _ (by omega)]; exact this.2.2
  · have := hR.2.2 i hi
    show RG (up2 t.2 3 j y 4 i) ∧ R9 (up2 t.2 3 j y 5 i) ∧ RG (up2 t.2 3 j y 6 i) ∧ (up2 t.2 3 j y 7 i = -1 ∨ ∃ j', j' < t.1 2 ∧ up2 t.2 3 j y 7 i = nI j') ∧ ∃ n, n ≤ t.1 4 ∧ up2 t.2 3 j y 8 i = nI n
    rw [up2_ne _ _ (by omega), up2_ne _ _ (by omega), up2_ne _ _ (by omega), up2_ne _ _ (by omega), up2_ne _ _ (by omega)]
    exact this
theorem tr_set12 {t : Tw} {r j : Nat} {y : Int32} (hr : r = 1 ∨ r = 2) (hR : TR t) (hy : RG y) : TR (setT t r j y) := by
  refine ⟨hR.1, fun j' hj' => ?_, fun i hi => ?_⟩
  · have := hR.2.1 j' hj'
    show RG (up2 t.2 r j y 1 j') ∧ RG (up2 t.2 r j y 2 j') ∧ R9 (up2 t.2 r j y 3 j')
    rw [up2_ne _ _ (show ¬ (3 = r ∧ j' = j) by omega)]
    refine ⟨?_, ?_, this.2.2⟩
    · by_cases c : 1 = r ∧ j' = j
      · obtain ⟨rfl, rfl⟩ := c; rw [up2_eq]; exact hy
      · rw [up2_ne _ _ c]; exact this.1
    · by_cases c : 2 = r ∧ j' = j
      · obtain ⟨rfl, rfl⟩ := c; rw [up2_eq]; exact hy
      · rw [up2_ne _ _ c]; exact this.2.1
  · have := hR.2.2 i hi
    show RG (up2 t.2 r j y 4 i) ∧ R9 (up2 t.2 r j y 5 i) ∧ RG (up2 t.2 r j y 6 i) ∧ (up2 t.2 r j y 7 i = -1 ∨ ∃ j', j' < t.1 2 ∧ up2 t.2 r j y 7 i = nI j') ∧ ∃ n, n ≤ t.1 4 ∧ up2 t.2 r j y 8 i = nI n
    rw [up2_ne _ _ (by omega), up2_ne _ _ (by omega), up2_ne _ _ (by omega), up2_ne _ _ (by omega), up2_ne _ _ (by omega)]
    exact this
theorem tr_set7 {t : Tw} {q j : Nat} (hR : TR t) (hj : j < t.1 2) : TR (setT t 7 q (nI j)) := by
  refine ⟨hR.1, fun j' hj' => ?_, fun i hi => ?_⟩
  · have := hR.2.1 j' hj'
    show RG (up2 t.2 7 q (nI j) 1 j') ∧ RG (up2 t.2 7 q (nI j) 2 j') ∧ R9 (up2 t.2 7 q (nI j) 3 j')
    rw [up2_ne _ _ (by omega), up2_ne _ _ (by omega), up2_ne _ _ (by omega)]
    exact this
  · have := hR.2.2 i hi
    show RG (up2 t.2 7 q (nI j) 4 i) ∧ R9 (up2 t.2 7 q (nI j) 5 i) ∧ RG (up2 t.2 7 q (nI j) 6 i) ∧ (up2 t.2 7 q (nI j) 7 i = -1 ∨ ∃ j', j' < t.1 2 ∧ up2 t.2 7 q (nI j) 7 i = nI j') ∧ ∃ n, n ≤ t.1 4 ∧ up2 t.2 7 q (nI j) 8 i = nI n
    rw [up2_ne _ _ (by omega), up2_ne _ _ (by omega), up2_ne _ _ (by omega), up2_ne _ _ (show ¬ (8 = 7 ∧ i = q) by omega)]
    refine ⟨this.1, this.2.1, this.2.2.1, ?_, this.2.2.2.2⟩
    by_cases c : i = q
    · subst c; rw [up2_eq]; exact Or.inr ⟨j, hj, rfl⟩
    · rw [up2_ne _ _ (by omega)]; exact this.2.2.2.1
section AC
variable {g : GT} {d : Nat} {h : HP} {G : G4}
theorem StG.gm1 {h1 : HP} {t' : Tw} {p' : Pst} (S : StG h G) (f1 : RA h h1 t' p') : GM h1 G := S.2.1.cls S.2.2 (fun x k hx => by rw [(f1.1.2.2 x (by unfold AA; omega)).1])
theorem StG.mz1 {h1 : HP} {t' : Tw} {p' : Pst} (S : StG h G) (f1 : RA h h1 t' p') : MZ h1 (rhoC G.2.2.1.1 G.1.2.2.2.1) G.1.1.1 := (S.gm1 f1).mz S.2.2 (S.1.1.fr f1.1)
theorem StG.pok {h : HP} {G : G4} (S : StG h G) : PsOK G.1.2.1 G.1.1.1 := S.2.2.1.2.2.2.2.1
theorem StG.h9 {h : HP} {G : G4} (S : StG h G) : G.1.1.1.1 4 ≤ 999 := S.2.2.1.2.2.1
/-- an ACT that is kept -/
theorem StG.kept {t' : Tw} (S : StG h G) (hB : TB t') (hR : TR t') (h9 : t'.1 4 ≤ 999) (h1 : One G.1.1.1 t') {h1' h2 : HP} (f1 : RA h h1' t' (kpS G.1.2.1 G.1.1.1)) (f2 : RMa h1' h2 t' (kpS G.1.2.1 G.1.1.1)) : ∃ G', StG h2 G' :=
  ⟨_, S.act f1 f2 (S.2.2.1.act hB hR h9 h1 (kp_ok S.pok S.2.2.1.1 S.2.2.1.2.1 S.h9 h1))⟩
theorem op_night (S : StG h G) : BothQ g (d + 40) mX9_night mX10_night [] h := by
  refine c_night1 S.cz S.1.2.1.2.2.1 S.pok S.h9 (fun no => ?_) (fun y1 y2 h1 f1 => ?_)
  · exact And.intro (Lk (by first | assumption | exact S.1.1 | exact (S.c f1).1.1 | exact S.1.1.fr f1.1 | exact S.1.1.fr f1 | exact F1.1 | exact f1.lay S.1.1) K_252) <| m_night S.mz S.mps S.pok S.h9 (fun _ => ⟨rfl, G, S⟩) (fun z1 z2 => by rcases no with no | no <;> omega)
  · refine And.intro (Lk (by first | assumption | exact S.1.1 | exact (S.c f1).1.1 | exact S.1.1.fr f1.1 | exact S.1.1.fr f1 | exact F1.1 | exact f1.lay S.1.1) K_252) <| m_night (S.mz1 f1) ((S.gm1 f1).mps S.2.2) S.pok S.h9 (fun no => by rcases no with no | no <;> omega) (fun _ _ h2 f2 => ⟨rfl, S.kept ?_ (TR.night S.2.2.1.2.1 S.2.2.1.1) ?_ one_night f1 f2⟩)
    · exact f1.2.1.2.1
    · rw [night_1, if_pos rfl]; omega
theorem op_turn {a : Int32} (S : StG h G) : BothQ g (d + 40) mX9_turn mX10_turn [.int a] h := by
  refine c_turn S.cz S.1.2.1.2.2.1 S.pok S.h9 (fun no => ?_) (fun j hj ej h1 f1 => ?_)
  · exact And.intro (Lk (by first | assumption | exact S.1.1 | exact (S.c f1).1.1 | exact S.1.1.fr f1.1 | exact S.1.1.fr f1 | exact F1.1 | exact f1.lay S.1.1) K_252) <| m_turn S.mz S.mps S.pok S.h9 (fun _ => ⟨rfl, G, S⟩) (fun j hj ej => absurd ej (no j hj))
  · refine And.intro (Lk (by first | assumption | exact S.1.1 | exact (S.c f1).1.1 | exact S.1.1.fr f1.1 | exact S.1.1.fr f1 | exact F1.1 | exact f1.lay S.1.1) K_252) <| m_turn (S.mz1 f1) ((S.gm1 f1).mps S.2.2) S.pok S.h9 (fun no => absurd ej (no j hj)) (fun j2 hj2 ej2 h2 f2 => ?_)
    have hB := S.2.2.1.1
    unfold TB at hB
    have : j2 = j := (nI_eq (by omega) (by omega)).mp (ej2.symm.trans ej)
    subst this
    have so := swap_ok S.2.2.1.1 S.2.2.1.2.1 hj
    exact ⟨rfl, S.kept so.1 so.2 S.h9 (one_tr (one_set (by omega) (by omega)) (one_set (by omega) (by omega))) f1 f2⟩
theorem op_stuff {a b : Int32} (S : StG h G) : BothQ g (d + 40) mX9_stuff mX10_stuff [.int a, .int b] h := by
  have hB := S.2.2.1.1
  unfold TB at hB
  refine c_stuff S.cz S.1.2.1.2.2.1 S.pok S.h9 (fun no => ?_) (fun j m hj m1 m2 ej em ne h1 f1 => ?_)
  · exact And.intro (Lk (by first | assumption | exact S.1.1 | exact (S.c f1).1.1 | exact S.1.1.fr f1.1 | exact S.1.1.fr f1 | exact F1.1 | exact f1.lay S.1.1) K_252) <| m_stuff S.mz S.mps S.pok S.h9 (fun _ => ⟨rfl, G, S⟩) (fun j m hj m1 m2 ej em ne => absurd (no j m hj m1 m2 ej em) ne)
  · refine And.intro (Lk (by first | assumption | exact S.1.1 | exact (S.c f1).1.1 | exact S.1.1.fr f1.1 | exact S.1.1.fr f1 | exact F1.1 | exact f1.lay S.1.1) K_252) <| m_stuff (S.mz1 f1) ((S.gm1 f1).mps S.2.2) S.pok S.h9 (fun no => absurd (no j m hj m1 m2 ej em) ne) (fun j2 m' hj2 _ _ ej2 _ _ h2 f2 => ?_)
    have : j2 = j := (nI_eq (by omega) (by omega)).mp (ej2.symm.trans ej)
    subst this
    exact ⟨rfl, S.kept (t' := setT G.1.1.1 3 j2 b) S.2.2.1.1 (tr_set3 S.2.2.1.2.1 ⟨m, m1, m2, em⟩) S.h9 (one_set (by omega) (by omega)) f1 f2⟩
theorem op_burn {a : Int32} (S : StG h G) : BothQ g (d + 40) mX9_burn mX10_burn [.int a] h := by
  have hB := S.2.2.1.1
  unfold TB at hB
  refine c_burn S.cz S.1.2.1.2.2.1 S.pok S.h9 (fun no => ?_) (fun j hj ej ne h1 f1 => ?_)
  · exact And.intro (Lk (by first | assumption | exact S.1.1 | exact (S.c f1).1.1 | exact S.1.1.fr f1.1 | exact S.1.1.fr f1 | exact F1.1 | exact f1.lay S.1.1) K_252) <| m_burn S.mz S.mps S.pok S.h9 (fun _ => ⟨rfl, G, S⟩) (fun j hj ej ne => absurd (no j hj ej) ne)
  · refine And.intro (Lk (by first | assumption | exact S.1.1 | exact (S.c f1).1.1 | exact S.1.1.fr f1.1 | exact S.1.1.fr f1 | exact F1.1 | exact f1.lay S.1.1) K_252) <| m_burn (S.mz1 f1) ((S.gm1 f1).mps S.2.2) S.pok S.h9 (fun no => absurd (no j hj ej) ne) (fun j2 hj2 ej2 _ h2 f2 => ?_)
    have : j2 = j := (nI_eq (by omega) (by omega)).mp (ej2.symm.trans ej)
    subst this
    have rg : RG 50 := ⟨50, by omega, rfl⟩
    exact ⟨rfl, S.kept (t' := setT (setT G.1.1.1 1 j2 50) 2 j2 50) S.2.2.1.1 (tr_set12 (Or.inr rfl) (tr_set12 (Or.inl rfl) S.2.2.1.2.1 rg) rg) S.h9 (one_tr (one_set (by omega) (by omega)) (one_set (by omega) (by omega))) f1 f2⟩
theorem op_lead {a b : Int32} (S : StG h G) : BothQ g (d + 40) mX9_lead mX10_lead [.int a, .int b] h := by
  have hB := S.2.2.1.1
  unfold TB at hB
  refine c_lead S.cz S.1.2.1.2.2.1 S.pok S.h9 (fun no => ?_) (fun q j hq hj eq ej ne h1 f1 => ?_)
  · exact And.intro (Lk (by first | assumption | exact S.1.1 | exact (S.c f1).1.1 | exact S.1.1.fr f1.1 | exact S.1.1.fr f1 | exact F1.1 | exact f1.lay S.1.1) K_252) <| m_lead S.mz S.mps S.pok S.h9 (fun _ => ⟨rfl, G, S⟩) (fun q j hq hj eq ej ne => absurd (no q j hq hj eq ej) ne)
  · refine And.intro (Lk (by first | assumption | exact S.1.1 | exact (S.c f1).1.1 | exact S.1.1.fr f1.1 | exact S.1.1.fr f1 | exact F1.1 | exact f1.lay S.1.1) K_252) <| m_lead (S.mz1 f1) ((S.gm1 f1).mps S.2.2) S.pok S.h9 (fun no => absurd (no q j hq hj eq ej) ne) (fun q2 j2 hq2 hj2 eq2 ej2 _ h2 f2 => ?_)
    have : q2 = q := (nI_eq (by omega) (by omega)).mp (eq2.symm.trans eq)
    subst this
    subst ej
    exact ⟨rfl, S.kept (t' := setT G.1.1.1 7 q2 (nI j)) S.2.2.1.1 (tr_set7 S.2.2.1.2.1 hj) S.h9 (one_set (by omega) (by omega)) f1 f2⟩
theorem op_undo (S : StG h G) : BothQ g (d + 40) mX9_undo mX10_undo [] h := by
  refine c_undo S.cz S.1.2.1.2.2.1 S.pok (fun no => ?_) (fun y1 h1 f1 => ?_)
  · exact And.intro (Lk (by first | assumption | exact S.1.1 | exact (S.c f1).1.1 | exact S.1.1.fr f1.1 | exact S.1.1.fr f1 | exact F1.1 | exact f1.lay S.1.1) K_252) <| m_undo S.mz S.mps S.pok (fun _ => ⟨rfl, G, S⟩) (fun z => absurd no z)
  · refine And.intro (Lk (by first | assumption | exact S.1.1 | exact (S.c f1).1.1 | exact S.1.1.fr f1.1 | exact S.1.1.fr f1 | exact F1.1 | exact f1.lay S.1.1) K_252) <| m_undo (S.mz1 f1) ((S.gm1 f1).mps S.2.2) S.pok (fun no => absurd no y1) (fun _ h2 f2 => ⟨rfl, _, S.act f1 f2 ?_⟩)
    have P := S.pok
    obtain ⟨b1, b2, b3, b4⟩ := P.2 (G.1.2.1.1 - 1) (by omega)
    refine S.2.2.1.act b1 b2 b3 b4 ⟨by have := P.1; omega, fun i hi => ?_⟩
    have hi : i < G.1.2.1.1 - 1 := hi
    obtain ⟨c1, c2, c3, c4⟩ := P.2 i (by omega)
    refine ⟨c1, c2, c3, fun k hk => (c4.1 k hk).trans (b4.1 k hk).symm, fun q hq => ?_⟩
    have hq : q < G.1.1.1.1 3 := by rw [b4.1 3 (by omega)] at hq; exact hq
    exact ⟨(c4.2 q hq).1.trans (b4.2 q hq).1.symm, (c4.2 q hq).2.trans (b4.2 q hq).2.symm⟩
end AC
