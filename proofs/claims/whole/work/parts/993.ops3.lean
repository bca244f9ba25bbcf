/-! notes, city and rule, on both sides -/
theorem MRule.to2 {h h' : HP} {r : Nat} {P : Pg} (H : MRule h r P) (hP : P.2.1 P.1 ≤ 299) (e9 : hI h' 279 r = hI h 279 r) (e : ∀ x k, (x = 280 ∨ x = 281 ∨ x = 282) → k < 12 * r + 12 → hI h' x k = hI h x k) (e7 : ∀ x k, (x = 277 ∨ x = 278) → k < 300 * r + 300 → hI h' x k = hI h x k) : MRule h' r P := by
  obtain ⟨h1, h2, h3, h4, h5⟩ := H
  have p12 := h2.1
  refine ⟨h1, h2, e9.trans h3, fun c hc => ?_, fun i hi => ?_⟩
  · rw [e 280 _ (by omega) (by omega), e 281 _ (by omega) (by omega), e 282 _ (by omega) (by omega)]; exact h4 c hc
  · rw [e7 277 _ (by omega) (by omega), e7 278 _ (by omega) (by omega)]; exact h5 i hi
theorem LdOK.mono {l : Ld} {a b : Nat} (O : LdOK l a) (h : a ≤ b) : LdOK l b := ⟨O.1, O.2.1, O.2.2.1, O.2.2.2.1, O.2.2.2.2.1, O.2.2.2.2.2.1, Nat.le_trans O.2.2.2.2.2.2.1 h, O.2.2.2.2.2.2.2⟩
section ON
variable {g : GT} {d : Nat} {h : HP} {G : G4}
/-- NOTES have changed -/
theorem StG.nt {h2 : HP} {N : Nts} (S : StG h G) (L : Lay h2) (C : CNt h2 N) (M : MNt h2 N) (O : NtOK N G.1.1.1) (e : ∀ a k, ¬ (a = 3 ∧ k = 6) ∧ ¬ (24 ≤ a ∧ a ≤ 26) ∧ ¬ (a = 253 ∧ k = 5) ∧ ¬ (262 ≤ a ∧ a ≤ 264) → hI h2 a k = hI h a k) : StG h2 ((G.1.1, G.1.2.1, N, G.1.2.2.2), G.2) := by
  have H := S.1.2.1
  have V := S.2.1.1
  have p20 := S.2.2.1.2.2.2.2.1
  refine S.led _ L ⟨⟨Ltw_4 L, H.1.2.1, fun k hk => by rw [e _ _ (by omega)]; exact H.1.2.2.1 k hk, fun r j hr => by have q := hr; unfold rowOK at q; rw [e _ _ (by omega)]; exact H.1.2.2.2 r j hr⟩, ⟨Ltw_13 L, H.2.1.2.1, fun k hk => by rw [e _ _ (by omega)]; exact H.2.1.2.2.1 k hk, fun r j hr => by have q := hr; unfold rowOK at q; rw [e _ _ (by omega)]; exact H.2.1.2.2.2 r j hr⟩, H.2.2.1.fr p20 (fun x k hx => e x k (by omega)), C, (e _ _ (by omega)).trans H.2.2.2.2.1, (e _ _ (by omega)).trans H.2.2.2.2.2⟩ ⟨fun k hk => (e _ _ (by omega)).trans (V.1 k hk), fun r j hr => by have q := hr; unfold rowOK at q; exact (e _ _ (by omega)).trans (V.2.1 r j hr), M, (e _ _ (by omega)).trans V.2.2.2.1, (e _ _ (by omega)).trans V.2.2.2.2.1, ⟨fun j hj => by rw [e _ _ (by omega), e _ _ (by omega), e _ _ (by omega)]; exact V.2.2.2.2.2.1.1 j hj, fun i hi => (e _ _ (by omega)).trans (V.2.2.2.2.2.1.2 i hi)⟩, (e _ _ (by omega)).trans V.2.2.2.2.2.2.1, fun i hi => (V.2.2.2.2.2.2.2 i hi).to (p20.2 i hi).1 (fun k _ _ => e _ _ (by omega))⟩ ⟨S.2.2.1.1, S.2.2.1.2.1, S.2.2.1.2.2.1, S.2.2.1.2.2.2.1, S.2.2.1.2.2.2.2.1, O, S.2.2.1.2.2.2.2.2.2⟩ (fun a k ha => e a k (by omega)) (fun k hk => e _ _ (by omega)) (fun a k ha => e a k (by omega)) (fun k hk => e _ _ (by omega))
def addN (N : Nts) (n q : Nat) (b : Int32) : Nts := (N.1 + 1, up1 N.2.1 N.1 n, up1 N.2.2.1 N.1 q, up1 N.2.2.2 N.1 b)
theorem op_note {a b c : Int32} (S : StG h G) : BothQ g (d + 40) mX9_note mX10_note [.int a, .int b, .int c] h := by
  have O := S.2.2.1.2.2.2.2.2.1
  have hB := S.2.2.1.1
  unfold TB at hB
  refine c_note S.cz S.cnt O (fun e0 => ?_) (fun n1 no => ?_) (fun n1 n q hn hq en eq hb h10 => ?_)
  · have f1 : FrC (fun x k => x = 3 ∧ k = 6) h (setI h 3 6 0) := FrC.stI ⟨rfl, rfl⟩
    have L1 := f1.lay S.1.1
    have M1 : GM (setI h 3 6 0) G := S.2.1.cls S.2.2 (fun x k hx => f1.I (by omega))
    refine And.intro (Lk (by first | assumption | exact S.1.1 | exact (S.c f1).1.1 | exact S.1.1.fr f1.1 | exact S.1.1.fr f1 | exact F1.1 | exact f1.lay S.1.1) K_252) <| m_note (M1.mz S.2.2 L1) M1.1.2.2.1 O (fun _ => ⟨rfl, _, S.nt (N := (0, G.1.2.2.1.2)) (L1.to rfl rfl rfl) ⟨?_, fun k hk => absurd hk (Nat.not_lt_zero _)⟩ ⟨rdI, fun k hk => absurd hk (Nat.not_lt_zero _)⟩ ⟨Nat.zero_le _, fun k hk => absurd hk (Nat.not_lt_zero _)⟩ (fun x k hx => ?_)⟩) (fun z => absurd e0 z) (fun z => absurd e0 z)
    · rw [rdn (by omega), rdI]; rfl
    · rw [rdn (by omega), rdn (by omega)]
  · exact And.intro (Lk (by first | assumption | exact S.1.1 | exact (S.c f1).1.1 | exact S.1.1.fr f1.1 | exact S.1.1.fr f1 | exact F1.1 | exact f1.lay S.1.1) K_252) <| m_note S.mz S.mnt O (fun z => absurd z n1) (fun _ _ => ⟨rfl, G, S⟩) (fun _ n q hn hq en eq hb h10 => absurd (no n q hn hq en eq hb) (by omega))
  · have f1 : FrC (fun x k => (x = 3 ∧ k = 6) ∨ (24 ≤ x ∧ x ≤ 26)) h (setI (setI (setI (setI h 24 G.1.2.2.1.1 a) 25 G.1.2.2.1.1 b) 26 G.1.2.2.1.1 c) 3 6 (nI (G.1.2.2.1.1 + 1))) := (((FrC.stI (by omega)).tr (FrC.stI (by omega))).tr (FrC.stI (by omega))).tr (FrC.stI (by omega))
    have C1 : CNt (setI (setI (setI (setI h 24 G.1.2.2.1.1 a) 25 G.1.2.2.1.1 b) 26 G.1.2.2.1.1 c) 3 6 (nI (G.1.2.2.1.1 + 1))) (addN G.1.2.2.1 n q c) := by
      refine ⟨rdI, fun k hk => ?_⟩
      have hk : k < G.1.2.2.1.1 + 1 := hk
      show _ = nI (up1 _ _ n k) ∧ _ = nI (up1 _ _ q k) ∧ _ = up1 _ _ c k
      unfold up1
      by_cases z : k = G.1.2.2.1.1
      · subst z
        rw [if_pos rfl, if_pos rfl, if_pos rfl]
        refine ⟨?_, ?_, ?_⟩
        · rw [rdn (by omega), rdn (by omega), rdn (by omega), rdI]; exact en
        · rw [rdn (by omega), rdn (by omega), rdI]; exact eq
        · rw [rdn (by omega), rdI]
      · rw [if_neg z, if_neg z, if_neg z, rdn (by omega), rdn (by omega), rdn (by omega), rdn (by omega), rdn (by omega), rdn (by omega), rdn (by omega), rdn (by omega), rdn (by omega), rdn (by omega), rdn (by omega), rdn (by omega)]
        exact S.cnt.2 k (by omega)
    generalize setI (setI (setI (setI h 24 G.1.2.2.1.1 a) 25 G.1.2.2.1.1 b) 26 G.1.2.2.1.1 c) 3 6 (nI (G.1.2.2.1.1 + 1)) = h1 at f1 C1 ⊢
    have L1 := f1.lay S.1.1
    have M1 : GM h1 G := S.2.1.cls S.2.2 (fun x k hx => f1.I (by omega))
    refine And.intro (Lk (by first | assumption | exact S.1.1 | exact (S.c f1).1.1 | exact S.1.1.fr f1.1 | exact S.1.1.fr f1 | exact F1.1 | exact f1.lay S.1.1) K_252) <| m_note (M1.mz S.2.2 L1) M1.1.2.2.1 O (fun z => absurd z n1) (fun _ no => absurd (no n q hn hq en eq hb) (by omega)) (fun _ n2 q2 _ _ en2 eq2 _ _ => ⟨rfl, _, S.nt (N := addN G.1.2.2.1 n q c) (L1.to rfl rfl rfl) ?_ ?_ ?_ (fun x k hx => ?_)⟩)
    · exact C1.to (fun x k hx => by rw [rdn (by omega), rdn (by omega), rdn (by omega), rdn (by omega)])
    · refine ⟨rdI, fun k hk => ?_⟩
      have hk : k < G.1.2.2.1.1 + 1 := hk
      show _ = nI (up1 _ _ n k) ∧ _ = nI (up1 _ _ q k) ∧ _ = up1 _ _ c k
      unfold up1
      by_cases z : k = G.1.2.2.1.1
      · subst z
        rw [if_pos rfl, if_pos rfl, if_pos rfl]
        refine ⟨?_, ?_, ?_⟩
        · rw [rdn (by omega), rdn (by omega), rdn (by omega), rdI]; exact en
        · rw [rdn (by omega), rdn (by omega), rdI]; exact eq
        · rw [rdn (by omega), rdI]
      · rw [if_neg z, if_neg z, if_neg z, rdn (by omega), rdn (by omega), rdn (by omega), rdn (by omega), rdn (by omega), rdn (by omega), rdn (by omega), rdn (by omega), rdn (by omega), rdn (by omega), rdn (by omega), rdn (by omega)]
        exact M1.1.2.2.1.2 k (by omega)
    · refine ⟨by show G.1.2.2.1.1 + 1 ≤ 10; omega, fun k hk => ?_⟩
      have hk : k < G.1.2.2.1.1 + 1 := hk
      show up1 _ _ n k ≤ 60 ∧ up1 _ _ q k < _ ∧ (up1 _ _ c k = -1 ∨ ∃ j, j < _ ∧ up1 _ _ c k = nI j)
      unfold up1
      by_cases z : k = G.1.2.2.1.1
      · rw [if_pos z, if_pos z, if_pos z]; exact ⟨hn, hq, hb⟩
      · rw [if_neg z, if_neg z, if_neg z]; exact O.2 k (by omega)
    · rw [rdn (by omega), rdn (by omega), rdn (by omega), rdn (by omega), f1.I (by omega)]
end ON
