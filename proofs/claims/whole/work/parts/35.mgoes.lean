/-! the reference's goes -/
def AG (t : Tw) (x k : Nat) : Prop := (x = 252 ∧ k = 48) ∨ (x = 253 ∧ k = 4) ∨ ((x = 254 ∨ x = 255) ∧ k < t.1 2) ∨ ((x = 257 ∨ x = 260 ∨ x = 261) ∧ k < t.1 3) ∨ x = 284 ∨ x = 285 ∨ (287 ≤ x ∧ x ≤ 289)
/-- those who are held have their place -/
def heldOK (t : Tw) (ρ : Option Rl) (hd : Hd) (n : Nat) : Prop := ∀ q, q < n → ∀ y, hd q = some y → (lieS t ρ hd n).1 q = y
theorem lie_keep {t : Tw} {ρ : Option Rl} {hd : Hd} {i q : Nat} (h : i < q) : (lieS t ρ hd (q + 1)).1 i = (lieS t ρ hd q).1 i := by
  by_cases c : mayT t (lieS t ρ hd q).2 (goT t ρ hd (lieS t ρ hd q).2 q)
  · rw [lieS_y c]; exact up1_lt h
  · rw [lieS_n c]; exact up1_lt h
section MG
variable {g : GT} {d : Nat} {h : HP} {t : Tw} {ρ : Option Rl} {hd : Hd}
theorem m_goes {Q : Int32 → HP → Prop} (L : Lay h) (T : TD h 253 t) (R : TR t) (hc : ¬ t.1 0 = 0) (hM : MuIs h t hd) (hr : MRl g d h ρ) (hb : t.1 4 + 1 ≤ 5000) (hQ : ∀ h', FrC (AG t) h h' → TD h' 253 (nightT t ρ hd) → (hI h' 252 48 = 0 ↔ (hI h 252 48 = 0 ∨ ¬ heldOK t ρ hd (t.1 3))) → Q (nI (cntL (lieS t ρ hd (t.1 3)).1 (t.1 3))) h') : CallI g mX10_goes (d + 4) [.ref 252] h Q := by
  have hB := T.1
  unfold TB at hB
  refine wX10_goes_0 L ?_
  refine loopN (σ := Unit) (P := fun i _ h' => Sat g mX10_goes (d + 4) (0, 0) _ 4 [.ref 252, .int 0, .int (nI i)] [] h') (I := fun i _ h' => FrC (fun x _ => x = 288 ∨ x = 289) h h' ∧ ∀ j, j < i → hI h' 288 j = 0 ∧ hI h' 289 j = 0) 5 (fun _ h' e => ?_) (fun i _ h' hi e ih => ?_) 0 () h (by omega) ⟨FrC.rf h, fun j hj => by omega⟩
  · obtain ⟨f, z⟩ := e
    refine wX10_goes_4 _ _ (f.lay L) ⟨fun _ => ?_, fun c => absurd (show (5 : Int32) ≤ nI 5 by decide) c⟩
    refine loopN (σ := Unit) (P := fun q _ h' => Sat g mX10_goes (d + 4) (0, 0) _ 31 [.ref 252, .int (nI (cntL (lieS t ρ hd q).1 q)), .int (nI q)] [] h') (I := fun q _ h' => FrC (fun x k => (x = 252 ∧ k = 48) ∨ x = 284 ∨ x = 285 ∨ (287 ≤ x ∧ x ≤ 289)) h h' ∧ (∀ j, j < 5 → hI h' 288 j = nI ((lieS t ρ hd q).2 j)) ∧ (∀ j, j < 5 → hI h' 289 j = 0) ∧ (∀ i, i < q → hI h' 287 i = (lieS t ρ hd q).1 i) ∧ (hI h' 252 48 = 0 ↔ (hI h 252 48 = 0 ∨ ¬ heldOK t ρ hd q))) (t.1 3) (fun _ h2 e2 => ?_) (fun q _ h2 hq e2 ih => ?_) 0 () h' (by omega) ⟨f.wd (fun x k hx => by omega), fun j hj => (z j hj).1, fun j hj => (z j hj).2, fun i hi => by omega, ?_⟩
    · obtain ⟨f2, o8, o9, o7, o5⟩ := e2
      have L2 := f2.lay L
      have T2 : TD h2 253 t := T.fr f2 (fun k hk => by omega) (fun r j _ _ => by omega)
      refine wX10_goes_31 _ _ L2 ?_
      rw [mS T2 3 (by omega)]
      refine ⟨fun _ => m_shapesAll L2 T2 R hc (lie_ok (by omega) _).1 o7 (fun j hj => ?_) (fun j hj => o9 j (by omega)) (fun h3 f3 T3 => ⟨f3.lay L2, ?_⟩), fun c => absurd (nI_le (Nat.le_refl _) (by omega)) c⟩
      · rw [o8 j (by omega), lie_cnt (by omega) (by omega)]
      · refine hQ _ ((f2.wd (fun x k hx => ?_)).tr ((f3.wd (fun x k hx => ?_)).tr (FrC.stI ?_))) (T3.next (by rw [cardT_1]; exact hb)) ?_
        · unfold AG; omega
        · unfold AS at hx; unfold AG; omega
        · unfold AG; omega
        · rw [rdn (by omega), f3.I (by unfold AS; omega)]
          exact o5
    · obtain ⟨f2, o8, o9, o7, o5⟩ := e2
      have L2 := f2.lay L
      have T2 : TD h2 253 t := T.fr f2 (fun k hk => by omega) (fun r j _ _ => by omega)
      have M2 : MuIs h2 t hd := fun q hq => by rw [f2.I (by omega)]; exact hM q hq
      refine wX10_goes_31 _ _ L2 ?_
      rw [mS T2 3 (by omega), nI_clamp (n := q) (by omega), nI_1, nI_1]
      refine ⟨fun c => absurd c (nI_ge hq (by omega)), fun _ => m_choice (oc := (lieS t ρ hd q).2) L2 T2 R M2 hq (fun j hj => o8 j (by omega)) (fun j => Nat.le_trans ((lie_ok (by omega) q).2 j) (by omega)) (hr.to (fun x k hx => f2.I (by omega))) (fun x h3 ch f3 hh => ⟨f3.lay L2, vn (by omega) (by omega), ?_⟩)⟩
      have es := lieS_s (x := x) ch
      have e1 : (lieS t ρ hd (q + 1)).1 = up1 (lieS t ρ hd q).1 q x := by rw [es]
      have eq1 : (lieS t ρ hd (q + 1)).1 q = x := by rw [e1, up1_at]
      simp only [rdI]
      have held : heldOK t ρ hd (q + 1) ↔ (heldOK t ρ hd q ∧ ∀ y, hd q = some y → x = y) := by
        constructor
        · intro w
          exact ⟨fun i hi y hy => by rw [← lie_keep hi]; exact w i (by omega) y hy, fun y hy => by rw [← eq1]; exact w q (by omega) y hy⟩
        · rintro ⟨w1, w2⟩ i hi y hy
          by_cases c : i = q
          · subst c; rw [eq1]; exact w2 y hy
          · rw [lie_keep (by omega)]; exact w1 i (by omega) y hy
      have hh2 : ∀ h4 : HP, hI h4 252 48 = hI h3 252 48 → (hI h4 252 48 = 0 ↔ (hI h 252 48 = 0 ∨ ¬ heldOK t ρ hd (q + 1))) := by
        intro h4 e4
        rw [e4, hh, o5, held]
        constructor
        · rintro ((w | w) | ⟨y, w, w2⟩)
          · exact Or.inl w
          · exact Or.inr (fun z => w z.1)
          · exact Or.inr (fun z => w2 (z.2 y w))
        · rintro (w | w)
          · exact Or.inl (Or.inl w)
          · by_cases c : heldOK t ρ hd q
            · refine Or.inr (Classical.byContradiction (fun z => w ⟨c, fun y hy => Classical.byContradiction (fun z2 => z ⟨y, hy, z2⟩)⟩))
            · exact Or.inl (Or.inr c)
      have o73 : ∀ i, i < q + 1 → hI (setI h3 287 q x) 287 i = (lieS t ρ hd (q + 1)).1 i := by
        intro i hi
        rw [e1]
        by_cases c : i = q
        · subst c; rw [rdI, up1_at]
        · rw [rdn (by omega), f3.I (by omega), up1_lt (by omega)]
          exact o7 i (by omega)
      have ec : cntL (lieS t ρ hd (q + 1)).1 (q + 1) = if x = -1 then cntL (lieS t ρ hd q).1 q else cntL (lieS t ρ hd q).1 q + 1 := by
        rw [cntL_s, eq1, cntL_congr q (fun i hi => lie_keep hi)]
      have f23 : FrC (fun x k => (x = 252 ∧ k = 48) ∨ x = 284 ∨ x = 285 ∨ (287 ≤ x ∧ x ≤ 289)) h (setI h3 287 q x) := (f2.tr (f3.wd (fun x k hx => by omega))).tr (FrC.stI (by omega))
      refine ⟨fun c => ?_, fun c => ?_⟩
      · rw [if_pos c] at ec
        rw [← ec]
        refine ih () _ ⟨f23, fun j hj => ?_, fun j hj => ?_, o73, hh2 _ (rdn (by omega))⟩
        · rw [rdn (by omega), f3.I (by omega), o8 j hj, es, if_pos c]
        · rw [rdn (by omega), f3.I (by omega), o9 j hj]
      · rw [if_neg c] at ec
        rcases ch with ⟨w, ex⟩ | ⟨w, ex⟩
        · obtain ⟨j0, g1, g2, g3⟩ := (mayT_iff (by omega)).mp w
          rw [← ex] at g2
          subst g2
          rw [nI_clamp (n := j0) (by omega)] at *
          have e2 : (lieS t ρ hd (q + 1)).2 = up1 (lieS t ρ hd q).2 j0 ((lieS t ρ hd q).2 j0 + 1) := by rw [es, if_neg c]
          have o83 : hI h3 288 j0 = nI ((lieS t ρ hd q).2 j0) := by rw [f3.I (by omega)]; exact o8 j0 (by omega)
          rw [o83, nI_1, ← ec]
          refine ⟨vn (by omega) (by omega), ih () _ ⟨f23.tr (FrC.stI (by omega)), fun j hj => ?_, fun j hj => ?_, fun i hi => ?_, hh2 _ ?_⟩⟩
          · rw [e2]
            by_cases e : j = j0
            · subst e; rw [rdI, up1_at]
            · rw [rdn (by omega), rdn (by omega), f3.I (by omega), o8 j hj]
              simp [up1, e]
          · rw [rdn (by omega), rdn (by omega), f3.I (by omega), o9 j hj]
          · rw [rdn (by omega)]; exact o73 i hi
          · rw [rdn (by omega), rdn (by omega)]
        · exact absurd ex c
    · rw [f.I (by omega)]
      exact ⟨fun w => Or.inl w, fun w => w.resolve_right (fun z => z (fun q hq => by omega))⟩
  · obtain ⟨f, z⟩ := e
    refine wX10_goes_4 _ _ (f.lay L) ⟨fun c => absurd c (nI_ge (a := i) (b := 5) (by omega) (by omega)), fun _ => ⟨vn (by omega) (by omega), ?_⟩⟩
    rw [nI_clamp (n := i) (by omega), nI_1]
    refine ih () _ ⟨f.tr ((FrC.stI (by omega)).tr (FrC.stI (by omega))), fun j hj => ?_⟩
    by_cases c : j = i
    · subst c; rw [rdn (by omega), rdI, rdI]; exact ⟨rfl, rfl⟩
    · rw [rdn (by omega), rdn (by omega), rdn (by omega), rdn (by omega)]; exact z j (by omega)
end MG
