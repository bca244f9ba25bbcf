/-! city() of the class -/
theorem clau_rg {T : Nat → Nat} {n k p p' : Nat} {t t' : Tw} (h : TCo k t) (hp : p ≤ n) (e : clauC T n k p t = .inr (p', t')) : TCo (k + 1) t' ∧ p' ≤ n ∧ k < 40 := by
  have ec : clauC T n k p t = (match fW T n (bl T n p) [21, 7, 6] 0 with
    | none => .inl (1 + 8 * bl T n p + 0)
    | some (w, p1) => if fitC k w t = true then wrdC T n w p1 t else .inl (1 + 8 * bl T n p + 4)) := rfl
  rw [ec] at e
  cases ew : fW T n (bl T n p) [21, 7, 6] 0 with
  | none => rw [ew] at e; exact absurd e (by simp)
  | some q =>
    obtain ⟨w, p1⟩ := q
    rw [ew] at e
    simp only [] at e
    obtain ⟨w1, w2, w3, w4, -⟩ := fW_rg [21, 7, 6] 0 w p1 (by decide) ew
    have w4 : w < 0 + 3 := w4
    by_cases c : fitC k w t = true
    · rw [if_pos c] at e
      have := h.wrd w2 (by omega) c e
      unfold fitC at c
      have c := decide_eq_true_iff.mp c
      exact ⟨this.1, this.2.2, c.1⟩
    · rw [if_neg c] at e; exact absurd e (by simp)
theorem tco0 : TCo 0 tw0 := ⟨⟨Nat.zero_le _, Nat.zero_le _, Nat.zero_le _, Nat.zero_le _, Nat.zero_le _⟩, rfl, ⟨fun _ => rfl, fun _ => rfl⟩, fun _ => ⟨rfl, rfl⟩, fun j hj => absurd hj (Nat.not_lt_zero _), fun j hj => absurd hj (Nat.not_lt_zero _)⟩
def ACy (x k : Nat) : Prop := x = 29 ∨ (30 ≤ x ∧ x ≤ 38) ∨ (x = 0 ∧ k = 1) ∨ (4 ≤ x ∧ x ≤ 22) ∨ (x = 3 ∧ k = 6)
section CC4
variable {g : GT} {d n : Nat} {T : Nat → Nat} {h h0 : HP} {t : Tw}
theorem c_cityLoop {R : Nat ⊕ Tw} {Q : Int32 → HP → Prop} (hF : ∀ h' f, FrC ACt h0 h' → R = .inl f → (1 ≤ f ∧ f < 10000) → Q (nI f) h') (hY : ∀ h' t' k', FrC ACt h0 h' → R = .inr t' → TownIs h' 30 t' → TCo (k' + 1) t' → Q 0 h') : ∀ j k p t h, k + j = 40 → cityC T n j k p t = R → CT0 T n h → FrC ACt h0 h → CNs n h (.inr p) → TownIs h 30 t → TCo k t → Sat g mX6_readCity (d + 7) (0, 0) (qI Q) 15 [.ref 29, .double 0, .double 0, .int (nI k)] [] h := by
  intro j
  induction j with
  | zero =>
    intro k p t h hk eR C F D hT hO
    have n4 := C.2.2.1
    refine wX6_readCity_15 _ C.1 ⟨fun w => absurd w (nI_nlt (a := 40) (b := k) (by omega) (by omega)), fun _ => ⟨fun _ => c_cityClause (d := d) C D hT (by omega) (fun h1 f f1 D1 e1 => ⟨f1.lay C.1, fun w => ?_, fun w => ?_⟩) (fun h1 p' t' f1 D1 e1 T1 => ?_), fun w => absurd D.1 w⟩⟩
    · rw [D1.1] at w; exact absurd w (nI_ne0 (by have := D1.2.1; omega) (by have := D1.2.1; omega))
    · rw [D1.1]
      refine hF h1 f (F.tr f1) ?_ D1.2.1
      rw [← eR, cityC, e1]
    · have := clau_rg hO D.2.2 e1
      omega
  | succ j ih =>
    intro k p t h hk eR C F D hT hO
    have n4 := C.2.2.1
    have hTt := C.2.2.2.2.2
    refine wX6_readCity_15 _ C.1 ⟨fun w => absurd w (nI_nlt (a := 40) (b := k) (by omega) (by omega)), fun _ => ⟨fun _ => c_cityClause (d := d) C D hT (by omega) (fun h1 f f1 D1 e1 => ⟨f1.lay C.1, fun w => ?_, fun w => ?_⟩) (fun h1 p' t' f1 D1 e1 T1 => ⟨f1.lay C.1, fun w => ?_, fun w => absurd D1.1 w⟩), fun w => absurd D.1 w⟩⟩
    · rw [D1.1] at w; exact absurd w (nI_ne0 (by have := D1.2.1; omega) (by have := D1.2.1; omega))
    · rw [D1.1]
      refine hF h1 f (F.tr f1) ?_ D1.2.1
      rw [← eR, cityC, e1]
    · have r1 := clau_rg hO D.2.2 e1
      have C1 := C.fc f1
      have eR' : (if at_ T n (bl T n p') = 1000 then .inr t' else if at_ T n (bl T n p') = 59 then cityC T n j (k + 1) (bl T n p' + 1) t' else .inl (1 + 8 * bl T n p' + 0)) = R := by rw [← eR, cityC, e1]
      obtain ⟨b1, b2, b3⟩ := bl_rg (T := T) r1.2.1
      refine wX6_clauseListEnds_0 C1.1 (c_next C1 D1.2.1 D1.2.2 (fun h2 f2 e2 => ⟨f2.lay C1.1, ?_⟩))
      have C2 := C1.f3 f2
      have F2 : FrC ACt h0 h2 := (F.tr f1).tr (f2.wd (fun x k w => by unfold A3 at w; unfold ACt; omega))
      have T2 : ∀ h3, FrC A34 h1 h3 → TownIs h3 30 t' := fun h3 f3 => ⟨Ltw_30 (f3.lay C1.1), T1.2.1, fun k hk => by rw [f3.I (by unfold A34; omega)]; exact T1.2.2.1 k hk, fun r j hr => by rw [f3.I (by unfold A34; omega)]; exact T1.2.2.2 r j hr⟩
      have e24 : hI h2 29 4 = 0 := (f2.I (by unfold A3; omega)).trans D1.1
      have f2' : FrC A34 h1 h2 := f2.wd (fun x k w => by unfold A3 at w; unfold A34; omega)
      rw [e2]
      generalize bl T n p' = P at *
      refine ⟨fun w => ⟨C2.1.to rfl rfl rfl, fun _ => ?_, fun z => absurd rfl z⟩, fun w => ⟨fun w2 => ⟨C2.1, fun z => absurd z (by decide), fun _ => ?_⟩, fun w2 => c_fail (c := 0) C2.1 (fun h3 f3 e3 => ⟨f3.lay C2.1, ⟨f3.lay C2.1, fun z => absurd z (by decide), fun _ => ?_⟩⟩)⟩⟩
      · have a59 : at_ T n P = 59 := (sg_eq (c := 59) hTt (by omega)).mp w
        have hl : P < n := at_lt (T := T) (by omega)
        rw [if_neg (by omega), if_pos a59] at eR'
        rw [nI_1, nI_1]
        have f3 : FrC A3 h2 (setI h2 29 3 (nI (P + 1))) := FrC.stI ⟨rfl, rfl⟩
        refine ih (k + 1) (P + 1) t' _ (by omega) eR' (C2.f3 f3) (F2.tr (f3.wd (fun x k w => by unfold A3 at w; unfold ACt; omega))) ⟨by rw [f3.I (by unfold A3; omega)]; exact e24, rdI, hl⟩ (T2 _ (f2'.tr (f3.wd (fun x k w => by unfold A3 at w; unfold A34; omega)))) r1.1
      · have a1000 : at_ T n P = 1000 := (sg_m1 hTt).mp w2
        rw [if_pos a1000] at eR'
        rw [e24]
        exact hY h2 t' k F2 eR'.symm (T2 h2 f2') r1.1
      · have a59 : ¬ at_ T n P = 59 := fun z => w ((sg_eq (c := 59) hTt (by omega)).mpr z)
        have a1000 : ¬ at_ T n P = 1000 := fun z => w2 ((sg_m1 hTt).mpr z)
        rw [if_neg a1000, if_neg a59] at eR'
        rw [e24, if_pos rfl] at e3
        rw [e3]
        exact hF h3 _ (F2.tr (f3.wd (fun x k w => by unfold A4 at w; unfold ACt; omega))) eR'.symm (by omega)
theorem c_city {Q : Int32 → HP → Prop} (L : Lay h) (hn : n ≤ 400) (e01 : hI h 0 1 = nI n) (hT : (∀ i, i < n → hI h 1 i = nI (T i)) ∧ ∀ i, i < n → T i < 256) (hF : ∀ h' f, FLy ACy h h' → (∀ x k, 3 ≤ x ∧ x ≤ 22 → hI h' x k = hI h x k) → hI h' 0 1 = 0 → cityC T n 40 0 0 tw0 = .inl f → (1 ≤ f ∧ f < 10000) → Q (-2 - nI f) h') (hY : ∀ h' t k, FLy ACy h h' → hI h' 0 1 = 0 → cityC T n 40 0 0 tw0 = .inr t → TCo (k + 1) t → TownIs h' 4 t → TownIs h' 13 t → hI h' 22 1 = 0 → hI h' 22 2 = 0 → hI h' 3 6 = 0 → Q (nI (t.1 2)) h') : CallI g mX9_city (d + 8) [.ref 0] h Q := by
  refine wX9_city_0 L ?_
  rw [e01]
  refine wX6_readCity_0 _ L (c_open L hn hT (fun h1 f1 C1 p1 p2 p3 => ⟨C1.1, ?_⟩))
  have K1 := (Ltw_30 C1.1).1
  refine vX8_clear_0 30 _ ⟨K1, K1, K1, K1, K1, C1.1.to rfl rfl rfl, ?_⟩
  have f2 : FrC ACt h1 (setI (setI (setI (setI (setI h1 30 0 0) 30 1 0) 30 2 0) 30 3 0) 30 4 0) := ((((FrC.stI (by unfold ACt; omega)).tr (FrC.stI (by unfold ACt; omega))).tr (FrC.stI (by unfold ACt; omega))).tr (FrC.stI (by unfold ACt; omega))).tr (FrC.stI (by unfold ACt; omega))
  have g0 : ∀ k, k < 5 → hI (setI (setI (setI (setI (setI h1 30 0 0) 30 1 0) 30 2 0) 30 3 0) 30 4 0) 30 k = nI (tw0.1 k) := fun k hk => by
    rcases (show k = 0 ∨ k = 1 ∨ k = 2 ∨ k = 3 ∨ k = 4 by omega) with rfl | rfl | rfl | rfl | rfl <;> rfl
  have g3 : hI (setI (setI (setI (setI (setI h1 30 0 0) 30 1 0) 30 2 0) 30 3 0) 30 4 0) 29 3 = 0 := by rw [rdn (by omega), rdn (by omega), rdn (by omega), rdn (by omega), rdn (by omega)]; exact p1
  have g4 : hI (setI (setI (setI (setI (setI h1 30 0 0) 30 1 0) 30 2 0) 30 3 0) 30 4 0) 29 4 = 0 := by rw [rdn (by omega), rdn (by omega), rdn (by omega), rdn (by omega), rdn (by omega)]; exact p2
  generalize setI (setI (setI (setI (setI h1 30 0 0) 30 1 0) 30 2 0) 30 3 0) 30 4 0 = h2 at f2 g0 g3 g4 ⊢
  have C2 := C1.fc f2
  have T2 : TownIs h2 30 tw0 := ⟨Ltw_30 C2.1, tco0.1, g0, fun r j hr => by
    have hr : (1 ≤ r ∧ r ≤ 3 ∧ j < 0) ∨ (4 ≤ r ∧ r ≤ 8 ∧ j < 0) := hr
    omega⟩
  have fl : ∀ h3, FrC ACt h2 h3 → FLy (fun x _ => x = 29 ∨ (30 ≤ x ∧ x ≤ 38)) h h3 := fun h3 f3 => (f1.tr (FLy.of C1.1 (f2.tr f3) (fun x k w => by unfold ACt at w; unfold JC; omega))).wd (fun x k w => w.elim (fun z => by omega) (fun z => by unfold ACt at z; omega))
  have fl1 : ∀ h3, FrC ACt h2 h3 → FLy (fun x k => x = 29 ∨ (30 ≤ x ∧ x ≤ 38) ∨ (x = 0 ∧ k = 1)) h (setI h3 0 1 0) := fun h3 f3 => ((fl h3 f3).tr (FLy.of (A := fun x k => x = 0 ∧ k = 1) (fl h3 f3).1 (FrC.stI ⟨rfl, rfl⟩) (fun x k w => by unfold JC; omega))).wd (fun x k w => by omega)
  refine c_cityLoop (d := d) (T := T) (n := n) (h0 := h2) (R := cityC T n 40 0 0 tw0) (fun h3 f F3 E3 hf => ⟨F3.lay C2.1, fun z => absurd z (nI_ne0 (by omega) (by omega)), fun _ => ?_⟩) (fun h3 t k F3 E3 T3 O3 => ⟨F3.lay C2.1, fun _ => ?_, fun z => absurd rfl z⟩) 40 0 0 tw0 h2 (by omega) rfl C2 (FrC.rf h2) ⟨g4, g3, Nat.zero_le _⟩ T2 tco0
  · have F4 := fl1 h3 F3
    exact hF _ f (F4.wd (fun x k w => by unfold ACy; omega)) (fun x k hx => F4.2.2.2 x k (by omega)) rdI E3 hf
  · have F4 := fl1 h3 F3
    have T4 : TownIs (setI h3 0 1 0) 30 t := ⟨Ltw_30 F4.1, T3.2.1, fun k hk => by rw [rdn (by omega)]; exact T3.2.2.1 k hk, fun r j hr => by rw [rdn (by omega)]; exact T3.2.2.2 r j hr⟩
    have g01 : hI (setI h3 0 1 0) 0 1 = 0 := rdI
    generalize setI h3 0 1 0 = h4 at F4 T4 g01 ⊢
    have L4 := F4.1
    have E4 := Lle_3 L4
    refine vX3_beginWith_0 3 30 h4 ⟨E4.1, 4, E4.2.1.1, (Ltw_4 L4).1, c_copyFrom (Ltw_4 L4) T4 (by omega) (fun h5 o5 T5 => ?_)⟩
    have L5 : Lay h5 := L4.to o5.K o5.N o5.R
    have T5' : TownIs h5 30 t := T4.off o5 (by omega)
    refine ⟨(Lle_3 L5).1, 13, (Lle_3 L5).2.1.2.1, (Ltw_13 L5).1, c_copyFrom (Ltw_13 L5) T5' (by omega) (fun h6 o6 T6 => ?_)⟩
    have L6 : Lay h6 := L5.to o6.K o6.N o6.R
    have T64 : TownIs h6 4 t := T5.off o6 (by omega)
    refine ⟨(Lle_3 L6).1, 22, (Lle_3 L6).2.1.2.2.1, Lk L6 K_22, vX5_forget_0 22 _ ⟨Lk L6 K_22, Lk L6 K_22, ⟨Lk L6 K_3, ⟨L6.to rfl rfl rfl, ?_⟩⟩⟩⟩
    have f7 : FrC (fun x k => (x = 22 ∧ (k = 1 ∨ k = 2)) ∨ (x = 3 ∧ k = 6)) h6 (setI (setI (setI h6 22 1 0) 22 2 0) 3 6 0) := ((FrC.stI (by omega)).tr (FrC.stI (by omega))).tr (FrC.stI (by omega))
    have q1 : hI (setI (setI (setI h6 22 1 0) 22 2 0) 3 6 0) 22 1 = 0 := by rw [rdn (by omega), rdn (by omega), rdI]
    have q2 : hI (setI (setI (setI h6 22 1 0) 22 2 0) 3 6 0) 22 2 = 0 := by rw [rdn (by omega), rdI]
    have q6 : hI (setI (setI (setI h6 22 1 0) 22 2 0) 3 6 0) 3 6 = 0 := rdI
    generalize setI (setI (setI h6 22 1 0) 22 2 0) 3 6 0 = h7 at f7 q1 q2 q6 ⊢
    have L7 := f7.lay L6
    have T7 : TownIs h7 4 t := ⟨Ltw_4 L7, T64.2.1, fun k hk => by rw [f7.I (by omega)]; exact T64.2.2.1 k hk, fun r j hr => by unfold rowOK at hr; rw [f7.I (by omega)]; exact T64.2.2.2 r j hr⟩
    have T7' : TownIs h7 13 t := ⟨Ltw_13 L7, T6.2.1, fun k hk => by rw [f7.I (by omega)]; exact T6.2.2.1 k hk, fun r j hr => by unfold rowOK at hr; rw [f7.I (by omega)]; exact T6.2.2.2 r j hr⟩
    have X : FLy ACy h h7 := by
      refine ⟨L7, f7.1.trans (o6.1.trans (o5.1.trans F4.2.1)), ?_, fun x k w => ?_⟩
      · have j7 : hJ h7 = hJ h6 := by funext x k; exact (f7.2.2 x k).2 (fun w => by unfold JC at w; omega)
        rw [j7, o6.J, o5.J]; exact F4.2.2.1
      · unfold ACy at w
        rw [f7.I (by omega), o6.2.2 x (by omega), o5.2.2 x (by omega)]
        exact F4.2.2.2 x k (by omega)
    rw [T7.2.2.1 2 (by omega)]
    refine hY h7 t k X ?_ E3 O3 T7 T7' q1 q2 q6
    rw [f7.I (by omega), o6.2.2 0 (by omega), o5.2.2 0 (by omega)]; exact g01
end CC4
