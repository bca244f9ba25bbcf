/-! the class reads a CITY: CLAUSES, city() -/
section CC3
variable {g : GT} {d n : Nat} {T : Nat → Nat} {h : HP} {t : Tw}
theorem c_cityClause {k p : Nat} {Q : HP → Prop} (C : CT0 T n h) (D : CNs n h (.inr p)) (hT : TownIs h 30 t) (hk : k ≤ 40) (hF : ∀ h' f, FrC ACt h h' → CNs n h' (.inl f) → clauC T n k p t = .inl f → Q h') (hY : ∀ h' p' t', FrC ACt h h' → CNs n h' (.inr p') → clauC T n k p t = .inr (p', t') → TownIs h' 30 t' → Q h') : CallV g mX6_readCityClause (d + 6) (0, 0) [.ref 29, .int (nI k)] h Q := by
  have n4 := C.2.2.1
  obtain ⟨d4, d3, hp⟩ := D
  obtain ⟨b1, b2, b3⟩ := bl_rg (T := T) hp
  have hb := hT.2.1
  unfold TB at hb
  refine wX6_readCityClause_0 _ C.1 (c_next C d3 hp (fun h1 f1 e1 => ⟨f1.lay C.1, ?_⟩))
  have C1 := C.f3 f1
  have F1 : FrC ACt h h1 := f1.wd (fun x k w => by unfold A3 at w; unfold ACt; omega)
  have ec : clauC T n k p t = (match fW T n (bl T n p) [21, 7, 6] 0 with
    | none => .inl (1 + 8 * bl T n p + 0)
    | some (w, p1) => if fitC k w t = true then wrdC T n w p1 t else .inl (1 + 8 * bl T n p + 4)) := rfl
  rw [e1]
  generalize bl T n p = P at *
  have e14 : hI h1 29 4 = 0 := (f1.I (by unfold A3; omega)).trans d4
  refine c_takeWord (d := d) (t := 0) C1 (by decide) e1 b2 (fun no => ⟨C1.1, fun _ => c_fail (c := 0) C1.1 (fun h2 f2 e2 => ⟨f2.lay C1.1, ?_⟩), fun z => absurd rfl z⟩) (fun w p1 yes => ?_)
  · have no : fW T n P [21, 7, 6] 0 = none := no
    rw [no] at ec
    rw [e14, if_pos rfl] at e2
    exact hF h2 _ (F1.tr (f2.wd (fun x k w => by unfold A4 at w; unfold ACt; omega))) ⟨e2, by omega, P, b2, (f2.I (by unfold A4; omega)).trans e1⟩ ec
  · have yes : fW T n P [21, 7, 6] 0 = some (w, p1) := yes
    rw [yes] at ec
    obtain ⟨w1, w2, w3, w4, -⟩ := fW_rg [21, 7, 6] 0 w p1 (by decide) yes
    have w4 : w < 0 + 3 := w4
    have f2 : FrC A3 h1 (setI h1 29 3 (nI p1)) := FrC.stI ⟨rfl, rfl⟩
    have g3 : hI (setI h1 29 3 (nI p1)) 29 3 = nI p1 := rdI
    generalize setI h1 29 3 (nI p1) = h2 at f2 g3 ⊢
    have C2 := C1.f3 f2
    have F2 : FrC ACt h h2 := F1.tr (f2.wd (fun x k w => by unfold A3 at w; unfold ACt; omega))
    have e24 : hI h2 29 4 = 0 := (f2.I (by unfold A3; omega)).trans e14
    have T2 : TownIs h2 30 t := by
      refine ⟨Ltw_30 C2.1, hT.2.1, fun k hk => ?_, fun r j hr => ?_⟩
      · rw [f2.I (by unfold A3; omega), f1.I (by unfold A3; omega)]; exact hT.2.2.1 k hk
      · rw [f2.I (by unfold A3; omega), f1.I (by unfold A3; omega)]; exact hT.2.2.2 r j hr
    have D2 : CNs n h2 (.inr p1) := ⟨e24, g3, w2⟩
    refine ⟨C2.1, fun z => absurd z (nI_m1 (by omega)), fun _ => c_fits C2.1 T2 hk (by omega) ⟨C2.1, fun z => ?_, fun z => ?_⟩⟩
    · have nf : ¬ fitC k w t = true := fun c => by rw [if_pos c] at z; exact absurd z (by decide)
      have ec : clauC T n k p t = .inl (1 + 8 * P + 4) := by rw [ec]; exact if_neg nf
      refine c_fail (c := 4) C2.1 (fun h3 f3 e3 => ⟨f3.lay C2.1, ?_⟩)
      rw [e24, if_pos rfl] at e3
      exact hF h3 _ (F2.tr (f3.wd (fun x k w => by unfold A4 at w; unfold ACt; omega))) ⟨e3, by omega, p1, w2, (f3.I (by unfold A4; omega)).trans g3⟩ ec
    · have yf : fitC k w t = true := Decidable.byContradiction (fun c => z (by rw [if_neg c]))
      have ec : clauC T n k p t = wrdC T n w p1 t := by rw [ec]; exact if_pos yf
      have fe : (k < 40 ∧ ((w = 0 ∧ k = 0) ∨ (¬ w = 0 ∧ ¬ k = 0)) ∧ ¬ (w = 1 ∧ 5 ≤ t.1 2) ∧ ¬ (w = 2 ∧ 6 ≤ t.1 3)) := by unfold fitC at yf; exact decide_eq_true_iff.mp yf
      have tw2 : ∀ h', FrC A34 h2 h' → TownIs h' 30 t := fun h' f' => ⟨Ltw_30 (f'.lay C2.1), hT.2.1, fun k hk => by rw [f'.I (by unfold A34; omega)]; exact T2.2.2.1 k hk, fun r j hr => by rw [f'.I (by unfold A34; omega)]; exact T2.2.2.2 r j hr⟩
      unfold wrdC at ec
      refine ⟨fun z0 => ?_, fun z0 => ⟨fun z1 => ?_, fun z1 => ?_⟩⟩
      · -- city
        have e0 : w = 0 := (nI_eq (a := w) (b := 0) (by omega) (by omega)).mp z0
        rw [if_pos e0] at ec
        refine c_numX (d := d + 4) (a := 1) (b := 60) C2 D2 (by omega) (by omega) (fun h3 v3 y3 f3 D3 R3 => ⟨f3.lay C2.1, ?_⟩)
        have f4 : FrC ACt h3 (setI h3 30 0 v3) := FrC.stI (by unfold ACt; omega)
        have D4 : CNs n (setI h3 30 0 v3) y3 := D3.to (rdn (by omega)) (rdn (by omega))
        have C4 := (C2.f34 f3).fc f4
        refine c_numX (d := d + 4) (a := 1) (b := 6) C4 D4 (by omega) (by omega) (fun h5 v5 y5 f5 D5 R5 => ⟨f5.lay C4.1, ?_⟩)
        have f6 : FrC ACt h5 (setI h5 30 1 v5) := FrC.stI (by unfold ACt; omega)
        have D6 : CNs n (setI h5 30 1 v5) y5 := D5.to (rdn (by omega)) (rdn (by omega))
        have F6 := (((F2.tr (f34c f3)).tr f4).tr (f34c f5)).tr f6
        rcases numR_c R3 with ⟨f, en, rfl⟩ | ⟨e, v, en, rfl, rfl⟩
        · have R5 : y5 = .inl f := R5
          subst R5
          refine hF _ f F6 D6 ?_
          rw [ec]; unfold bd2; rw [en]
        · rcases numR_c R5 with ⟨f, en5, rfl⟩ | ⟨e5, v5', en5, rfl, rfl⟩
          · refine hF _ f F6 D6 ?_
            rw [ec]; unfold bd2; rw [en]; simp only []; rw [en5]
          · have r1 := num_rg w2 en
            have r2 := num_rg r1.2.1 en5
            refine hY _ e5 (tCity t v v5') F6 D6 ?_ ⟨Ltw_30 (f6.lay (f5.lay C4.1)), ⟨r1.2.2.2, r2.2.2.2, hT.2.1.2.2⟩, fun k hk => ?_, fun r j hr => ?_⟩
            · rw [ec]; unfold bd2; rw [en]; simp only []; rw [en5]
            · have t3 := tw2 h3 f3
              by_cases c1 : k = 1
              · subst c1; exact rdI
              · rw [rdn (by omega), f5.I (by unfold A34; omega)]
                by_cases c0 : k = 0
                · subst c0; exact rdI
                · rw [rdn (by omega), t3.2.2.1 k hk]
                  show nI (t.1 k) = nI (up1 (up1 t.1 0 v) 1 v5' k)
                  unfold up1
                  rw [if_neg c1, if_neg c0]
            · have t3 := tw2 h3 f3
              have hr : rowOK t r j := hr
              have hr2 := hr
              unfold rowOK at hr2
              rw [rdn (by omega), f5.I (by unfold A34; omega), rdn (by omega)]
              exact t3.2.2.2 r j hr
      · -- bed
        have e0 : ¬ w = 0 := fun q => z0 (by rw [q]; rfl)
        have e1 : w = 1 := (nI_eq (a := w) (b := 1) (by omega) (by omega)).mp z1
        rw [if_neg e0, if_pos e1] at ec
        refine c_numX (d := d + 4) (a := 0) (b := 99) C2 D2 (by omega) (by omega) (fun h3 v3 y3 f3 D3 R3 => ⟨f3.lay C2.1, ?_⟩)
        have C3 := C2.f34 f3
        refine c_numX (d := d + 4) (a := 0) (b := 99) C3 D3 (by omega) (by omega) (fun h4 v4 y4 f4 D4 R4 => ⟨f4.lay C3.1, ?_⟩)
        have C4 := C3.f34 f4
        refine c_numX (d := d + 4) (a := 1) (b := 9) C4 D4 (by omega) (by omega) (fun h5 v5 y5 f5 D5 R5 => ⟨f5.lay C4.1, ?_⟩)
        have f35 := (f3.tr f4).tr f5
        have t5 := tw2 h5 f35
        have L5 := f5.lay C4.1
        refine c_addBed L5 (t5.2.2.1 2 (by omega)) (by omega) ?_
        have f6 : FrC ACt h5 (setI (setI (setI (setI h5 31 (t.1 2) v3) 32 (t.1 2) v4) 33 (t.1 2) v5) 30 2 (nI (t.1 2 + 1))) := (((FrC.stI (by unfold ACt; omega)).tr (FrC.stI (by unfold ACt; omega))).tr (FrC.stI (by unfold ACt; omega))).tr (FrC.stI (by unfold ACt; omega))
        have D6 : CNs n (setI (setI (setI (setI h5 31 (t.1 2) v3) 32 (t.1 2) v4) 33 (t.1 2) v5) 30 2 (nI (t.1 2 + 1))) y5 := D5.to (by rw [rdn (by omega), rdn (by omega), rdn (by omega), rdn (by omega)]) (by rw [rdn (by omega), rdn (by omega), rdn (by omega), rdn (by omega)])
        have F6 := (F2.tr (f34c f35)).tr f6
        refine ⟨f6.lay L5, ?_⟩
        rcases numR_c R3 with ⟨f, en, rfl⟩ | ⟨e, v, en, rfl, rfl⟩
        · have R4 : y4 = .inl f := R4
          subst R4
          have R5 : y5 = .inl f := R5
          subst R5
          refine hF _ f F6 D6 ?_
          rw [ec]; unfold bd2; rw [en]
        · rcases numR_c R4 with ⟨f, en4, rfl⟩ | ⟨e4, v4', en4, rfl, rfl⟩
          · have R5 : y5 = .inl f := R5
            subst R5
            refine hF _ f F6 D6 ?_
            rw [ec]; unfold bd2; rw [en]; simp only []; rw [en4]
          · rcases numR_c R5 with ⟨f, en5, rfl⟩ | ⟨e5, v5', en5, rfl, rfl⟩
            · refine hF _ f F6 D6 ?_
              rw [ec]; unfold bd2; rw [en]; simp only []; rw [en4]; simp only []; rw [en5]
            · refine hY _ e5 (tBed t v v4' v5') F6 D6 ?_ (tw_bed L5 t5 (by omega))
              rw [ec]; unfold bd2; rw [en]; simp only []; rw [en4]; simp only []; rw [en5]
      · -- lodger
        have e0 : ¬ w = 0 := fun q => z0 (by rw [q]; rfl)
        have e1 : ¬ w = 1 := fun q => z1 (by rw [q]; rfl)
        rw [if_neg e0, if_neg e1] at ec
        refine c_numX (d := d + 4) (a := 0) (b := 99) C2 D2 (by omega) (by omega) (fun h3 v3 y3 f3 D3 R3 => ⟨f3.lay C2.1, ?_⟩)
        have C3 := C2.f34 f3
        refine c_numX (d := d + 4) (a := 1) (b := 9) C3 D3 (by omega) (by omega) (fun h4 v4 y4 f4 D4 R4 => ⟨f4.lay C3.1, ?_⟩)
        have C4 := C3.f34 f4
        refine c_numX (d := d + 4) (a := 0) (b := 99) C4 D4 (by omega) (by omega) (fun h5 v5 y5 f5 D5 R5 => ⟨f5.lay C4.1, ?_⟩)
        have f35 := (f3.tr f4).tr f5
        have t5 := tw2 h5 f35
        have L5 := f5.lay C4.1
        refine c_addLodger L5 (t5.2.2.1 3 (by omega)) (by omega) ?_
        have f6 : FrC ACt h5 (setI (setI (setI (setI (setI (setI h5 34 (t.1 3) v3) 35 (t.1 3) v4) 36 (t.1 3) v5) 37 (t.1 3) (-1)) 38 (t.1 3) 0) 30 3 (nI (t.1 3 + 1))) := (((((FrC.stI (by unfold ACt; omega)).tr (FrC.stI (by unfold ACt; omega))).tr (FrC.stI (by unfold ACt; omega))).tr (FrC.stI (by unfold ACt; omega))).tr (FrC.stI (by unfold ACt; omega))).tr (FrC.stI (by unfold ACt; omega))
        have D6 : CNs n (setI (setI (setI (setI (setI (setI h5 34 (t.1 3) v3) 35 (t.1 3) v4) 36 (t.1 3) v5) 37 (t.1 3) (-1)) 38 (t.1 3) 0) 30 3 (nI (t.1 3 + 1))) y5 := D5.to (by rw [rdn (by omega), rdn (by omega), rdn (by omega), rdn (by omega), rdn (by omega), rdn (by omega)]) (by rw [rdn (by omega), rdn (by omega), rdn (by omega), rdn (by omega), rdn (by omega), rdn (by omega)])
        have F6 := (F2.tr (f34c f35)).tr f6
        refine ⟨f6.lay L5, ?_⟩
        rcases numR_c R3 with ⟨f, en, rfl⟩ | ⟨e, v, en, rfl, rfl⟩
        · have R4 : y4 = .inl f := R4
          subst R4
          have R5 : y5 = .inl f := R5
          subst R5
          refine hF _ f F6 D6 ?_
          rw [ec]; unfold bd2; rw [en]
        · rcases numR_c R4 with ⟨f, en4, rfl⟩ | ⟨e4, v4', en4, rfl, rfl⟩
          · have R5 : y5 = .inl f := R5
            subst R5
            refine hF _ f F6 D6 ?_
            rw [ec]; unfold bd2; rw [en]; simp only []; rw [en4]
          · rcases numR_c R5 with ⟨f, en5, rfl⟩ | ⟨e5, v5', en5, rfl, rfl⟩
            · refine hF _ f F6 D6 ?_
              rw [ec]; unfold bd2; rw [en]; simp only []; rw [en4]; simp only []; rw [en5]
            · refine hY _ e5 (tLod t v v4' v5') F6 D6 ?_ (tw_lod L5 t5 (by omega))
              rw [ec]; unfold bd2; rw [en]; simp only []; rw [en4]; simp only []; rw [en5]
end CC3
