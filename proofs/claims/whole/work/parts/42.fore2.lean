/-! Foresight, on: how often to card, twins -/
theorem TownIs.card {h : HP} {a : Nat} {t : Tw} {c : Nat} (hT : TownIs h a t) (h2 : c ≤ 60) : TownIs (setI h a 0 (nI c)) a (cardS t c) := by
  have hB := hT.2.1
  unfold TB at hB
  refine ⟨hT.1.to rfl rfl rfl, ⟨h2, hB.2⟩, fun k hk => ?_, fun r j hr => ?_⟩
  · show up2 (hI h) a 0 _ a k = nI (up1 t.1 0 c k)
    by_cases e : k = 0
    · subst e; rw [up2_eq, up1_at]
    · rw [up2_ne _ _ (by omega)]
      simp only [up1, if_neg e]
      exact hT.2.2.1 k hk
  · rw [rdn (by unfold rowOK at hr; omega)]
    exact hT.2.2.2 r j hr
theorem beB_le {ρ : Option Rl} {t : Tw} {n c' : Nat} (h1 : 1 ≤ c') : ∀ c, c' ≤ c → ¬ farA (itN ρ (cardS t c') n) < (beB ρ t n c).2
  | 0, h => by omega
  | c + 1, h => by
    have es : beB ρ t n (c + 1) = if farA (itN ρ (cardS t (c + 1)) n) < (beB ρ t n c).2 then (nI (c + 1), farA (itN ρ (cardS t (c + 1)) n)) else beB ρ t n c := rfl
    rw [es]
    by_cases e : c' = c + 1
    · subst e
      split
      · exact Int32.lt_irrefl
      · assumption
    · have ih := beB_le (ρ := ρ) (t := t) (n := n) h1 c (by omega)
      split
      · next w =>
        intro z
        exact ih (Int32.lt_trans z w)
      · exact ih
section F2
variable {g : GT} {d : Nat} {h : HP} {t : Tw} {ρ : Option Rl} {r2 : Option Nat}
theorem c_findBest {n : Nat} {Q : HP → Prop} (L : Lay h) (hT : TownIs h 4 t) (R : TR t) (hC : CRho h r2 ρ) (hb : t.1 4 + n ≤ 5000) (hQ : ∀ h', Fr (fun x => 40 ≤ x ∧ x < 58) h h' → hI h' 57 0 = (beB ρ t n 60).1 → hI h' 57 1 = (beB ρ t n 60).2 → Q h') : CallV g mX1_findBest (d + 6) (0, 0) [.ref 46, .ref 4, ov r2, .int (nI n)] h Q := by
  have hB := hT.2.1
  unfold TB at hB
  have key := wX1_findBest_0 (g := g) (d := d + 5) (b := (0, 0)) (Q := qV Q) r2 (nI n) L (by
    refine loopN (σ := Int32 × Int32 × Int32) (P := fun i s h' => Sat g mX1_findBest (d + 6) (0, 0) (qV Q) 13 [.ref 46, .ref 4, ov r2, .int (nI n), .int s.1, .int s.2.1, .int s.2.2, .int (nI (i + 1)), .double 0] [] h') (I := fun i s h' => Fr (fun x => 40 ≤ x ∧ x < 58) h h' ∧ (i = 0 → s.1 = -1 ∧ s.2.1 = 1000000) ∧ (1 ≤ i → s.1 = (beB ρ t n i).1 ∧ s.2.1 = (beB ρ t n i).2) ∧ (s.2.2 = 0 ∨ (s.2.2 = 1 ∧ ∃ c', 1 ≤ c' ∧ c' ≤ i ∧ n ≤ c' - 1 - t.1 4 % c'))) 60 (fun s h' e => ?_) (fun i s h' hi e ih => ?_) 0 (-1, 1000000, 0) h (by omega) ⟨Fr.rf h, fun _ => ⟨rfl, rfl⟩, fun c => by omega, Or.inl rfl⟩
    · obtain ⟨f, -, e2, -⟩ := e
      obtain ⟨e2, e3⟩ := e2 (by omega)
      have L' := L.fr f
      rw [e2, e3]
      refine wX1_findBest_13 _ _ _ _ _ _ L' ⟨fun _ => c_tell L' ⟨L', hQ _ (f.tr (((Fr.stI (by omega)).tr (Fr.stI (by omega))).tr (Fr.stI (by omega)))) ?_ ?_⟩, fun c => absurd (show (60 : Int32) < nI 61 by decide) c⟩
      · rw [rdn (by omega), rdn (by omega), rdI]
      · rw [rdn (by omega), rdI]
    · obtain ⟨f, e1, e2, e3⟩ := e
      have L' := L.fr f
      have T' := hT.fr f (fun x h1 h2 => by omega)
      obtain ⟨cB, cR⟩ := cardS_ok (c := i + 1) hT.2.1 R (by omega) (by omega)
      obtain ⟨vB, vR⟩ := itN_ok (ρ := ρ) cB cR n (by exact hb)
      obtain ⟨F, hF, eF⟩ := farA_rg vB vR
      have hm := Nat.mod_lt (t.1 4) (show 0 < i + 1 by omega)
      have es : beB ρ t n (i + 1) = if farA (itN ρ (cardS t (i + 1)) n) < (beB ρ t n i).2 then (nI (i + 1), farA (itN ρ (cardS t (i + 1)) n)) else beB ρ t n i := rfl
      -- a round that is tried
      have go : ∀ x6 : Int32, (x6 = 0 ∨ (x6 = 1 ∧ ∃ c', 1 ≤ c' ∧ c' ≤ i + 1 ∧ n ≤ c' - 1 - t.1 4 % c')) → CallV g mX8_copyFrom (d + 5) (0, 0) [Value.ref 47, .ref 4] h' (fun h13 => Lay h13 ∧ CallV g mX1_goOn (d + 5) (0, 0) [Value.ref 46, ov r2, .int (nI n)] (setI h13 47 0 (nI (i + 1))) (fun h15 => Lay h15 ∧ CallI g mX8_farOfAll (d + 5) [Value.ref 47] h15 (fun i18 h17 => Lay h17 ∧ (s.2.1 ≤ i18 → Sat g mX1_findBest (d + 6) (0, 0) (qV Q) 13 [Value.ref 46, .ref 4, ov r2, .int (nI n), .int s.1, .int s.2.1, .int x6, .int (nI (i + 1 + 1)), .double 0] [] h17) ∧ (¬ (s.2.1 ≤ i18) → CallI g mX8_farOfAll (d + 5) [Value.ref 47] h17 (fun i21 h20 => Lay h20 ∧ Sat g mX1_findBest (d + 6) (0, 0) (qV Q) 13 [Value.ref 46, .ref 4, ov r2, .int (nI n), .int (nI (i + 1)), .int i21, .int x6, .int (nI (i + 1 + 1)), .double 0] [] h20))))) := by
        intro x6 h6
        refine c_copyFrom (Ltw_47 L') T' (by omega) (fun h2 o2 T2 => ?_)
        have f2 : Fr (fun x => 40 ≤ x ∧ x < 58) h h2 := f.tr (o2.fr.wd (fun x hx => by omega))
        have f3 : Fr (fun x => 40 ≤ x ∧ x < 58) h (setI h2 47 0 (nI (i + 1))) := f2.tr (Fr.stI (by omega))
        refine ⟨L.fr f2, c_goOn (L.fr f3) (T2.card (by omega)) cR (hC.to (fun x k hx => by rw [(f3.2.2 x (by omega)).1])) hb (fun h4 f4 T4 => ⟨(L.fr f3).fr f4, ?_⟩)⟩
        have f34 : Fr (fun x => 40 ≤ x ∧ x < 58) h h4 := f3.tr (f4.wd (fun x hx => by omega))
        refine c_farOfAll T4 ⟨L.fr f34, fun c => ?_, fun c => c_farOfAll T4 ⟨L.fr f34, ?_⟩⟩
        · have c : s.2.1 ≤ farA (itN ρ (cardS t (i + 1)) n) := c
          refine ih (s.1, s.2.1, x6) h4 ⟨f34, fun z => by omega, fun _ => ?_, h6⟩
          rcases Nat.eq_zero_or_pos i with z | z
          · rw [(e1 z).2, eF] at c
            exact absurd c (nI_ge (a := F) (b := 1000000) (by omega) (by omega))
          · rw [es, if_neg (by rw [← (e2 z).2]; exact Int32.not_lt.mpr c)]
            exact e2 z
        · have c : ¬ s.2.1 ≤ farA (itN ρ (cardS t (i + 1)) n) := c
          refine ih (nI (i + 1), farA (itN ρ (cardS t (i + 1)) n), x6) h4 ⟨f34, fun z => by omega, fun _ => ?_, h6⟩
          have : farA (itN ρ (cardS t (i + 1)) n) < (beB ρ t n i).2 := by
            rcases Nat.eq_zero_or_pos i with z | z
            · subst z
              show _ < (100000 : Int32)
              rw [eF]
              exact nI_lt (a := F) (b := 100000) (by omega) (by omega)
            · rw [← (e2 z).2]; exact Int32.not_le.mp c
          rw [es, if_pos this]
          exact ⟨rfl, rfl⟩
      have cnd : nI (i + 1) - 1 - (nI (t.1 4) - nI (t.1 4) / nI (i + 1) * nI (i + 1)) = nI (i - t.1 4 % (i + 1)) := by
        rw [pk_rem (by omega) (by omega) (by omega), nI_pred, pk_sub (by omega)]
      refine wX1_findBest_13 _ _ _ _ _ _ L' ⟨fun c => absurd c (nI_nlt (a := 60) (b := i + 1) (by omega) (by omega)), fun _ => ⟨nI_ne0 (by omega) (by omega), ?_⟩⟩
      rw [show hI h' 4 4 = nI (t.1 4) from T'.2.2.1 4 (by omega), cnd, nI_1, nI_leI (by omega) (by omega)]
      refine ⟨fun nd => ⟨fun _ => ⟨fun _ => ?_, fun _ => ?_⟩, fun z => ?_⟩, fun nd => ⟨fun _ => ?_, fun z => ?_⟩⟩
      · exact go 1 (Or.inr ⟨rfl, i + 1, by omega, by omega, by omega⟩)
      · exact go 1 (Or.inr ⟨rfl, i + 1, by omega, by omega, by omega⟩)
      · obtain ⟨w1, c', w2, w3, w4⟩ := e3.resolve_left z
        refine ih s h' ⟨f, fun z => by omega, fun _ => ?_, Or.inr ⟨w1, c', w2, by omega, w4⟩⟩
        have ev : farA (itN ρ (cardS t (i + 1)) n) = farA (itN ρ (cardS t c') n) := by
          rw [it_card ρ t (i + 1) n ((due_iff (by omega)).mpr (by omega)), it_card ρ t c' n ((due_iff w2).mpr w4), far_card, far_card]
        rw [es, if_neg (by rw [ev]; exact beB_le w2 i w3)]
        exact e2 (by omega)
      · exact go 0 (Or.inl rfl)
      · obtain ⟨w1, c', w2, w3, w4⟩ := e3.resolve_left z
        exact go 1 (Or.inr ⟨rfl, c', w2, by omega, w4⟩))
  cases r2 <;> exact key
end F2
/-- twins: how many, the first two -/
abbrev Tp : Type := Nat × Int32 × Int32
def twA (s : Nat → Int32) (a b : Nat) (p : Tp) : Tp := if s a = s b then (p.1 + 1, if p.1 = 0 then nI a else p.2.1, if p.1 = 0 then nI b else p.2.2) else p
def twI (s : Nat → Int32) (a : Nat) (p : Tp) : Nat → Tp
  | 0 => p
  | k + 1 => twA s a (a + 1 + k) (twI s a p k)
def twO (s : Nat → Int32) (L : Nat) : Nat → Tp
  | 0 => (0, -2, -2)
  | a + 1 => twI s a (twO s L a) (L - (a + 1))
theorem twI_le (s : Nat → Int32) (a : Nat) (p : Tp) : ∀ k, (twI s a p k).1 ≤ p.1 + k
  | 0 => Nat.le_refl _
  | k + 1 => by
    have := twI_le s a p k
    show (twA s a (a + 1 + k) (twI s a p k)).1 ≤ _
    unfold twA
    split
    · show (twI s a p k).1 + 1 ≤ _; omega
    · omega
theorem twO_le (s : Nat → Int32) (L : Nat) (hL : L ≤ 6) : ∀ a, (twO s L a).1 ≤ 6 * a
  | 0 => Nat.le_refl _
  | a + 1 => by
    have := twO_le s L hL a
    have h2 := twI_le s a (twO s L a) (L - (a + 1))
    show (twI s a (twO s L a) (L - (a + 1))).1 ≤ _
    omega
section F3
variable {g : GT} {d : Nat} {h : HP} {t : Tw} {ρ : Option Rl} {r2 : Option Nat}
def TwIs (h : HP) (p : Tp) : Prop := hI h 57 0 = nI p.1 ∧ hI h 57 1 = p.2.1 ∧ hI h 57 2 = p.2.2
theorem c_findTwins {n : Nat} {Q : HP → Prop} (L : Lay h) (hT : TownIs h 4 t) (R : TR t) (hC : CRho h r2 ρ) (hb : t.1 4 + n ≤ 5000) (hQ : ∀ h', Fr (fun x => 40 ≤ x ∧ x < 58) h h' → TwIs h' (twO ((itN ρ t n).2 4) (t.1 3) (t.1 3)) → Q h') : CallV g mX1_findTwins (d + 6) (0, 0) [.ref 46, .ref 4, ov r2, .int (nI n)] h Q := by
  have hB := hT.2.1
  unfold TB at hB
  have e3 := itN_k ρ t n (k := 3) (by omega)
  have key := wX1_findTwins_0 (g := g) (d := d + 5) (b := (0, 0)) (Q := qV Q) r2 (nI n) L (c_copyFrom (Ltw_47 L) hT (by omega) (fun h2 o2 T2 => by
    have f2 : Fr (fun x => 40 ≤ x ∧ x < 58) h h2 := o2.fr.wd (fun x hx => by omega)
    refine ⟨L.fr f2, c_goOn (L.fr f2) T2 R (hC.to (fun x k hx => by rw [(f2.2.2 x (by omega)).1])) hb (fun h3 f3 T3 => ?_)⟩
    have L3 := (L.fr f2).fr f3
    refine ⟨L3, c_tell L3 ⟨L3, ?_⟩⟩
    have f23 : Fr (fun x => 40 ≤ x ∧ x < 58) h h3 := f2.tr (f3.wd (fun x hx => by omega))
    have rd : ∀ h', TownIs h' 47 (itN ρ t n) → hI h' 47 3 = nI (t.1 3) := fun h' T' => by rw [T'.2.2.1 3 (by omega), e3]
    refine loopN (σ := Unit) (P := fun i _ h' => Sat g mX1_findTwins (d + 6) (0, 0) (qV Q) 26 [.ref 46, .double 0, .double 0, .double 0, .int (nI i), .double 0] [] h') (I := fun i _ h' => Fr (fun x => 40 ≤ x ∧ x < 58) h h' ∧ TownIs h' 47 (itN ρ t n) ∧ TwIs h' (twO ((itN ρ t n).2 4) (t.1 3) i)) (t.1 3) (fun _ h' e => ?_) (fun a _ h' ha e ih => ?_) 0 () _ (by omega) ⟨f23.tr (((Fr.stI (by omega)).tr (Fr.stI (by omega))).tr (Fr.stI (by omega))), T3.fr (((Fr.stI (A := fun x => x = 57) rfl).tr (Fr.stI rfl)).tr (Fr.stI rfl)) (fun x h1 h2 => by omega), rfl, rfl, rfl⟩
    · obtain ⟨f, T', w⟩ := e
      refine wX1_findTwins_26 _ (L.fr f) ⟨fun _ => hQ h' f w, fun c => absurd ?_ c⟩
      rw [rd h' T']
      exact nI_le (Nat.le_refl _) (by omega)
    · obtain ⟨f, T', w⟩ := e
      refine wX1_findTwins_26 _ (L.fr f) ⟨fun c => absurd (by rw [rd h' T'] at c; exact c) (nI_ge ha (by omega)), fun _ => ⟨fun c => absurd c (nI_ge (a := a) (b := 6) (by omega) (by omega)), fun _ => ?_⟩⟩
      rw [nI_1]
      have hle := twO_le ((itN ρ t n).2 4) (t.1 3) (by omega) a
      refine loopN (σ := Unit) (P := fun k _ h' => Sat g mX1_findTwins (d + 6) (0, 0) (qV Q) 51 [.ref 46, .double 0, .double 0, .double 0, .int (nI a), .int (nI (a + 1 + k))] [] h') (I := fun k _ h' => Fr (fun x => 40 ≤ x ∧ x < 58) h h' ∧ TownIs h' 47 (itN ρ t n) ∧ TwIs h' (twI ((itN ρ t n).2 4) a (twO ((itN ρ t n).2 4) (t.1 3) a) k)) (t.1 3 - (a + 1)) (fun _ h' e => ?_) (fun k _ h' hk e ih2 => ?_) 0 () h' (by omega) ⟨f, T', w⟩
      · obtain ⟨f, T', w⟩ := e
        refine wX1_findTwins_51 _ _ (L.fr f) ⟨fun _ => ?_, fun c => absurd ?_ c⟩
        · rw [nI_1]
          exact ih () h' ⟨f, T', w⟩
        · rw [rd h' T']
          exact nI_le (by omega) (by omega)
      · obtain ⟨f, T', w⟩ := e
        have L' := L.fr f
        have hle2 := twI_le ((itN ρ t n).2 4) a (twO ((itN ρ t n).2 4) (t.1 3) a) k
        have ih3 := ih2 ()
        have es : twI ((itN ρ t n).2 4) a (twO ((itN ρ t n).2 4) (t.1 3) a) (k + 1) = twA ((itN ρ t n).2 4) a (a + 1 + k) (twI ((itN ρ t n).2 4) a (twO ((itN ρ t n).2 4) (t.1 3) a) k) := rfl
        rw [es] at ih3
        generalize twI ((itN ρ t n).2 4) a (twO ((itN ρ t n).2 4) (t.1 3) a) k = p at *
        obtain ⟨w0, w1, w2⟩ := w
        refine wX1_findTwins_51 _ _ L' ⟨fun c => absurd (by rw [rd h' T'] at c; exact c) (nI_ge (a := a + 1 + k) (b := t.1 3) (by omega) (by omega)), fun _ => ⟨fun c => absurd c (nI_ge (a := a + 1 + k) (b := 6) (by omega) (by omega)), fun _ => ⟨vn (by omega) (by omega), vn (by omega) (by omega), ?_⟩⟩⟩
        rw [nI_clamp (n := a) (by omega), nI_clamp (n := a + 1 + k) (by omega), show hI h' 51 a = (itN ρ t n).2 4 a from T'.lod 4 (by omega) (by omega) (by omega), show hI h' 51 (a + 1 + k) = (itN ρ t n).2 4 (a + 1 + k) from T'.lod 4 (by omega) (by omega) (by omega), w0, nI_1]
        rw [show a + 1 + (k + 1) = a + 1 + k + 1 by omega] at ih3
        refine ⟨fun c => ?_, fun c => ?_⟩
        · have et : twA ((itN ρ t n).2 4) a (a + 1 + k) p = (p.1 + 1, if p.1 = 0 then nI a else p.2.1, if p.1 = 0 then nI (a + 1 + k) else p.2.2) := by unfold twA; rw [if_pos c]
          rw [et] at ih3
          refine ⟨fun z => c_tell L' ⟨L', ?_⟩, fun z => ?_⟩
          · have z : p.1 = 0 := (nI_eq (b := 0) (by omega) (by omega)).mp z
            simp only [if_pos z] at ih3
            refine ih3 _ ⟨f.tr ((((Fr.stI (by omega)).tr (Fr.stI (by omega))).tr (Fr.stI (by omega))).tr (Fr.stI (by omega))), T'.fr ((((Fr.stI (A := fun x => x = 57) rfl).tr (Fr.stI rfl)).tr (Fr.stI rfl)).tr (Fr.stI rfl)) (fun x h1 h2 => by omega), ?_, rfl, rfl⟩
            rw [z]; rfl
          · have z : ¬ p.1 = 0 := fun y => z (by rw [y]; rfl)
            simp only [if_neg z] at ih3
            refine ih3 _ ⟨f.tr (Fr.stI (by omega)), T'.fr (Fr.stI (A := fun x => x = 57) rfl) (fun x h1 h2 => by omega), rdI.trans (nI_1 _), ?_, ?_⟩
            · rw [rdn (by omega)]; exact w1
            · rw [rdn (by omega)]; exact w2
        · have et : twA ((itN ρ t n).2 4) a (a + 1 + k) p = p := by unfold twA; rw [if_neg c]
          rw [et] at ih3
          exact ih3 h' ⟨f, T', w0, w1, w2⟩))
  cases r2 <;> exact key
end F3
