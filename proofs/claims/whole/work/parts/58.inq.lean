/-! by which rules the notes can have come about; of the class -/
/-- notes: how many, of which night, who, where -/
abbrev Nts : Type := Nat × (Nat → Nat) × (Nat → Nat) × (Nat → Int32)
def NtOK (N : Nts) (t : Tw) : Prop := N.1 ≤ 10 ∧ ∀ k, k < N.1 → N.2.1 k ≤ 60 ∧ N.2.2.1 k < t.1 3 ∧ (N.2.2.2 k = -1 ∨ ∃ j, j < t.1 2 ∧ N.2.2.2 k = nI j)
def agN (u : Nat → Tw) (N : Nts) : Nat → Bool
  | 0 => true
  | k + 1 => agN u N k && decide ((u (N.2.1 k)).2 7 (N.2.2.1 k) = N.2.2.2 k)
theorem agN_iff {u : Nat → Tw} {N : Nts} : ∀ n, agN u N n = true ↔ ∀ k, k < n → (u (N.2.1 k)).2 7 (N.2.2.1 k) = N.2.2.2 k
  | 0 => ⟨fun _ k hk => by omega, fun _ => rfl⟩
  | n + 1 => by
    rw [agN, Bool.and_eq_true, agN_iff n, decide_eq_true_iff]
    constructor
    · rintro ⟨h1, h2⟩ k hk
      by_cases c : k = n
      · subst c; exact h2
      · exact h1 k (by omega)
    · intro h
      exact ⟨fun k hk => h k (by omega), h n (by omega)⟩
noncomputable def agB (ρ : Option Rl) (t0 : Tw) (N : Nts) : Bool := agN (fun n => itN ρ t0 (n + 1)) N N.1
def rhoC (P : Nat → Pg) (c : Nat) : Option Rl := if c = 0 then none else some (evalR (P (c - 1)))
noncomputable def ruN (P : Nat → Pg) (t0 : Tw) (N : Nts) : Nat → Nat × Int32
  | 0 => (0, -2)
  | c + 1 => if agB (rhoC P c) t0 N = true then ((ruN P t0 N c).1 + 1, if (ruN P t0 N c).1 = 0 then pl c else (ruN P t0 N c).2) else ruN P t0 N c
theorem ruN_le (P : Nat → Pg) (t0 : Tw) (N : Nts) : ∀ c, (ruN P t0 N c).1 ≤ c
  | 0 => Nat.le_refl _
  | c + 1 => by
    have := ruN_le P t0 N c
    rw [ruN]
    by_cases y : agB (rhoC P c) t0 N = true
    · rw [if_pos y]; show (ruN P t0 N c).1 + 1 ≤ _; omega
    · rw [if_neg y]; omega
noncomputable def aRuled (P : Nat → Pg) (t0 : Tw) (N : Nts) (cnt : Nat) (w : Int32) : Int32 := if ¬ t0.1 0 = 0 ∧ IN w 0 1 then (if w = 0 then nI (ruN P t0 N (cnt + 1)).1 else (ruN P t0 N (cnt + 1)).2) else -3
/-- notes in the heap of the class -/
def CNt (h : HP) (N : Nts) : Prop := hI h 3 6 = nI N.1 ∧ ∀ k, k < N.1 → hI h 24 k = nI (N.2.1 k) ∧ hI h 25 k = nI (N.2.2.1 k) ∧ hI h 26 k = N.2.2.2 k
theorem CNt.to {h h' : HP} {N : Nts} (H : CNt h N) (e : ∀ x k, x = 3 ∨ (24 ≤ x ∧ x ≤ 26) → hI h' x k = hI h x k) : CNt h' N :=
  ⟨(e 3 6 (by omega)).trans H.1, fun k hk => by rw [e 24 k (by omega), e 25 k (by omega), e 26 k (by omega)]; exact H.2 k hk⟩
def CRs (h : HP) (P : Nat → Pg) (cnt : Nat) : Prop := cnt ≤ 6 ∧ ∀ r, r < cnt → CRule h (126 + 5 * r) (P r)
theorem CRs.to {h h' : HP} {P : Nat → Pg} {cnt : Nat} (H : CRs h P cnt) (e : ∀ x k, 126 ≤ x ∧ x < 156 → hI h' x k = hI h x k) : CRs h' P cnt := ⟨H.1, fun r hr => (H.2 r hr).to (fun x k hx => e x k (by have := H.1; omega))⟩
def rrC (c : Nat) : Option Nat := if c = 0 then none else some (126 + 5 * (c - 1))
theorem CRs.rho {h : HP} {P : Nat → Pg} {cnt c : Nat} (H : CRs h P cnt) (hc : c ≤ cnt) : CRho h (rrC c) (rhoC P c) := by
  unfold rrC rhoC
  by_cases z : c = 0
  · rw [if_pos z, if_pos z]; exact Or.inl ⟨rfl, rfl⟩
  · rw [if_neg z, if_neg z]; exact Or.inr ⟨c - 1, P (c - 1), by have := H.1; omega, rfl, H.2 (c - 1) (by omega), rfl⟩
def QA (x : Nat) : Prop := (40 ≤ x ∧ x < 46) ∨ (114 ≤ x ∧ x < 124)
section CIQ
variable {g : GT} {d : Nat} {h : HP} {t0 u : Tw} {ρ : Option Rl} {r2 : Option Nat} {N : Nts}
theorem c_lastNoted {Q : Int32 → HP → Prop} (L : Lay h) (H : CNt h N) (hN : NtOK N t0) (hQ : ∀ l, l ≤ 61 → (∀ k, k < N.1 → N.2.1 k < l) → Q (pl l) h) : CallI g mX3_lastNotedNight (d + 1) [.ref 3] h Q := by
  refine vX3_lastNotedNight_0 3 h ?_
  have hn := hN.1
  refine loopN (σ := Nat) (P := fun i l h' => Sat g mX3_lastNotedNight (d + 1) (0, 0) (qI Q) 4 [.ref 3, .int (pl l), .int (nI i)] [] h') (I := fun i l h' => h' = h ∧ l ≤ 61 ∧ ∀ k, k < i → N.2.1 k < l) N.1 (fun l h' e => ?_) (fun i l h' hi e ih => ?_) 0 0 h (by omega) ⟨rfl, by omega, fun k hk => by omega⟩
  · obtain ⟨rfl, hl, e⟩ := e
    refine vX3_lastNotedNight_4 3 _ _ h' ⟨Lk L K_3, ?_⟩
    rw [H.1]
    exact ⟨fun _ => hQ l hl e, fun c => absurd (nI_le (Nat.le_refl _) (by omega)) c⟩
  · obtain ⟨rfl, hl, e⟩ := e
    obtain ⟨n1, -, -⟩ := hN.2 i hi
    refine vX3_lastNotedNight_4 3 _ _ h' ⟨Lk L K_3, ?_⟩
    rw [H.1]
    refine ⟨fun c => absurd c (nI_ge hi (by omega)), fun _ => ⟨fun c => absurd c (nI_ge (a := i) (b := 10) (by omega) (by omega)), fun _ => ⟨Lk L K_3, _, Lr L R_3_3, Lk L K_24, by rw [Ln L N_24]; exact vn (by omega) (by omega), c_max ?_⟩⟩⟩
    rw [nI_clamp (n := i) (by omega), (H.2 i hi).1, nI_1]
    have key : (if pl l < nI (N.2.1 i) then nI (N.2.1 i) else pl l) = pl (if l < N.2.1 i + 1 then N.2.1 i + 1 else l) := by
      rcases pl_cases l with ⟨y, z⟩ | ⟨v, z, y⟩
      · subst z
        rw [if_pos (show 0 < N.2.1 i + 1 by omega), y, pl_s, if_pos]
        rw [Int32.lt_iff_toInt_lt, nI_toInt (by omega)]
        have : (-1 : Int32).toInt = -1 := rfl
        omega
      · subst z
        rw [y]
        by_cases c : v < N.2.1 i
        · rw [if_pos (nI_lt c (by omega)), if_pos (by omega), pl_s]
        · rw [if_neg (nI_nlt (by omega) (by omega)), if_neg (by omega), pl_s]
    rw [key]
    refine ih _ h' ⟨rfl, ?_, fun k hk => ?_⟩
    · by_cases c : l < N.2.1 i + 1
      · rw [if_pos c]; omega
      · rw [if_neg c]; omega
    · by_cases c : l < N.2.1 i + 1
      · rw [if_pos c]
        by_cases z : k = i
        · subst z; omega
        · have := e k (by omega); omega
      · rw [if_neg c]
        by_cases z : k = i
        · subst z; omega
        · exact e k (by omega)
theorem c_lagrees {n : Nat} {Q : Int32 → HP → Prop} (L : Lay h) (H : CNt h N) (hN : NtOK N t0) (hn : n ≤ 60) (hT : TownIs h 114 u) (h3 : u.1 3 = t0.1 3) (hy : (∀ k, k < N.1 → N.2.1 k = n → u.2 7 (N.2.2.1 k) = N.2.2.2 k) → Q 1 h) (hno : (∃ k, k < N.1 ∧ N.2.1 k = n ∧ ¬ u.2 7 (N.2.2.1 k) = N.2.2.2 k) → Q 0 h) : CallI g mX3_agrees (d + 1) [.ref 3, .ref 114, .int (nI n)] h Q := by
  have hB := hT.2.1
  unfold TB at hB
  have hn10 := hN.1
  refine vX3_agrees_0 3 114 _ h ?_
  refine loopN (σ := Unit) (P := fun i _ h' => Sat g mX3_agrees (d + 1) (0, 0) (qI Q) 2 [.ref 3, .ref 114, .int (nI n), .int (nI i), .double 0] [] h') (I := fun i _ h' => h' = h ∧ ∀ k, k < i → N.2.1 k = n → u.2 7 (N.2.2.1 k) = N.2.2.2 k) N.1 (fun _ h' e => ?_) (fun i _ h' hi e ih => ?_) 0 () h (by omega) ⟨rfl, fun k hk => by omega⟩
  · obtain ⟨rfl, e⟩ := e
    refine vX3_agrees_2 3 114 _ _ h' ⟨Lk L K_3, ?_⟩
    rw [H.1]
    exact ⟨fun _ => ⟨rfl, hy e⟩, fun c => absurd (nI_le (Nat.le_refl _) (by omega)) c⟩
  · obtain ⟨rfl, e⟩ := e
    obtain ⟨n1, n2, n3⟩ := hN.2 i hi
    refine vX3_agrees_2 3 114 _ _ h' ⟨Lk L K_3, ?_⟩
    rw [H.1]
    refine ⟨fun c => absurd c (nI_ge hi (by omega)), fun _ => ⟨fun c => absurd c (nI_ge (a := i) (b := 10) (by omega) (by omega)), fun _ => ⟨Lk L K_3, _, Lr L R_3_4, Lk L K_25, by rw [Ln L N_25]; exact vn (by omega) (by omega), Lk L K_3, _, Lr L R_3_3, Lk L K_24, by rw [Ln L N_24]; exact vn (by omega) (by omega), ?_⟩⟩⟩
    rw [nI_clamp (n := i) (by omega), (H.2 i hi).1, (H.2 i hi).2.1, nI_1]
    refine ⟨fun c => ⟨Lk L K_114, c_hasLodger hT (fun _ _ _ => ⟨fun z => absurd z (by decide), fun _ => ⟨Lk L K_114, _, Lr L R_114_11, Lk L K_121, by rw [Ln L N_121]; exact vn (by omega) (by omega), Lk L K_3, _, Lr L R_3_5, Lk L K_26, by rw [Ln L N_26]; exact vn (by omega) (by omega), ?_⟩⟩) (fun z => absurd rfl (z _ (by omega)))⟩, fun c => ih () h' ⟨rfl, fun k hk ek => ?_⟩⟩
    · rw [nI_clamp (by omega), (H.2 i hi).2.2, show hI h' 121 (N.2.2.1 i) = u.2 7 (N.2.2.1 i) from hT.lod 7 (by omega) (by omega) (by omega)]
      refine ⟨fun z => ih () h' ⟨rfl, fun k hk ek => ?_⟩, fun z => ⟨rfl, hno ⟨i, hi, (nI_eq (by omega) (by omega)).mp c, z⟩⟩⟩
      by_cases y : k = i
      · subst y; exact z
      · exact e k (by omega) ek
    · by_cases y : k = i
      · subst y; exact absurd (by rw [ek]) c
      · exact e k (by omega) ek
theorem c_agrees {m : Nat} {Q : Int32 → HP → Prop} (L : Lay h) (hT : TownIs h 13 t0) (R : TR t0) (h4 : t0.1 4 = 0) (H : CNt h N) (hN : NtOK N t0) (hC : CRho h r2 ρ) (hm : m ≤ 61) (hy : agB ρ t0 N = true → ∀ h', Fr QA h h' → (1 ≤ m → ∀ q, q < t0.1 3 → hI h' 123 q = (itN ρ t0 m).2 7 q) → Q 1 h') (hno : agB ρ t0 N = false → ∀ h', Fr QA h h' → Q 0 h') : CallI g mX2_agrees (d + 5) [.ref 113, .ref 3, ov r2, .int (pl m)] h Q := by
  have hB := hT.2.1
  unfold TB at hB
  have hiff := agN_iff (u := fun n => itN ρ t0 (n + 1)) (N := N) N.1
  have key := wX2_agrees_0 (g := g) (d := d + 4) (b := (0, 0)) (Q := qI Q) r2 (pl m) L (c_lastNoted L H hN (fun l hl hlk => ⟨L, c_max ⟨L, c_min ⟨L, by
    have e1 : (if pl m < pl l then pl l else pl m) = pl (if m < l then l else m) := by
      rcases pl_cases m with ⟨y, z⟩ | ⟨v, z, y⟩
      · rcases pl_cases l with ⟨y2, z2⟩ | ⟨v2, z2, y2⟩
        · subst z z2; rfl
        · subst z z2
          rw [if_pos (show 0 < v2 + 1 by omega), y, y2, if_pos]
          rw [Int32.lt_iff_toInt_lt, nI_toInt (by omega)]
          have : (-1 : Int32).toInt = -1 := rfl
          omega
      · rcases pl_cases l with ⟨y2, z2⟩ | ⟨v2, z2, y2⟩
        · subst z z2
          rw [if_neg (show ¬ v + 1 < 0 by omega), y, y2, if_neg]
          rw [Int32.lt_iff_toInt_lt, nI_toInt (by omega)]
          have : (-1 : Int32).toInt = -1 := rfl
          omega
        · subst z z2
          rw [y, y2]
          by_cases c : v < v2
          · rw [if_pos (nI_lt c (by omega)), if_pos (by omega), y2]
          · rw [if_neg (nI_nlt (by omega) (by omega)), if_neg (by omega), y]
    obtain ⟨lat, hlat⟩ : ∃ lat, lat = if m < l then l else m := ⟨_, rfl⟩
    rw [e1, ← hlat]
    have hlm : l ≤ lat ∧ m ≤ lat ∧ lat ≤ 61 := by
      by_cases c : m < l
      · rw [if_pos c] at hlat; omega
      · rw [if_neg c] at hlat; omega
    have e2 : (if pl lat < 60 then pl lat else 60) = pl lat := by
      rcases pl_cases lat with ⟨y, z⟩ | ⟨v, z, y⟩
      · rw [y]; rfl
      · rw [y]
        by_cases c : v < 60
        · exact if_pos (nI_lt (a := v) (b := 60) c (by omega))
        · exact (if_neg (nI_nlt (a := v) (b := 60) (by omega) (by omega))).trans (by rw [show v = 60 by omega]; rfl)
    rw [e2]
    clear e1 e2 hlat
    refine c_copyFrom (Ltw_114 L) hT (by omega) (fun h2 o2 T2 => ⟨L.fr o2.fr, ?_⟩)
    have f2 : Fr QA h h2 := o2.fr.wd (fun x hx => by unfold QA; omega)
    refine loopN (σ := Unit) (P := fun i _ h' => Sat g mX2_agrees (d + 5) (0, 0) (qI Q) 29 [.ref 113, .ref 3, ov r2, .int (pl m), .int (pl lat), .int (nI i), .double 0] [] h') (I := fun i _ h' => Fr QA h h' ∧ TownIs h' 114 (itN ρ t0 i) ∧ (∀ k, k < N.1 → N.2.1 k < i → (itN ρ t0 (N.2.1 k + 1)).2 7 (N.2.2.1 k) = N.2.2.2 k) ∧ (1 ≤ m → m ≤ i → ∀ q, q < t0.1 3 → hI h' 123 q = (itN ρ t0 m).2 7 q)) lat (fun _ h' e => ?_) (fun i _ h' hi e ih => ?_) 0 () h2 (by omega) ⟨f2, T2, fun k _ hk => by omega, fun h1 h2 => by omega⟩
    · obtain ⟨f, T', hk, hl⟩ := e
      refine wX2_agrees_29 _ _ _ _ (L.fr f) ⟨fun _ => hy (hiff.mpr (fun k hk2 => hk k hk2 (Nat.lt_of_lt_of_le (hlk k hk2) hlm.1))) h' f (fun h1 => hl h1 hlm.2.1), fun z => absurd ?_ z⟩
      rcases pl_cases lat with ⟨y, z⟩ | ⟨v, z, y⟩
      · rw [y, z]; decide
      · rw [y, z]; exact nI_lt (by omega) (by omega)
    · obtain ⟨f, T', hk, hl⟩ := e
      have L' := L.fr f
      have h4i : (itN ρ t0 i).1 4 = i := by rw [itN_4, h4]; omega
      refine wX2_agrees_29 _ _ _ _ L' ⟨fun z => absurd z ?_, fun _ => c_pass1 L' T' (itN_ok hT.2.1 R i (by omega)).2 (by omega) (hC.to (fun x k hx => by rw [(f.2.2 x (by unfold QA; omega)).1])) (by omega) (fun h3 f3 T3 => ⟨L'.fr f3, ?_⟩)⟩
      · rcases pl_cases lat with ⟨y, z⟩ | ⟨v, z, y⟩
        · omega
        · rw [y]; exact nI_nlt (by omega) (by omega)
      · have f03 : Fr QA h h3 := f.tr (f3.wd (fun x hx => by unfold QA; omega))
        have L3 := L.fr f03
        have H3 : CNt h3 N := H.to (fun x k hx => by rw [(f03.2.2 x (by unfold QA; omega)).1])
        have e3 : (itN ρ t0 (i + 1)).1 3 = t0.1 3 := itN_k ρ t0 (i + 1) (by decide)
        refine c_lagrees L3 H3 hN (by omega) T3 e3 (fun hok => ⟨L3, fun z => absurd z (by decide), fun _ => ?_⟩) (fun ⟨k, k1, k2, k3⟩ => ⟨L3, fun _ => hno ?_ h3 f03, fun z => absurd rfl z⟩)
        · have hk2 : ∀ k, k < N.1 → N.2.1 k < i + 1 → (itN ρ t0 (N.2.1 k + 1)).2 7 (N.2.2.1 k) = N.2.2.2 k := fun k h1 h2 => by
            by_cases y : N.2.1 k = i
            · rw [y]; exact hok k h1 y
            · exact hk k h1 (by omega)
          by_cases cm : m = i + 1
          · subst cm
            rw [pl_s]
            refine loopN (σ := Unit) (P := fun q _ h' => Sat g mX2_agrees (d + 5) (0, 0) (qI Q) 68 [.ref 113, .ref 3, ov r2, .int (nI i), .int (pl lat), .int (nI i), .int (nI q)] [] h') (I := fun q _ h5 => Fr (fun x => x = 123) h3 h5 ∧ ∀ j, j < q → hI h5 123 j = hI h3 121 j) 6 (fun _ h5 e => ?_) (fun q _ h5 hq e ih2 => ?_) 0 () h3 (by omega) ⟨Fr.rf h3, fun j hj => by omega⟩
            · obtain ⟨f5, e5⟩ := e
              refine wX2_agrees_68 _ _ _ _ _ (L3.fr f5) ⟨fun _ => ?_, fun z => absurd (by decide) z⟩
              rw [nI_1]
              have := ih () h5 ⟨f03.tr (f5.wd (fun x hx => by unfold QA; omega)), T3.fr f5 (fun x h1 h2 => by omega), hk2, fun _ _ q hq => ?_⟩
              · rw [pl_s] at this; exact this
              · rw [e5 q (by omega)]; exact T3.lod 7 (by omega) (by omega) (show q < (itN ρ t0 (i + 1)).1 3 by rw [e3]; exact hq)
            · obtain ⟨f5, e5⟩ := e
              refine wX2_agrees_68 _ _ _ _ _ (L3.fr f5) ⟨fun z => absurd z (nI_ge (a := q) (b := 6) hq (by omega)), fun _ => ⟨fun _ => ⟨vn (by omega) (by omega), ?_⟩, fun z => absurd rfl z⟩⟩
              rw [nI_clamp (n := q) (by omega), nI_1, (f5.2.2 121 (by omega)).1]
              refine ih2 () _ ⟨f5.tr (Fr.stI rfl), fun j hj => ?_⟩
              by_cases y : j = q
              · subst y; exact rdI
              · rw [rdn (by omega)]; exact e5 j (by omega)
          · have nz : ¬ nI i = pl m := fun z => by
              rcases pl_cases m with ⟨y, w⟩ | ⟨v, w, y⟩
              · rw [y] at z; exact absurd (nI_pos (n := i) (by omega)) (by rw [z]; decide)
              · rw [y] at z
                have := (nI_eq (by omega) (by omega)).mp z
                omega
            have nx : Sat g mX2_agrees (d + 5) (0, 0) (qI Q) 29 [.ref 113, .ref 3, ov r2, .int (pl m), .int (pl lat), .int (nI (i + 1)), .double 0] [] h3 := ih () h3 ⟨f03, T3, hk2, fun h1 h2 q hq => by rw [(f3.2.2 123 (by omega)).1]; exact hl h1 (by omega) q hq⟩
            refine wX2_agrees_68 (x6 := 0) _ _ _ _ L3 ⟨fun z => absurd z (by decide), fun _ => ⟨fun z => absurd z nz, fun _ => ?_⟩⟩
            rw [nI_1]
            exact nx
        · cases hz : agB ρ t0 N with
          | false => rfl
          | true =>
            have := hiff.mp hz k k1
            rw [k2] at this
            exact absurd this k3⟩⟩⟩))
  cases r2 <;> exact key
theorem told2q {h' : HP} {v : Nat} {Q : Int32 → HP → Prop} (L : Lay h') (hv : v < 2) (hQ : Q (hI h' 125 v) h') : CallI g mX2_told d [.ref 113, .int (nI v)] h' Q := by
  refine wX2_told_0 (nI v) L ⟨fun c => absurd c (nI_pos (by omega)), fun _ => ?_⟩
  rw [Ln L N_125, nI_clamp (by omega)]
  exact ⟨fun c => absurd c (nI_ge (a := v) (b := 2) hv (by omega)), fun _ => ⟨vn (by omega) (by omega), hQ⟩⟩
theorem c_findRuled {P : Nat → Pg} {cnt : Nat} {Q : HP → Prop} (L : Lay h) (hT : TownIs h 13 t0) (R : TR t0) (h4 : t0.1 4 = 0) (H : CNt h N) (hN : NtOK N t0) (hC : CRs h P cnt) (hQ : ∀ h', RC h h' → hI h' 125 0 = nI (ruN P t0 N (cnt + 1)).1 → hI h' 125 1 = (ruN P t0 N (cnt + 1)).2 → Q h') : CallV g mX2_findRuled (d + 6) (0, 0) [.ref 113, .ref 3, .ref 2, .int (nI cnt)] h Q := by
  have hc6 := hC.1
  refine wX2_findRuled_0 2 _ L ?_
  refine loopN (σ := Unit) (P := fun c _ h' => Sat g mX2_findRuled (d + 6) (0, 0) (qV Q) 18 [.ref 113, .ref 3, .ref 2, .int (nI cnt), .int (pl c)] [] h') (I := fun c _ h' => RC h h' ∧ hI h' 125 0 = nI (ruN P t0 N c).1 ∧ hI h' 125 1 = (ruN P t0 N c).2) (cnt + 1) (fun _ h' e => ?_) (fun c _ h' hc e ih => ?_) 0 () (setI (setI h 125 0 0) 125 1 (-2)) (by omega) ⟨(Fr.stI (by omega)).tr (Fr.stI (by omega)), (rdn (by omega)).trans rdI, rdI⟩
  · obtain ⟨f, e0, e1⟩ := e
    refine wX2_findRuled_18 2 _ _ (L.fr f) ?_
    rw [pl_s]
    exact ⟨fun _ => hQ h' f e0 e1, fun z => absurd (nI_le (Nat.le_refl _) (by omega)) z⟩
  · obtain ⟨f, e0, e1⟩ := e
    have L' := L.fr f
    have hle := ruN_le P t0 N c
    have ih := ih ()
    rw [ruN] at ih
    have body : CallI g mX2_agrees (d + 5) [.ref 113, .ref 3, ov (rrC c), .int (-1)] h' (fun i3 h2 => Lay h2 ∧ (i3 = 0 → Sat g mX2_findRuled (d + 6) (0, 0) (qV Q) 18 [.ref 113, .ref 3, .ref 2, .int (nI cnt), .int (pl c + 1)] [] h2) ∧ (¬ (i3 = 0) → ((hI h2 125 0) = 0 → Sat g mX2_findRuled (d + 6) (0, 0) (qV Q) 18 [.ref 113, .ref 3, .ref 2, .int (nI cnt), .int (pl c + 1)] [] (setI (setI h2 125 1 (pl c)) 125 0 ((hI h2 125 0) + 1))) ∧ (¬ ((hI h2 125 0) = 0) → Sat g mX2_findRuled (d + 6) (0, 0) (qV Q) 18 [.ref 113, .ref 3, .ref 2, .int (nI cnt), .int (pl c + 1)] [] (setI h2 125 0 ((hI h2 125 0) + 1))))) := by
      rw [pl_1]
      refine c_agrees (m := 0) L' (hT.fr f (fun x h1 h2 => by omega)) R h4 (H.to (fun x k hx => by rw [(f.2.2 x (by omega)).1])) hN ((hC.to (fun x k hx => by rw [(f.2.2 x (by omega)).1])).rho (by omega)) (by omega) (fun ag h2 f2 _ => ?_) (fun ag h2 f2 => ?_)
      · have f02 : RC h h2 := f.tr (f2.wd (fun x hx => by unfold QA at hx; omega))
        rw [if_pos ag] at ih
        have e02 : hI h2 125 0 = nI (ruN P t0 N c).1 := by rw [(f2.2.2 125 (by unfold QA; omega)).1]; exact e0
        have e12 : hI h2 125 1 = (ruN P t0 N c).2 := by rw [(f2.2.2 125 (by unfold QA; omega)).1]; exact e1
        rw [e02, nI_1]
        refine ⟨L.fr f02, fun z => absurd z (by decide), fun _ => ⟨fun z => ?_, fun z => ?_⟩⟩
        · have z1 : (ruN P t0 N c).1 = 0 := (nI_eq (by omega) (by omega)).mp z
          rw [if_pos z1] at ih
          exact ih _ ⟨f02.tr ((Fr.stI (by omega)).tr (Fr.stI (by omega))), rdI, (rdn (by omega)).trans rdI⟩
        · have z1 : ¬ (ruN P t0 N c).1 = 0 := fun y => z (by rw [y]; rfl)
          rw [if_neg z1] at ih
          exact ih _ ⟨f02.tr (Fr.stI (by omega)), rdI, (rdn (by omega)).trans e12⟩
      · have f02 : RC h h2 := f.tr (f2.wd (fun x hx => by unfold QA at hx; omega))
        rw [if_neg (by rw [ag]; decide)] at ih
        exact ⟨L.fr f02, fun _ => ih h2 ⟨f02, by rw [(f2.2.2 125 (by unfold QA; omega)).1]; exact e0, by rw [(f2.2.2 125 (by unfold QA; omega)).1]; exact e1⟩, fun z => absurd rfl z⟩
    refine wX2_findRuled_18 2 _ _ L' ⟨fun z => absurd z (pl_nle (by omega) (by omega)), fun _ => ⟨Lk L' K_2, ?_⟩⟩
    rw [Ln L' N_2]
    refine ⟨fun z => absurd z (pl_nle (n := 6) (by omega) (by omega)), fun _ => ⟨fun z => ?_, fun z => ?_⟩⟩
    · rcases pl_cases c with ⟨y, w⟩ | ⟨v, w, y⟩
      · rw [y] at z; exact absurd z (by decide)
      · rw [y, nI_clamp (by omega)]
        rw [y] at body
        refine ⟨vn (by omega) (by omega), _, Lrl L' (by omega), ?_⟩
        have : rrC c = some (126 + 5 * v) := by unfold rrC; rw [if_neg (by omega), show c - 1 = v by omega]
        rw [this] at body
        exact body
    · rcases pl_cases c with ⟨y, w⟩ | ⟨v, w, y⟩
      · have : rrC c = none := by unfold rrC; rw [if_pos w]
        rw [this] at body
        exact body
      · rw [y] at z; exact absurd (nI_pos' (by omega)) z
end CIQ
