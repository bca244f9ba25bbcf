/-! Nights: room, habit, rule -/
def NgS (h : HP) (n : Nat) : Prop := hK h n = 5 ∧ (hR h n 0 = some (n + 1) ∧ hR h n 1 = some (n + 2) ∧ hR h n 2 = some (n + 3) ∧ hR h n 3 = some (n + 4) ∧ hR h n 4 = some (n + 5)) ∧ (hK h (n + 1) = 21 ∧ hK h (n + 2) = 21 ∧ hK h (n + 3) = 21 ∧ hK h (n + 4) = 21 ∧ hK h (n + 5) = 24) ∧ (hN h (n + 1) = 5 ∧ hN h (n + 2) = 5 ∧ hN h (n + 3) = 6 ∧ hN h (n + 4) = 5 ∧ hN h (n + 5) = 32)
theorem NgS.to {h h' : HP} {n : Nat} (hT : NgS h n) (hk : hK h' = hK h) (hn : hN h' = hN h) (hr : hR h' = hR h) : NgS h' n := by
  unfold NgS at hT ⊢
  rw [hk, hn, hr]
  exact hT
theorem lgc_le (x y : Int64) : lg_cmp x y ≤ 0 ↔ ¬ y < x := (lg_cmp_le x y).trans Int64.not_lt.symm
/-- by habit: where they lay, if there is room, else the least with room -/
noncomputable def habT (t : Tw) (oc : Nat → Nat) (q : Nat) : Int32 := have := Classical.propDecidable (mayT t oc (t.2 7 q)); if mayT t oc (t.2 7 q) then t.2 7 q else firstB (okT t oc) (t.1 2) 0
def bestN (ok : Nat → Bool) (v : Nat → Nat) : Nat → Int32 × Nat
  | 0 => (-1, 0)
  | n + 1 => if ok n = true ∧ (bestN ok v n).2 < v n then (nI n, v n) else bestN ok v n
theorem bestN_lt (ok : Nat → Bool) (v : Nat → Nat) {M : Nat} (hM : 0 < M) : ∀ n, (∀ b, b < n → v b < M) → (bestN ok v n).2 < M
  | 0, _ => hM
  | n + 1, h => by
    unfold bestN
    split
    · exact h n (by omega)
    · exact bestN_lt ok v hM n (fun b hb => h b (by omega))
theorem bestB_N (ok : Nat → Bool) (f : Nat → Int64) (v : Nat → Nat) : ∀ n, (∀ b, b < n → f b = lN (v b) ∧ v b < 2 ^ 31) → bestB ok f n = ((bestN ok v n).1, lN (bestN ok v n).2)
  | 0, _ => rfl
  | n + 1, h => by
    have ih := bestB_N ok f v n (fun b hb => h b (by omega))
    have hl := bestN_lt ok v (M := 2 ^ 31) (by decide) n (fun b hb => (h b (by omega)).2)
    obtain ⟨e1, e2⟩ := h n (by omega)
    have e3 := lN_lt hl e2
    unfold bestB bestN
    rw [ih, e1]
    by_cases c : ok n = true ∧ (bestN ok v n).2 < v n
    · rw [if_pos ⟨c.1, e3.mpr c.2⟩, if_pos c]
    · rw [if_neg (fun q => c ⟨q.1, e3.mp q.2⟩), if_neg c]
theorem firstB_app (ok : Nat → Bool) : ∀ k i, firstB ok (k + 1) i = (if firstB ok k i = -1 then (if ok (i + k) = true then nI (i + k) else -1) else firstB ok k i) ∨ 2 ^ 31 ≤ i + k
  | 0, i => by simp [firstB]
  | k + 1, i => by
    rcases Nat.lt_or_ge (i + (k + 1)) (2 ^ 31) with hl | hl
    · rcases firstB_app ok k (i + 1) with ih | ih
      · refine Or.inl ?_
        have u : firstB ok (k + 1 + 1) i = if ok i = true then nI i else firstB ok (k + 1) (i + 1) := rfl
        have u2 : firstB ok (k + 1) i = if ok i = true then nI i else firstB ok k (i + 1) := rfl
        rw [u, u2]
        by_cases c : ok i = true
        · rw [if_pos c, if_pos c]
          have : ¬ nI i = -1 := fun e => by
            have := nI_toInt (n := i) (by omega)
            rw [e] at this
            have e2 : (-1 : Int32).toInt = -1 := by decide
            rw [e2] at this
            omega
          rw [if_neg this]
        · rw [if_neg c, if_neg c, ih, show i + 1 + k = i + (k + 1) by omega]
      · exact Or.inr (by omega)
    · exact Or.inr hl
theorem hab_none (ok : Nat → Bool) (v : Nat → Nat) (lim : Nat) (hlim : lim ≤ 5) (hv : ∀ b, b < lim → ok b = true → v b = 10 - b) : ∀ n, n ≤ lim → ((bestN ok v n).1 = firstB ok n 0 ∧ (((bestN ok v n).2 = 0 ∧ firstB ok n 0 = -1) ∨ (10 - n < (bestN ok v n).2 ∧ ¬ firstB ok n 0 = -1)))
  | 0, _ => ⟨rfl, Or.inl ⟨rfl, rfl⟩⟩
  | n + 1, hn => by
    obtain ⟨h1, h2⟩ := hab_none ok v lim hlim hv n (by omega)
    have e := (firstB_app ok n 0).resolve_right (by omega)
    rw [Nat.zero_add] at e
    unfold bestN
    by_cases c : ok n = true
    · have hvn := hv n (by omega) c
      rcases h2 with ⟨h3, h4⟩ | ⟨h3, h4⟩
      · rw [if_pos ⟨c, by omega⟩, e, if_pos h4, if_pos c]
        refine ⟨rfl, Or.inr ⟨by simp only; omega, ?_⟩⟩
        intro e5
        have := nI_toInt (n := n) (by omega)
        rw [e5] at this
        have e2 : (-1 : Int32).toInt = -1 := by decide
        rw [e2] at this
        omega
      · rw [if_neg (by omega), e, if_neg h4]
        exact ⟨h1, Or.inr ⟨by omega, h4⟩⟩
    · rw [if_neg (fun q => c q.1), e]
      rcases h2 with ⟨h3, h4⟩ | ⟨h3, h4⟩
      · rw [if_pos h4, if_neg c]
        exact ⟨h1.trans h4, Or.inl ⟨h3, rfl⟩⟩
      · rw [if_neg h4]
        exact ⟨h1, Or.inr ⟨by omega, h4⟩⟩
theorem hab_some (ok : Nat → Bool) (v : Nat → Nat) (j lim : Nat) (hj : ok j = true) (hvj : v j = 100) (hv : ∀ b, b < lim → b ≠ j → v b ≤ 10) : ∀ n, n ≤ lim → (n ≤ j → (bestN ok v n).2 ≤ 10) ∧ (j < n → bestN ok v n = (nI j, 100))
  | 0, _ => ⟨fun _ => by simp [bestN], fun h => by omega⟩
  | n + 1, hl => by
    obtain ⟨h1, h2⟩ := hab_some ok v j lim hj hvj hv n (by omega)
    refine ⟨fun h => ?_, fun h => ?_⟩
    · unfold bestN
      have := hv n (by omega) (by omega)
      have := h1 (by omega)
      split
      · simp only; omega
      · omega
    · unfold bestN
      by_cases c : n = j
      · subst c
        have := h1 (Nat.le_refl _)
        rw [if_pos ⟨hj, by omega⟩, hvj]
      · have e := h2 (by omega)
        have := hv n (by omega) c
        rw [e, if_neg (by simp only; omega)]
theorem hab_pick {t : Tw} {oc : Nat → Nat} {q : Nat} (hb : t.1 2 ≤ 5) : habT t oc q = pickT t none oc q := by
  have key := bestB_N (okT t oc) (worthT t none oc q) (fun b => if t.2 7 q = nI b then 100 else 10 - b) (t.1 2) (fun b hb2 => by
    refine ⟨?_, by show (if t.2 7 q = nI b then 100 else 10 - b) < 2 ^ 31; split <;> omega⟩
    show (if t.2 7 q = nI b then (100 : Int64) else 10 - (nI b).toInt64) = lN (if t.2 7 q = nI b then 100 else 10 - b)
    by_cases c : t.2 7 q = nI b
    · rw [if_pos c, if_pos c]; rfl
    · rw [if_neg c, if_neg c, nI_l (by omega), ← lN_sub (by omega)]; rfl)
  unfold pickT
  rw [key]
  unfold habT
  by_cases c : mayT t oc (t.2 7 q)
  · rw [if_pos c]
    obtain ⟨j, h1, h2, h3⟩ := (mayT_iff hb).mp c
    have := (hab_some (okT t oc) (fun b => if t.2 7 q = nI b then 100 else 10 - b) j (t.1 2) (by simp [okT, h3]) (by simp [h2]) (fun b hbl hbj => by
      show (if t.2 7 q = nI b then 100 else 10 - b) ≤ 10
      split
      · next e =>
        exfalso
        rw [h2] at e
        exact hbj ((nI_eq (by omega) (by omega)).mp e).symm
      · omega) (t.1 2) (Nat.le_refl _)).2 h1
    rw [this, h2]
  · rw [if_neg c]
    refine ((hab_none (okT t oc) (fun b => if t.2 7 q = nI b then 100 else 10 - b) (t.1 2) hb (fun b hb2 hok => ?_) (t.1 2) (Nat.le_refl _)).1).symm
    show (if t.2 7 q = nI b then 100 else 10 - b) = 10 - b
    rw [if_neg]
    intro e
    exact c ((mayT_iff hb).mpr ⟨b, hb2, e, by simpa [okT] using hok⟩)
section NIGHTS
variable {g : GT} {d : Nat} {a n : Nat} {h : HP} {t : Tw} {oc : Nat → Nat}
theorem c_hasRoom {x : Int32} {Q : Int32 → HP → Prop} (hN : NgS h n) (hT : TownIs h a t) (hO : ∀ j, j < t.1 2 → hI h (n + 1) j = nI (oc j)) (hob : ∀ j, oc j ≤ 6) (hy : mayT t oc x → Q 1 h) (hn : ¬ mayT t oc x → Q 0 h) : CallI g mX4_hasRoom (d + 1) [.ref n, .ref a, .int x] h Q := by
  have hb2 : t.1 2 ≤ 5 := hT.2.1.2.2.1
  have hb1 : t.1 1 ≤ 6 := hT.2.1.2.1
  have e1 := hT.2.2.1 1 (by omega)
  obtain ⟨k0, ⟨r0, r1, r2, r3, r4⟩, ⟨k1, k2, k3, k4, k5⟩, n1, n2, n3, n4, n5⟩ := hN
  refine vX4_hasRoom_0 n a x h ⟨hT.1.1, c_hasBed hT (fun j hj e => ?_) (fun q => ?_)⟩
  · subst e
    refine ⟨fun q => absurd q (by decide), fun _ => ⟨k0, _, r0, k1, vin (by omega) n1 (by omega), hT.1.1, ?_⟩⟩
    have := hob j
    rw [nI_clamp (by omega), hO j hj, e1, nI_leI (by omega) (by omega)]
    refine ⟨fun q => ⟨rfl, hn (fun w => ?_)⟩, fun q => ⟨rfl, hy ((mayT_iff hb2).mpr ⟨j, hj, rfl, by omega⟩)⟩⟩
    obtain ⟨j2, h1, h2, h3⟩ := (mayT_iff hb2).mp w
    have := (nI_eq (by omega) (by omega)).mp h2
    subst this
    omega
  · refine ⟨fun _ => ⟨rfl, hn (fun w => ?_)⟩, fun c => absurd rfl c⟩
    obtain ⟨j2, h1, h2, h3⟩ := (mayT_iff hb2).mp w
    exact q j2 h1 h2
theorem may_j {j : Nat} (hb2 : t.1 2 ≤ 5) (hj : j < t.1 2) : mayT t oc (nI j) ↔ okT t oc j = true := by
  rw [mayT_iff hb2]
  constructor
  · rintro ⟨j2, h1, h2, h3⟩
    have := (nI_eq (by omega) (by omega)).mp h2
    subst this
    simp [okT, h3]
  · intro h
    exact ⟨j, hj, rfl, by simpa [okT] using h⟩
theorem l_byHabit {b : Nat × Nat} {Q : Option Value → HP → Prop} (hN : NgS h n) (hT : TownIs h a t) (hO : ∀ j, j < t.1 2 → hI h (n + 1) j = nI (oc j)) (hob : ∀ j, oc j ≤ 6) : ∀ k i, i + k = t.1 2 → Q (some (.int (firstB (okT t oc) k i))) h → Sat g mX4_byHabit (d + 2) b Q 31 [.ref n, .ref a, .double 0, .int (nI i)] [] h := by
  have hb2 : t.1 2 ≤ 5 := hT.2.1.2.2.1
  have e2 := hT.2.2.1 2 (by omega)
  intro k
  induction k with
  | zero =>
    intro i hi hQ
    exact vX4_byHabit_31 n a (nI i) h ⟨hT.1.1, fun _ => hQ, fun q => absurd (by rw [e2]; exact nI_le (by omega) (by omega)) q⟩
  | succ k ih =>
    intro i hi hQ
    refine vX4_byHabit_31 n a (nI i) h ⟨hT.1.1, fun q => absurd (by rw [e2] at q; exact q) (nI_ge (a := i) (b := t.1 2) (by omega) (by omega)), fun _ => ⟨hN.1, c_hasRoom hN hT hO hob (fun w => ?_) (fun w => ?_)⟩⟩
    · refine ⟨fun q => absurd q (by decide), fun _ => ?_⟩
      have := (may_j hb2 (by omega)).mp w
      unfold firstB at hQ
      rw [if_pos this] at hQ
      exact hQ
    · refine ⟨fun _ => ?_, fun c => absurd rfl c⟩
      have : ¬ okT t oc i = true := fun q => w ((may_j hb2 (by omega)).mpr q)
      unfold firstB at hQ
      rw [if_neg this] at hQ
      rw [nI_1]
      exact ih (i + 1) (by omega) hQ
theorem c_byHabit {q : Nat} {Q : Int32 → HP → Prop} (hN : NgS h n) (hT : TownIs h a t) (hO : ∀ j, j < t.1 2 → hI h (n + 1) j = nI (oc j)) (hob : ∀ j, oc j ≤ 6) (hq : q < t.1 3) (hQ : Q (pickT t none oc q) h) : CallI g mX4_byHabit (d + 2) [.ref n, .ref a, .int (nI q)] h Q := by
  have hb2 : t.1 2 ≤ 5 := hT.2.1.2.2.1
  have hb3 : t.1 3 ≤ 6 := hT.2.1.2.2.2.1
  rw [← hab_pick hb2] at hQ
  unfold habT at hQ
  obtain ⟨k0, ⟨r5, r6, r7, r8, r9, r10, r11, r12⟩, ⟨k1, k2, k3, k4, k5, k6, k7, k8⟩, n1, n2, n3, n4, n5, n6, n7, n8⟩ := hT.1
  have e7 := hT.lod 7 (by omega) (by omega) hq
  refine vX4_byHabit_0 n a (nI q) h ⟨k0, c_hasLodger hT (fun _ _ _ => ⟨fun c => absurd c (by decide), fun _ => ⟨k0, _, r11, k7, vin (by omega) n7 (by omega), hN.1, ?_⟩⟩) (fun c => absurd rfl (c q hq))⟩
  rw [nI_clamp (by omega), e7]
  refine c_hasRoom hN hT hO hob (fun w => ?_) (fun w => ?_)
  · rw [if_pos w] at hQ
    exact ⟨fun c => absurd c (by decide), fun _ => ⟨k0, _, r11, k7, vin (by omega) n7 (by omega), by rw [e7]; exact hQ⟩⟩
  · rw [if_neg w] at hQ
    refine ⟨fun _ => ?_, fun c => absurd rfl c⟩
    exact l_byHabit (Q := fun r h' => match r with
      | some (.int x) => Q x h'
      | _ => False) hN hT hO hob (t.1 2) 0 (by omega) hQ
/-- what is wanted of a rule's worth: it leaves all but the stack -/
def WorthOK (g : GT) (d n a r q : Nat) (t : Tw) (oc : Nat → Nat) (F : Nat → Int64) (h : HP) : Prop := ∀ (h' : HP) (j : Nat) (QJ : Int64 → HP → Prop), Fr (fun x => x = n + 5) h h' → j < t.1 2 → (∀ h'', Fr (fun x => x = n + 5) h h'' → QJ (F j) h'') → CallJ g mX4_worthOf d [.ref n, .ref a, .ref r, .int (nI q), .int (nI j)] h' QJ
theorem l_byRule {b : Nat × Nat} {r q : Nat} {F : Nat → Int64} {Q : Option Value → HP → Prop} (hN : NgS h n) (hT : TownIs h a t) (hd : n + 6 ≤ a ∨ a + 9 ≤ n) (hO : ∀ j, j < t.1 2 → hI h (n + 1) j = nI (oc j)) (hob : ∀ j, oc j ≤ 6) (hw : WorthOK g (d + 1) n a r q t oc F h) (hQ : ∀ h', Fr (fun x => x = n + 5) h h' → Q (some (.int (bestB (okT t oc) F (t.1 2)).1)) h') : ∀ k i h', i + k = t.1 2 → Fr (fun x => x = n + 5) h h' → Sat g mX4_byRule (d + 2) b Q 9 [.ref n, .ref a, .ref r, .int (nI q), .int (bestB (okT t oc) F i).1, .long (bestB (okT t oc) F i).2, .double 0, .int (nI i), .double 0, .double 0] [] h' := by
  have hb2 : t.1 2 ≤ 5 := hT.2.1.2.2.1
  intro k
  induction k with
  | zero =>
    intro i h' hi p
    have hT' := hT.fr p (fun x h1 h2 => by omega)
    have e2 := hT'.2.2.1 2 (by omega)
    have : i = t.1 2 := by omega
    subst this
    exact vX4_byRule_9 n a r _ _ _ _ h' ⟨hT'.1.1, fun _ => hQ h' p, fun q => absurd (by rw [e2]; exact nI_le (Nat.le_refl _) (by omega)) q⟩
  | succ k ih =>
    intro i h' hi p
    have hT' := hT.fr p (fun x h1 h2 => by omega)
    have hN' := hN.to p.K p.N p.2.1
    have e2 := hT'.2.2.1 2 (by omega)
    have hO' : ∀ j, j < t.1 2 → hI h' (n + 1) j = nI (oc j) := fun j hj => by rw [(p.2.2 (n + 1) (by omega)).1]; exact hO j hj
    have key := fun h'' p' => ih (i + 1) h'' (by omega) p'
    unfold bestB at key
    refine vX4_byRule_9 n a r _ _ _ (nI i) h' ⟨hT'.1.1, fun q => absurd (by rw [e2] at q; exact q) (nI_ge (a := i) (b := t.1 2) (by omega) (by omega)), fun _ => ⟨hN'.1, c_hasRoom hN' hT' hO' hob (fun w => ?_) (fun w => ?_)⟩⟩
    · refine ⟨fun c => absurd c (by decide), fun _ => ⟨hN'.1, hw h' i _ p (by omega) (fun h'' p' => ?_)⟩⟩
      have hok := (may_j hb2 (by omega)).mp w
      have key := key h'' p'
      refine ⟨fun c => ?_, fun c => ?_⟩
      · rw [if_neg (fun z => (lgc_le _ _).mp c z.2)] at key
        rw [nI_1]
        exact key
      · have c2 : (bestB (okT t oc) F i).2 < F i := Classical.byContradiction (fun z => c ((lgc_le _ _).mpr z))
        rw [if_pos ⟨hok, c2⟩] at key
        rw [nI_1]
        exact key
    · refine ⟨fun _ => ?_, fun c => absurd rfl c⟩
      have hok : ¬ okT t oc i = true := fun q => w ((may_j hb2 (by omega)).mpr q)
      have key := key h' p
      rw [if_neg (fun z => hok z.1)] at key
      rw [nI_1]
      exact key
theorem c_byRule {r q : Nat} {w : Rl} {Q : Int32 → HP → Prop} (hN : NgS h n) (hT : TownIs h a t) (hd : n + 6 ≤ a ∨ a + 9 ≤ n) (hO : ∀ j, j < t.1 2 → hI h (n + 1) j = nI (oc j)) (hob : ∀ j, oc j ≤ 6) (hw : WorthOK g (d + 1) n a r q t oc (worthT t (some w) oc q) h) (hQ : ∀ h', Fr (fun x => x = n + 5) h h' → Q (pickT t (some w) oc q) h') : CallI g mX4_byRule (d + 2) [.ref n, .ref a, .ref r, .int (nI q)] h Q :=
  vX4_byRule_0 n a r (nI q) h (l_byRule (Q := fun r h' => match r with
      | some (.int x) => Q x h'
      | _ => False) hN hT hd hO hob hw hQ (t.1 2) 0 h (by omega) (Fr.rf h))
end NIGHTS
