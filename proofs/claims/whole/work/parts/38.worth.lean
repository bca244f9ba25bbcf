/-! the class's worthOf; the rule in force; a NIGHT of the class -/
section WO
variable {g : GT} {d : Nat} {h : HP}
theorem c_run {QJ : Int64 → HP → Prop} {a q b y i e : Nat} {t : Tw} {oc : Nat → Nat} {P : Pg} {go : Bool} (L : Lay h) (hT : TownIs h a t) (hda : ∀ x, a ≤ x → x < a + 9 → ¬ x = 45) (hy : y + 5 ≤ 45 ∨ 46 ≤ y) (hq : q < t.1 3) (hb : b < t.1 2) (hO : hI h 41 b = nI (oc b)) (hU : RuS h y) (hie : i ≤ e) (he : e ≤ 299) (ok : OkS P.2.2.2.1 P.2.2.2.2 i (e - i) [] [go]) (hS : ∀ i, i < e → hI h (y + 1) i = nI (P.2.2.2.1 i) ∧ hI h (y + 2) i = nI (P.2.2.2.2 i)) (hQ : ∀ h'', Fr (fun x => x = 45) h h'' → QJ (valP P.2.2.2.1 P.2.2.2.2 (envT t oc q b) i (e - i)) h'') : CallJ g mX4_run (d + 1) [.ref 40, .ref a, .ref y, .int (nI i), .int (nI e), .int (nI q), .int (nI b)] h QJ := by
  refine wX4_run_0 _ _ _ _ _ _ L (c_max ⟨L, ?_⟩)
  have e0 : (if (0 : Int32) < nI i then nI i else 0) = nI i := by
    by_cases c : i = 0
    · subst c; rfl
    · exact if_pos (show (0 : Int32) < nI i from nI_lt (a := 0) (b := i) (by omega) (by omega))
  rw [e0]
  exact l_run he L hT hda hy hq hb hO hU hS (e - i) i [] [go] [] h (by omega) ok (show BoS [] [] from trivial) rfl (Fr.rf h) (show StkIs h 45 [] from trivial) hQ
theorem c_worthOf {QJ : Int64 → HP → Prop} {a q b y : Nat} {t : Tw} {oc : Nat → Nat} {P : Pg} (L : Lay h) (hT : TownIs h a t) (hda : ∀ x, a ≤ x → x < a + 9 → ¬ x = 45) (hy : y + 5 ≤ 45 ∨ 46 ≤ y) (hq : q < t.1 3) (hb : b < t.1 2) (hO : hI h 41 b = nI (oc b)) (hU : RuS h y) (hP : CRule h y P) (hQ : ∀ h'', Fr (fun x => x = 45) h h'' → QJ (evalR P (envT t oc q b)) h'') : CallJ g mX4_worthOf (d + 2) [.ref 40, .ref a, .ref y, .int (nI q), .int (nI b)] h QJ := by
  obtain ⟨ok, p1, p2, p3⟩ := hP
  refine wX4_worthOf_0 _ _ _ _ L ?_
  have main : ∀ k c h', c + k = P.1 → Fr (fun x => x = 45) h h' → (∀ h'', Fr (fun x => x = 45) h h'' → QJ (evalC P (envT t oc q b) k c) h'') → Sat g mX4_worthOf (d + 2) (0, 0) (fun r h' => match r with
      | some (.long x) => QJ x h'
      | _ => False) 3 [.ref 40, .ref a, .ref y, .int (nI q), .int (nI b), .int (nI c), .double 0, .double 0] [] h' := by
    intro k
    induction k with
    | zero =>
      intro c h' hc f hQ
      have hn := ok.1
      have u0 := (hU.to f.K f.N f.2.1).1
      refine wX4_worthOf_3 _ _ _ _ _ (L.fr f) ⟨u0, ?_⟩
      rw [(f.2.2 y (by omega)).1, p1]
      exact ⟨fun _ => hQ h' f, fun w => absurd (nI_le (by omega) (by omega)) w⟩
    | succ k ih =>
      intro c h' hc f hQ
      have hn := ok.1
      obtain ⟨o1, o2, o3, o4, o5⟩ := ok.2 c (by omega)
      obtain ⟨s1, s2, s3⟩ := p2 c (by omega)
      have hlast : P.2.1 (c + 1) ≤ P.2.1 P.1 := by
        have := ok.mono (c := c + 1) (P.1 - (c + 1)) (by omega)
        rw [show c + 1 + (P.1 - (c + 1)) = P.1 by omega] at this
        exact this
      have L' := L.fr f
      have hS : ∀ (h2 : HP), Fr (fun x => x = 45) h h2 → ∀ e, e ≤ P.2.1 (c + 1) → ∀ i, i < e → hI h2 (y + 1) i = nI (P.2.2.2.1 i) ∧ hI h2 (y + 2) i = nI (P.2.2.2.2 i) := fun h2 f2 e he i hi => by
        rw [(f2.2.2 (y + 1) (by omega)).1, (f2.2.2 (y + 2) (by omega)).1]; exact p3 i (by omega)
      have hO' : ∀ (h2 : HP), Fr (fun x => x = 45) h h2 → hI h2 41 b = nI (oc b) := fun h2 f2 => by rw [(f2.2.2 41 (by omega)).1]; exact hO
      have ev : evalC P (envT t oc q b) (k + 1) c = if P.2.2.1 c = P.2.1 (c + 1) ∨ ¬ valP P.2.2.2.1 P.2.2.2.2 (envT t oc q b) (P.2.2.1 c) (P.2.1 (c + 1) - P.2.2.1 c) = 0 then valP P.2.2.2.1 P.2.2.2.2 (envT t oc q b) (P.2.1 c) (P.2.2.1 c - P.2.1 c) else evalC P (envT t oc q b) k (c + 1) := rfl
      rw [ev] at hQ
      obtain ⟨u0, ⟨u1, u2, u3, u4⟩, ⟨v1, v2, v3, v4⟩, n1, n2, n3, n4⟩ := hU.to f.K f.N f.2.1
      have key := wX4_worthOf_3 (g := g) (d := d + 1) (b := (0, 0)) (Q := fun r h' => match r with
        | some (.long x) => QJ x h'
        | _ => False) a y (nI q) (nI b) (nI c) L'
      rw [nI_1, nI_clamp (n := c) (by omega), nI_clamp (n := c + 1) (by omega), (f.2.2 y (by omega)).1, p1] at key
      have e3 : hI h' (y + 3) c = nI (P.2.1 c) := by rw [(f.2.2 (y + 3) (by omega)).1]; exact s1
      have e4 : hI h' (y + 4) c = nI (P.2.2.1 c) := by rw [(f.2.2 (y + 4) (by omega)).1]; exact s2
      have e5 : hI h' (y + 3) (c + 1) = nI (P.2.1 (c + 1)) := by rw [(f.2.2 (y + 3) (by omega)).1]; exact s3
      refine key ⟨u0, fun w => absurd w (nI_ge (by omega) (by omega)), fun _ => ⟨fun w => absurd w (nI_ge (a := c) (b := 12) (by omega) (by omega)), fun _ => ⟨_, u4, v4, vin (by omega) n4 (by omega), _, u3, v3, vin (by omega) n3 (by omega), ?_⟩⟩⟩
      rw [e4, e5]
      refine ⟨fun w => ?_, fun w => ?_⟩
      · have w := (nI_eq (by omega) (by omega)).mp w
        rw [if_pos (Or.inl w)] at hQ
        refine ⟨_, u3, v3, vin (by omega) n3 (by omega), ?_⟩
        rw [e3]
        exact c_run (P := P) (go := false) L' (hT.fr f hda) hda hy hq hb (hO' h' f) (hU.to f.K f.N f.2.1) o1 (by omega) o4 (hS h' f _ (by omega)) (fun h2 f2 => ⟨L'.fr f2, hQ h2 (f.tr f2)⟩)
      · have w : ¬ P.2.2.1 c = P.2.1 (c + 1) := fun z => w (by rw [z])
        have o6 := o5 (by omega)
        refine c_run (P := P) (go := true) L' (hT.fr f hda) hda hy hq hb (hO' h' f) (hU.to f.K f.N f.2.1) o2 o3 o6 (hS h' f _ (Nat.le_refl _)) (fun h2 f2 => ⟨L'.fr f2, fun z => ?_, fun z => ?_⟩)
        · rw [lg_cmp_eq] at z
          rw [if_neg (by rintro (q | q); exact w q; exact q z)] at hQ
          exact ih (c + 1) h2 (by omega) (f.tr f2) hQ
        · rw [lg_cmp_eq] at z
          have f12 := f.tr f2
          rw [if_pos (Or.inr z)] at hQ
          obtain ⟨u0, ⟨u1, u2, u3, u4⟩, ⟨v1, v2, v3, v4⟩, n1, n2, n3, n4⟩ := hU.to f12.K f12.N f12.2.1
          refine ⟨u0, _, u3, v3, vin (by omega) n3 (by omega), ?_⟩
          have e3 : hI h2 (y + 3) c = nI (P.2.1 c) := by rw [(f12.2.2 (y + 3) (by omega)).1]; exact s1
          rw [e3]
          exact c_run (P := P) (go := false) (L'.fr f2) (hT.fr f12 hda) hda hy hq hb (hO' h2 f12) (hU.to f12.K f12.N f12.2.1) o1 (by omega) o4 (hS h2 f12 _ (by omega)) (fun h3 f3 => ⟨(L'.fr f2).fr f3, hQ h3 (f12.tr f3)⟩)
  exact main P.1 0 h (by omega) (Fr.rf h) hQ
/-- the class's rule in force -/
def CRho (h : HP) (r2 : Option Nat) (ρ : Option Rl) : Prop := (r2 = none ∧ ρ = none) ∨ ∃ r P, r < 6 ∧ r2 = some (126 + 5 * r) ∧ CRule h (126 + 5 * r) P ∧ ρ = some (evalR P)
theorem CRho.to {h' : HP} {r2 : Option Nat} {ρ : Option Rl} (H : CRho h r2 ρ) (e : ∀ x k, 126 ≤ x ∧ x < 156 → hI h' x k = hI h x k) : CRho h' r2 ρ := by
  rcases H with ⟨h1, h2⟩ | ⟨r, P, h0, h1, h2, h3⟩
  · exact Or.inl ⟨h1, h2⟩
  · exact Or.inr ⟨r, P, h0, h1, h2.to (fun x k hx => e x k (by omega)), h3⟩
theorem CRho.rl {a : Nat} {t : Tw} {r2 : Option Nat} {ρ : Option Rl} (H : CRho h r2 ρ) (L : Lay h) (hU : ∀ r, r < 6 → RuS h (126 + 5 * r)) (hT : TownIs h a t) (hda : 46 ≤ a ∨ a + 9 ≤ 40) : RlIs g (d + 2) 40 a t h r2 ρ := by
  rcases H with ⟨rfl, rfl⟩ | ⟨r, P, h0, rfl, h2, rfl⟩
  · trivial
  · intro h' q oc f hq hO hob h2' j QJ f2 hj hQ
    have f12 : Fr (fun x => 40 ≤ x ∧ x < 40 + 6) h h2' := f.tr (f2.wd (fun x hx => by omega))
    refine c_worthOf (L.fr f12) (hT.fr f12 (fun x h1 h2 => by omega)) (fun x h1 h2 => by omega) (by omega) hq hj ?_ ((hU r h0).to f12.K f12.N f12.2.1) (h2.to (fun x k hx => by rw [(f12.2.2 x (by omega)).1])) (fun h3 f3 => hQ h3 (f2.tr f3))
    rw [(f2.2.2 41 (by omega)).1]
    exact hO j hj
end WO
