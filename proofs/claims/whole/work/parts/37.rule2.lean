/-! RULES, on: the reference's wanted; the class's run and worthOf -/
section RV
variable {g : GT} {d : Nat} {h : HP}
theorem m_answer {QJ : Int64 → HP → Prop} {r i e : Nat} {P : Pg} {env : Nat → Int64} {go : Bool} (L : Lay h) (hr : r < 6) (hie : i ≤ e) (he : e ≤ 299) (ok : OkS P.2.2.2.1 P.2.2.2.2 i (e - i) [] [go]) (hS : ∀ i, i < e → hI h 277 (300 * r + i) = nI (sg (P.2.2.2.1 i)) ∧ hI h 278 (300 * r + i) = nI (P.2.2.2.2 i)) (hA : ∀ k, k < 12 → hJ h 284 k = env k) (hQ : ∀ h'', FrC (fun x _ => x = 285) h h'' → QJ (valP P.2.2.2.1 P.2.2.2.2 env i (e - i)) h'') : CallJ g mX10_answer (d + 2) [.ref 252, .int (nI r), .int (nI i), .int (nI e)] h QJ :=
  wX10_answer_0 _ _ _ L (l_answer hr he L hS hA (e - i) i [] [go] [] h (by omega) ok (show BoS [] [] from trivial) rfl (FrC.rf h) (show StkIs h 285 [] from trivial) hQ)
theorem m_wanted {QJ : Int64 → HP → Prop} {r : Nat} {P : Pg} {env : Nat → Int64} (L : Lay h) (hP : MRule h r P) (h7 : hI h 253 7 = nI r) (hA : ∀ k, k < 12 → hJ h 284 k = env k) (hQ : ∀ h'', FrC (fun x _ => x = 285) h h'' → QJ (evalR P env) h'') : CallJ g mX10_wanted (d + 3) [.ref 252] h QJ := by
  obtain ⟨hr, ok, p1, p2, p3⟩ := hP
  refine wX10_wanted_0 L ?_
  rw [h7]
  have e12 : 12 * nI r = nI (12 * r) := by rw [show (12 : Int32) = nI 12 from rfl, pk_mul]
  rw [e12]
  have main : ∀ k c h', c + k = P.1 → FrC (fun x _ => x = 285) h h' → (∀ h'', FrC (fun x _ => x = 285) h h'' → QJ (evalC P env k c) h'') → Sat g mX10_wanted (d + 3) (0, 0) (fun r h' => match r with
      | some (.long x) => QJ x h'
      | _ => False) 13 [.ref 252, .int (nI r), .int (nI (12 * r + c))] [] h' := by
    intro k
    induction k with
    | zero =>
      intro c h' hc f hQ
      refine wX10_wanted_13 _ _ (f.lay L) ⟨vn (by omega) (by omega), ?_⟩
      have hn := ok.1
      rw [e12, nI_clamp (n := r) (by omega), f.I (by omega), p1, nI_add]
      exact ⟨fun _ => hQ h' f, fun w => absurd (nI_le (by omega) (by omega)) w⟩
    | succ k ih =>
      intro c h' hc f hQ
      have hn := ok.1
      obtain ⟨o1, o2, o3, o4, o5⟩ := ok.2 c (by omega)
      obtain ⟨s1, s2, s3⟩ := p2 c (by omega)
      have hlast : P.2.1 (c + 1) ≤ P.2.1 P.1 := by
        have := ok.mono (c := c + 1) (P.1 - (c + 1)) (by omega)
        rw [show c + 1 + (P.1 - (c + 1)) = P.1 by omega] at this
        exact this
      have L' := f.lay L
      have hS : ∀ (h2 : HP), FrC (fun x _ => x = 285) h h2 → ∀ e, e ≤ P.2.1 (c + 1) → ∀ i, i < e → hI h2 277 (300 * r + i) = nI (sg (P.2.2.2.1 i)) ∧ hI h2 278 (300 * r + i) = nI (P.2.2.2.2 i) := fun h2 f2 e he i hi => by
        rw [f2.I (by omega), f2.I (by omega)]; exact p3 i (by omega)
      have hA' : ∀ (h2 : HP), FrC (fun x _ => x = 285) h h2 → ∀ k, k < 12 → hJ h2 284 k = env k := fun h2 f2 k hk => by rw [f2.J (by omega)]; exact hA k hk
      have ev : evalC P env (k + 1) c = if P.2.2.1 c = P.2.1 (c + 1) ∨ ¬ valP P.2.2.2.1 P.2.2.2.2 env (P.2.2.1 c) (P.2.1 (c + 1) - P.2.2.1 c) = 0 then valP P.2.2.2.1 P.2.2.2.2 env (P.2.1 c) (P.2.2.1 c - P.2.1 c) else evalC P env k (c + 1) := rfl
      rw [ev] at hQ
      refine wX10_wanted_13 _ _ L' ⟨vn (by omega) (by omega), ?_⟩
      rw [e12, nI_clamp (n := r) (by omega), nI_clamp (n := 12 * r + c) (by omega), f.I (by omega), f.I (by omega), f.I (by omega), f.I (by omega), p1, s1, s2, s3, nI_add]
      refine ⟨fun w => absurd w (nI_ge (by omega) (by omega)), fun _ => ⟨vn (by omega) (by omega), fun w => ?_, fun w => ?_⟩⟩
      · have w := (nI_eq (by omega) (by omega)).mp w
        rw [if_pos (Or.inl w)] at hQ
        exact m_answer (P := P) L' hr o1 (by omega) o4 (hS h' f _ (by omega)) (hA' h' f) (fun h2 f2 => ⟨f2.lay L', hQ h2 (f.tr f2)⟩)
      · have w : ¬ P.2.2.1 c = P.2.1 (c + 1) := fun z => w (by rw [z])
        have o6 := o5 (by omega)
        refine m_answer (P := P) L' hr o2 o3 o6 (hS h' f _ (Nat.le_refl _)) (hA' h' f) (fun h2 f2 => ⟨f2.lay L', fun z => ?_, fun z => ?_⟩)
        · rw [lg_cmp_eq] at z
          have f12 := f.tr f2
          rw [if_pos (Or.inr (by rw [z]; decide))] at hQ
          rw [f12.I (by omega), f12.I (by omega), s1, s2]
          exact m_answer (P := P) (f2.lay L') hr o1 (by omega) o4 (hS h2 f12 _ (by omega)) (hA' h2 f12) (fun h3 f3 => ⟨f3.lay (f2.lay L'), hQ h3 (f12.tr f3)⟩)
        · rw [lg_cmp_eq] at z
          have z0 := (val_bool (env := env) o6).resolve_right z
          rw [if_neg (by rintro (q | q); exact w q; exact q z0)] at hQ
          rw [nI_1]
          exact ih (c + 1) h2 (by omega) (f.tr f2) hQ
  exact main P.1 0 h (by omega) (FrC.rf h) hQ
/-- the reference's rule in force -/
def MRho (h : HP) (ρ : Option Rl) : Prop := (hI h 253 7 = -1 ∧ ρ = none) ∨ ∃ r P, hI h 253 7 = nI r ∧ MRule h r P ∧ ρ = some (evalR P)
theorem MRho.rl {ρ : Option Rl} (H : MRho h ρ) : MRl g (d + 3) h ρ := by
  rcases H with ⟨h1, rfl⟩ | ⟨r, P, h1, h2, rfl⟩
  · exact h1
  · refine ⟨by rw [h1]; exact neg1_ne (by have := h2.1; omega), fun h' env QJ e L' hA hQ => ?_⟩
    exact m_wanted L' (h2.to (fun x k hx => e x k (Or.inl hx))) (by rw [e 253 7 (by omega)]; exact h1) hA hQ
theorem MRho.to {h' : HP} {ρ : Option Rl} (H : MRho h ρ) (e : ∀ x k, (277 ≤ x ∧ x ≤ 282) ∨ (x = 253 ∧ k = 7) → hI h' x k = hI h x k) : MRho h' ρ := by
  rcases H with ⟨h1, h2⟩ | ⟨r, P, h1, h2, h3⟩
  · exact Or.inl ⟨by rw [e _ _ (by omega)]; exact h1, h2⟩
  · exact Or.inr ⟨r, P, by rw [e _ _ (by omega)]; exact h1, h2.to (fun x k hx => e x k (Or.inl hx)), h3⟩
/-- a Rule of the class at y -/
def CRule (h : HP) (y : Nat) (P : Pg) : Prop := PgOK P ∧ hI h y 5 = nI P.1 ∧ (∀ c, c < P.1 → hI h (y + 3) c = nI (P.2.1 c) ∧ hI h (y + 4) c = nI (P.2.2.1 c) ∧ hI h (y + 3) (c + 1) = nI (P.2.1 (c + 1))) ∧ ∀ i, i < P.2.1 P.1 → hI h (y + 1) i = nI (P.2.2.2.1 i) ∧ hI h (y + 2) i = nI (P.2.2.2.2 i)
def RuS (h : HP) (y : Nat) : Prop := hK h y = 8 ∧ (hR h y 0 = some (y + 1) ∧ hR h y 1 = some (y + 2) ∧ hR h y 3 = some (y + 3) ∧ hR h y 4 = some (y + 4)) ∧ (hK h (y + 1) = 21 ∧ hK h (y + 2) = 21 ∧ hK h (y + 3) = 21 ∧ hK h (y + 4) = 21) ∧ hN h (y + 1) = 400 ∧ hN h (y + 2) = 400 ∧ hN h (y + 3) = 13 ∧ hN h (y + 4) = 12
theorem RuS.to {h h' : HP} {y : Nat} (H : RuS h y) (hk : hK h' = hK h) (hn : hN h' = hN h) (hr : hR h' = hR h) : RuS h' y := by
  unfold RuS at H ⊢
  rw [hk, hn, hr]
  exact H
theorem CRule.to {h h' : HP} {y : Nat} {P : Pg} (H : CRule h y P) (e : ∀ x k, y ≤ x ∧ x ≤ y + 4 → hI h' x k = hI h x k) : CRule h' y P := by
  obtain ⟨h2, h3, h4, h5⟩ := H
  refine ⟨h2, by rw [e _ _ (by omega)]; exact h3, fun c hc => ?_, fun i hi => ?_⟩
  · rw [e _ _ (by omega), e _ _ (by omega), e _ _ (by omega)]; exact h4 c hc
  · rw [e _ _ (by omega), e _ _ (by omega)]; exact h5 i hi
theorem c_wordOf {QJ : Int64 → HP → Prop} {a q b v : Nat} {t : Tw} {oc : Nat → Nat} (L : Lay h) (hT : TownIs h a t) (hq : q < t.1 3) (hb : b < t.1 2) (hO : hI h 41 b = nI (oc b)) (hv : v < 12) (hQ : QJ (envT t oc q b v) h) : CallJ g mX4_wordOf d [.ref 40, .ref a, .int (nI v), .int (nI q), .int (nI b)] h QJ := by
  have hB := hT.2.1
  unfold TB at hB
  obtain ⟨k0, ⟨r5, r6, r7, r8, r9, r10, r11, r12⟩, ⟨k1, k2, k3, k4, k5, k6, k7, k8⟩, n1, n2, n3, n4, n5, n6, n7, n8⟩ := hT.1
  have vq : ∀ {x : Nat}, hN h x = 6 → vp_in (nI q) (hN h x) := fun e => vin (by omega) e (by omega)
  have vb : ∀ {x : Nat}, hN h x = 5 → vp_in (nI b) (hN h x) := fun e => vin (by omega) e (by omega)
  refine wX4_wordOf_0 a _ _ _ L ⟨fun c => absurd c (nI_pos (by omega)), fun _ => ⟨fun c => absurd c (nI_ge (a := q) (b := 6) (by omega) (by omega)), fun _ => ⟨fun c => absurd c (nI_pos (by omega)), fun _ => ⟨fun _ => ⟨k0, _, r8, k4, vq n4, _, r5, k1, vb n1, ?_⟩, fun c => absurd (nI_lt (a := b) (b := 5) (by omega) (by omega)) c⟩⟩⟩⟩
  rw [nI_clamp (n := q) (by omega), nI_clamp (n := b) (by omega), hO, hT.2.2.1 1 (by omega), hT.2.2.1 4 (by omega), hT.lod 4 (by omega) (by omega) hq, hT.bed 1 (by omega) (by omega) hb]
  rcases (show v = 0 ∨ v = 1 ∨ v = 2 ∨ v = 3 ∨ v = 4 ∨ v = 5 ∨ v = 6 ∨ v = 7 ∨ v = 8 ∨ v = 9 ∨ v = 10 ∨ v = 11 by omega) with rfl | rfl | rfl | rfl | rfl | rfl | rfl | rfl | rfl | rfl | rfl | rfl <;> simp only [envT] at hQ <;> (repeat refine ⟨fun c => absurd c (by decide), fun _ => ?_⟩) <;> refine ⟨fun _ => ?_, fun c => absurd rfl c⟩
  · exact hQ
  · exact hQ
  · exact ⟨_, r8, k4, vq n4, by rw [hT.lod 4 (by omega) (by omega) hq]; exact hQ⟩
  · exact ⟨_, r9, k5, vq n5, by rw [hT.lod 5 (by omega) (by omega) hq]; exact hQ⟩
  · exact ⟨_, r10, k6, vq n6, by rw [hT.lod 6 (by omega) (by omega) hq]; exact hQ⟩
  · exact ⟨_, r5, k1, vb n1, by rw [hT.bed 1 (by omega) (by omega) hb]; exact hQ⟩
  · exact ⟨_, r6, k2, vb n2, by rw [hT.bed 2 (by omega) (by omega) hb]; exact hQ⟩
  · exact ⟨_, r7, k3, vb n3, by rw [hT.bed 3 (by omega) (by omega) hb]; exact hQ⟩
  · exact ⟨vn (by omega) (by omega), hQ⟩
  · refine ⟨_, r11, k7, vq n7, ?_⟩
    rw [hT.lod 7 (by omega) (by omega) hq]
    refine ⟨fun c => ?_, fun c => ?_⟩
    · rw [if_pos c] at hQ; exact hQ
    · rw [if_neg c] at hQ; exact hQ
  · unfold distI at hQ
    refine ⟨fun c => ?_, fun c => ?_⟩
    · rw [if_pos c] at hQ; exact hQ
    · rw [if_neg c] at hQ; exact hQ
  · exact hQ
theorem l_run {b0 : Nat × Nat} {Q : Option Value → HP → Prop} {a q b y : Nat} {t : Tw} {oc : Nat → Nat} {kd vl : Nat → Nat} {e : Nat} (he : e ≤ 299) (L : Lay h) (hT : TownIs h a t) (hda : ∀ x, a ≤ x → x < a + 9 → ¬ x = 45) (hy : y + 5 ≤ 45 ∨ 46 ≤ y) (hq : q < t.1 3) (hb : b < t.1 2) (hO : hI h 41 b = nI (oc b)) (hU : RuS h y) (hS : ∀ i, i < e → hI h (y + 1) i = nI (kd i) ∧ hI h (y + 2) i = nI (vl i)) : ∀ n i (ts te : List Bool) (s : List Int64) (h' : HP), i + n = e → OkS kd vl i n ts te → BoS ts s → te.length = 1 → Fr (fun x => x = 45) h h' → StkIs h' 45 s → (∀ h'', Fr (fun x => x = 45) h h'' → Q (some (.long ((runP kd vl (envT t oc q b) i n s).headD 0))) h'') → Sat g mX4_run (d + 1) b0 Q 10 [.ref 40, .ref a, .ref y, .double 0, .int (nI e), .int (nI q), .int (nI b), .int (nI s.length), .int (nI i), .double 0, .double 0] [] h'
  | 0, i, ts, te, s, h', hi, ok, bo, h1, f, st, hQ => by
    have e1 : ts = te := ok
    subst e1
    have hl := bo.len
    rw [h1] at hl
    refine wX4_run_10 _ _ _ _ _ _ _ (L.fr f) ⟨fun _ => ?_, fun c => absurd (nI_le (by omega) (by omega)) c⟩
    have := hQ h' f
    rcases s with _ | ⟨v, _ | ⟨w, s⟩⟩
    · simp at hl
    · rw [show hJ h' 45 0 = v from st.1]
      exact this
    · simp at hl
  | n + 1, i, ts, te, s, h', hi, ok, bo, h1, f, st, hQ => by
    obtain ⟨q1, q2, q3, ts', q4, q5⟩ := ok
    have bo' := bo.st (vl := vl) (env := envT t oc q b) q4
    have hl := bo.len
    have hls : s.length ≤ 31 := by rw [hl]; exact q1
    have L' := L.fr f
    obtain ⟨s1, s2⟩ := hS i (by omega)
    obtain ⟨u0, ⟨u1, u2, u3, u4⟩, ⟨v1, v2, v3, v4⟩, n1, n2, n3, n4⟩ := hU.to f.K f.N f.2.1
    have ni : ∀ {x : Nat}, hN h' x = 400 → vp_in (nI i) (hN h' x) := fun e => vin (by omega) e (by omega)
    have s1' : hI h' (y + 1) i = nI (kd i) := by rw [(f.2.2 (y + 1) (by omega)).1]; exact s1
    have s2' : hI h' (y + 2) i = nI (vl i) := by rw [(f.2.2 (y + 2) (by omega)).1]; exact s2
    have next : ∀ h2, Fr (fun x => x = 45) h' h2 → StkIs h2 45 (stP kd vl (envT t oc q b) i s) → Sat g mX4_run (d + 1) b0 Q 10 [.ref 40, .ref a, .ref y, .double 0, .int (nI e), .int (nI q), .int (nI b), .int (nI (stP kd vl (envT t oc q b) i s).length), .int (nI (i + 1)), .double 0, .double 0] [] h2 := fun h2 f2 st2 => l_run he L hT hda hy hq hb hO hU hS n (i + 1) ts' te _ h2 (by omega) q5 bo' h1 (f.tr f2) st2 hQ
    unfold stP at next
    have key := wX4_run_10 (g := g) (d := d) (b := b0) (Q := Q) a y (nI e) (nI q) (nI b) (nI s.length) (nI i) L'
    rw [nI_clamp (n := i) (by omega), nI_1, nI_1] at key
    refine key ⟨fun c => absurd c (nI_ge (by omega) (by omega)), fun _ => ⟨fun c => absurd c (nI_ge (a := i) (b := 400) (by omega) (by omega)), fun _ => ⟨u0, _, u1, v1, ni n1, ?_⟩⟩⟩
    rw [s1', nI_clamp (n := s.length) (by omega)]
    rcases q4 with ⟨z1, -⟩ | ⟨z1, r1, rfl, -⟩ | z
    · rcases (show kd i = 0 ∨ kd i = 1 by omega) with c | c
      · rw [c]
        rw [c] at next
        refine ⟨fun _ => ⟨fun _ => ⟨_, u2, v2, ni n2, ?_⟩, fun w => absurd (nI_lt (a := s.length) (b := 32) (by omega) (by omega)) w⟩, fun w => absurd rfl w⟩
        rw [s2']
        exact ⟨fun _ => ⟨vn (by omega) (by omega), next _ (Fr.stJ rfl) st.push⟩, fun w => absurd rfl w⟩
      · rw [c]
        rw [c] at next
        have hv := q3 c
        refine ⟨fun w => absurd w (by decide), fun _ => ⟨fun _ => ⟨fun _ => ⟨_, u2, v2, ni n2, ?_⟩, fun w => absurd (nI_lt (a := s.length) (b := 32) (by omega) (by omega)) w⟩, fun w => absurd rfl w⟩⟩
        rw [s2']
        refine ⟨fun w => absurd w (by decide), fun _ => c_wordOf L' (hT.fr f hda) hq hb (by rw [(f.2.2 41 (by omega)).1]; exact hO) hv ⟨L', vn (by omega) (by omega), next _ (Fr.stJ rfl) st.push⟩⟩
    · rw [z1]
      rw [z1] at next
      rcases s with _ | ⟨v, s⟩
      · exact absurd bo id
      · simp only [List.length_cons] at hls next ⊢
        rw [nI_pred s.length, nI_clamp (n := s.length) (by omega), st.1]
        refine ⟨fun w => absurd w (by decide), fun _ => ⟨fun w => absurd w (by decide), fun _ => ⟨fun _ => ⟨fun w => absurd w (nI_nle (by omega) (by omega)), fun _ => ⟨vn (by omega) (by omega), next _ (Fr.stJ rfl) st.2.push⟩⟩, fun w => absurd rfl w⟩⟩⟩
    · have zz : 2 ≤ kd i ∧ kd i ≤ 13 ∧ ∃ x y r1, ts = x :: y :: r1 := by
        rcases z with ⟨z1, z2, r1, z3, -⟩ | ⟨z1, z2, r1, z3, -⟩ | ⟨z1, z2, r1, z3, -⟩ <;> exact ⟨by omega, by omega, _, _, r1, z3⟩
      obtain ⟨z1, z2, x, y2, r1, rfl⟩ := zz
      rw [if_neg (by omega), if_neg (by omega), if_neg (by omega)] at next
      rcases s with _ | ⟨v, _ | ⟨u, s⟩⟩
      · exact absurd bo id
      · exact absurd bo.2 id
      · simp only [List.length_cons] at hls next ⊢
        rw [pk_m1, nI_pred s.length, nI_clamp (n := s.length) (by omega), nI_clamp (n := s.length + 1) (by omega), st.2.1, show hJ h' 45 (s.length + 1) = v from st.1]
        refine ⟨fun w => absurd w (nI_ne0 (by omega) (by omega)), fun _ => ⟨fun w => ?_, fun _ => ⟨fun w => ?_, fun _ => ⟨fun w => absurd w (nI_ge (a := 1) (b := s.length + 1 + 1) (by omega) (by omega)), fun _ => ⟨vn (by omega) (by omega), vn (by omega) (by omega), c_join L' z1 z2 ⟨L', next _ (Fr.stJ rfl) st.2.2.push⟩⟩⟩⟩⟩⟩
        · have := (nI_eq (a := kd i) (b := 1) (by omega) (by omega)).mp w
          omega
        · have := (nI_eq (a := kd i) (b := 14) (by omega) (by omega)).mp w
          omega
end RV
