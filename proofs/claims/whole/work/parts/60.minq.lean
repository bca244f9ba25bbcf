/-! by which rules the notes can have come about, where to look next; of the reference -/
def MNt (h : HP) (N : Nts) : Prop := hI h 253 5 = nI N.1 ∧ ∀ k, k < N.1 → hI h 262 k = nI (N.2.1 k) ∧ hI h 263 k = nI (N.2.2.1 k) ∧ hI h 264 k = N.2.2.2 k
theorem MNt.to {h h' : HP} {N : Nts} (H : MNt h N) (e5 : hI h' 253 5 = hI h 253 5) (e : ∀ x k, 262 ≤ x ∧ x ≤ 264 → hI h' x k = hI h x k) : MNt h' N :=
  ⟨e5.trans H.1, fun k hk => by rw [e 262 k (by omega), e 263 k (by omega), e 264 k (by omega)]; exact H.2 k hk⟩
def MRs (h : HP) (P : Nat → Pg) (cnt : Nat) : Prop := cnt ≤ 6 ∧ hI h 252 28 = nI cnt ∧ ∀ r, r < cnt → MRule h r (P r)
theorem MRs.to {h h' : HP} {P : Nat → Pg} {cnt : Nat} (H : MRs h P cnt) (e28 : hI h' 252 28 = hI h 252 28) (e : ∀ x k, 277 ≤ x ∧ x ≤ 282 → hI h' x k = hI h x k) : MRs h' P cnt := ⟨H.1, e28.trans H.2.1, fun r hr => (H.2.2 r hr).to e⟩
theorem MRs.rho {h : HP} {P : Nat → Pg} {cnt c : Nat} (H : MRs h P cnt) (hc : c ≤ cnt) (e : hI h 253 7 = pl c) : MRho h (rhoC P c) := by
  unfold rhoC
  rcases pl_cases c with ⟨y, z⟩ | ⟨v, z, y⟩
  · rw [if_pos z]; exact Or.inl ⟨e.trans y, rfl⟩
  · rw [if_neg (by omega)]; exact Or.inr ⟨v, P v, e.trans y, H.2.2 v (by omega), by rw [show c - 1 = v by omega]⟩
def MTo (h : HP) (t0 : Tw) : Prop := (∀ j, j < t0.1 2 → hI h 265 j = t0.2 1 j ∧ hI h 266 j = t0.2 2 j ∧ hI h 267 j = t0.2 3 j) ∧ ∀ i, i < t0.1 3 → hI h 268 i = t0.2 4 i
theorem MTo.to {h h' : HP} {t0 : Tw} (H : MTo h t0) (e : ∀ x k, 265 ≤ x ∧ x ≤ 268 → hI h' x k = hI h x k) : MTo h' t0 :=
  ⟨fun j hj => by rw [e 265 j (by omega), e 266 j (by omega), e 267 j (by omega)]; exact H.1 j hj, fun i hi => by rw [e 268 i (by omega)]; exact H.2 i hi⟩
def BG (t0 t : Tw) : Prop := TB t0 ∧ TR t0 ∧ (∀ k, k < 4 → t0.1 k = t.1 k) ∧ t0.1 4 = 0 ∧ ∀ i, i < t.1 3 → t0.2 5 i = t.2 5 i ∧ t0.2 6 i = t.2 6 i ∧ t0.2 7 i = -1 ∧ t0.2 8 i = 0
def AB (x k : Nat) : Prop := (x = 253 ∧ k = 4) ∨ ((254 ≤ x ∧ x ≤ 256) ∧ k < 5) ∨ ((x = 257 ∨ x = 260 ∨ x = 261) ∧ k < 6)
section MIQ
variable {g : GT} {d : Nat} {h h0 : HP} {t t0 : Tw} {ρ : Option Rl} {N : Nts} {P : Nat → Pg} {cnt : Nat}
/-- by hand: the scalars stand, the rows of the text and of bodies and wants stand -/
theorem m_begins {Q : HP → Prop} (L : Lay h) (hB : TB t0) (h4 : t0.1 4 = 0) (hs : ∀ k, k < 4 → hI h 253 k = nI (t0.1 k)) (hTo : MTo h t0) (hbw : ∀ i, i < t0.1 3 → hI h 258 i = t0.2 5 i ∧ hI h 259 i = t0.2 6 i ∧ t0.2 7 i = -1 ∧ t0.2 8 i = 0) (hQ : ∀ h', FrC AB h h' → TD h' 253 t0 → Q h') : CallV g mX10_begins (d + 1) (0, 0) [.ref 252] h Q := by
  have hB' := hB
  unfold TB at hB
  refine wX10_begins_0 L (m_copies (n := 5) L (Lk L K_265) (Ln L N_265) (Lk L K_254) (Ln L N_254) (by decide) (by decide) (fun h1 f1 e1 => ?_))
  have L1 := f1.lay L
  refine ⟨L1, m_copies (n := 5) L1 (Lk L1 K_266) (Ln L1 N_266) (Lk L1 K_255) (Ln L1 N_255) (by decide) (by decide) (fun h2 f2 e2 => ?_)⟩
  have L2 := f2.lay L1
  refine ⟨L2, m_copies (n := 5) L2 (Lk L2 K_267) (Ln L2 N_267) (Lk L2 K_256) (Ln L2 N_256) (by decide) (by decide) (fun h3 f3 e3 => ?_)⟩
  have L3 := f3.lay L2
  refine ⟨L3, m_copies (n := 6) L3 (Lk L3 K_268) (Ln L3 N_268) (Lk L3 K_257) (Ln L3 N_257) (by decide) (by decide) (fun h4' f4 e4 => ?_)⟩
  have L4 := f4.lay L3
  refine ⟨L4, ?_⟩
  have fA : FrC AB h h4' := (((f1.wd (fun x k hx => by unfold AB; omega)).tr (f2.wd (fun x k hx => by unfold AB; omega))).tr (f3.wd (fun x k hx => by unfold AB; omega))).tr (f4.wd (fun x k hx => by unfold AB; omega))
  have v1 : ∀ j, j < 5 → hI h4' 254 j = hI h 265 j := fun j hj => by rw [f4.I (by omega), f3.I (by omega), f2.I (by omega), e1 j hj]
  have v2 : ∀ j, j < 5 → hI h4' 255 j = hI h 266 j := fun j hj => by rw [f4.I (by omega), f3.I (by omega), e2 j hj, f1.I (by omega)]
  have v3 : ∀ j, j < 5 → hI h4' 256 j = hI h 267 j := fun j hj => by rw [f4.I (by omega), e3 j hj, f2.I (by omega), f1.I (by omega)]
  have v4 : ∀ j, j < 6 → hI h4' 257 j = hI h 268 j := fun j hj => by rw [e4 j hj, f3.I (by omega), f2.I (by omega), f1.I (by omega)]
  refine loopN (σ := Unit) (P := fun i _ h' => Sat g mX10_begins (d + 1) (0, 0) (qV Q) 53 [.ref 252, .int (nI i)] [] h') (I := fun i _ h' => FrC (fun x k => (x = 253 ∧ k = 4) ∨ ((x = 260 ∨ x = 261) ∧ k < 6)) h4' h' ∧ hI h' 253 4 = 0 ∧ ∀ j, j < i → hI h' 260 j = -1 ∧ hI h' 261 j = 0) 6 (fun _ h' e => ?_) (fun i _ h' hi e ih => ?_) 0 () (setI h4' 253 4 0) (by omega) ⟨FrC.stI (by omega), rdI, fun j hj => by omega⟩
  · obtain ⟨f, e5, e6⟩ := e
    refine wX10_begins_53 _ (f.lay L4) ⟨fun _ => hQ h' (fA.tr (f.wd (fun x k hx => by unfold AB; omega))) ⟨hB', fun k hk => ?_, fun r j hr => ?_⟩, fun z => absurd (by decide) z⟩
    · by_cases y : k = 4
      · subst y; rw [e5, h4]; rfl
      · rw [f.I (by omega), fA.I (by unfold AB; omega)]; exact hs k (by omega)
    · unfold rowOK at hr
      rcases (show (r = 1 ∧ j < t0.1 2) ∨ (r = 2 ∧ j < t0.1 2) ∨ (r = 3 ∧ j < t0.1 2) ∨ (r = 4 ∧ j < t0.1 3) ∨ (r = 5 ∧ j < t0.1 3) ∨ (r = 6 ∧ j < t0.1 3) ∨ (r = 7 ∧ j < t0.1 3) ∨ (r = 8 ∧ j < t0.1 3) by omega) with ⟨rfl, hj⟩ | ⟨rfl, hj⟩ | ⟨rfl, hj⟩ | ⟨rfl, hj⟩ | ⟨rfl, hj⟩ | ⟨rfl, hj⟩ | ⟨rfl, hj⟩ | ⟨rfl, hj⟩
      · rw [f.I (by omega), v1 j (by omega)]; exact (hTo.1 j hj).1
      · rw [f.I (by omega), v2 j (by omega)]; exact (hTo.1 j hj).2.1
      · rw [f.I (by omega), v3 j (by omega)]; exact (hTo.1 j hj).2.2
      · rw [f.I (by omega), v4 j (by omega)]; exact hTo.2 j hj
      · rw [f.I (by omega), fA.I (by unfold AB; omega)]; exact (hbw j hj).1
      · rw [f.I (by omega), fA.I (by unfold AB; omega)]; exact (hbw j hj).2.1
      · rw [(e6 j (by omega)).1]; exact (hbw j hj).2.2.1.symm
      · rw [(e6 j (by omega)).2]; exact (hbw j hj).2.2.2.symm
  · obtain ⟨f, e5, e6⟩ := e
    refine wX10_begins_53 _ (f.lay L4) ⟨fun z => absurd z (nI_ge (a := i) (b := 6) hi (by omega)), fun _ => ⟨vn (by omega) (by omega), ?_⟩⟩
    rw [nI_clamp (n := i) (by omega), nI_1]
    refine ih () _ ⟨f.tr ((FrC.stI (by omega)).tr (FrC.stI (by omega))), (rdn (by omega)).trans ((rdn (by omega)).trans e5), fun j hj => ?_⟩
    by_cases y : j = i
    · subst y; exact ⟨(rdn (by omega)).trans rdI, rdI⟩
    · rw [rdn (by omega), rdn (by omega), rdn (by omega), rdn (by omega)]; exact e6 j (by omega)
theorem n6 (i b : Nat) : (6 : Int32) * nI i + nI b = nI (6 * i + b) := by rw [show (6 : Int32) = nI 6 from rfl, pk_mul, nI_add]
theorem m_couldRule {c : Nat} {Q : Int32 → HP → Prop} (W : MW h0 ρ t h) (F : MF h) (O : MZ h0 ρ t) (c0 : ¬ t.1 0 = 0) (hbg : BG t0 t) (hTo : MTo h0 t0) (hMN : MNt h0 N) (hN : NtOK N t0) (hR : MRs h0 P cnt) (hc : c ≤ cnt) (hQ : ∀ h', MW h0 ρ t h' → RM h0 h' → (∀ n q, n ≤ 60 → q < t0.1 3 → hI h' 297 (6 * n + q) = (itN (rhoC P c) t0 (n + 1)).2 7 q) → (∀ k, hI h' 298 k = hI h 298 k) → Q (if agB (rhoC P c) t0 N = true then 1 else 0) h') : CallI g mX10_couldRule (d + 8) [.ref 252, .int (pl c)] h Q := by
  obtain ⟨hB0, hR0, b1, b2, b3⟩ := hbg
  have hB := hB0
  unfold TB at hB
  have hn10 := hN.1
  have f0 := W.2.1
  have T := W.2.2.2.1
  have f1 : FrC (fun x k => x = 253 ∧ k = 7) h (setI h 253 7 (pl c)) := FrC.stI ⟨rfl, rfl⟩
  have e1 : hI (setI h 253 7 (pl c)) 253 7 = pl c := rdI
  have e3 : t0.1 3 = t.1 3 := b1 3 (by omega)
  refine wX10_couldRule_0 _ W.1 ?_
  generalize setI h 253 7 (pl c) = h1 at *
  have L1 := f1.lay W.1
  have g1 : FrC AU h0 h1 := f0.tr (f1.wd (fun x k hx => by unfold AU AT; omega))
  refine m_begins L1 hB0 b2 (fun k hk => by rw [f1.I (by omega), mS T k (by omega), b1 k hk]) (hTo.to (fun x k hx => g1.I (by unfold AU AF AT; omega))) (fun i hi => ?_) (fun h2 f2 T2 => ⟨f2.lay L1, ?_⟩)
  · obtain ⟨y5, y6, y7, y8⟩ := b3 i (by omega)
    rw [f1.I (by omega), f1.I (by omega), mBo T (by omega), mWa T (by omega), y5, y6]
    exact ⟨rfl, rfl, y7, y8⟩
  have W2 : MW h0 (rhoC P c) t0 h2 := ⟨f2.lay L1, g1.tr (f2.wd (fun x k hx => by unfold AU AT; unfold AB at hx; omega)), W.2.2.1.to (fun k hk => by rw [f2.I (by unfold AB; omega), f1.I (by omega)]), T2, hR0, (hR.to (h' := h2) (by rw [f2.I (by unfold AB; omega), g1.I (by unfold AU AF AT; omega)]) (fun x k hx => by rw [f2.I (by unfold AB; omega), g1.I (by unfold AU AF AT; omega)])).rho hc (by rw [f2.I (by unfold AB; omega)]; exact e1), by rw [b1 0 (by omega)]; exact c0⟩
  have F2 : MF h2 := fun q hq => by rw [f2.I (by unfold AB; omega), f1.I (by omega)]; exact F q hq
  have e98 : ∀ k, hI h2 298 k = hI h 298 k := fun k => by rw [f2.I (by unfold AB; omega), f1.I (by omega)]
  generalize hrc : rhoC P c = ρc at *
  refine loopN (σ := Unit) (P := fun n _ h' => Sat g mX10_couldRule (d + 8) (0, 0) (qI Q) 14 [.ref 252, .double 0, .int (nI n), .double 0] [] h') (I := fun n _ h' => MW h0 ρc (itN ρc t0 n) h' ∧ MF h' ∧ (∀ k q, k < n → q < t0.1 3 → hI h' 297 (6 * k + q) = (itN ρc t0 (k + 1)).2 7 q) ∧ ∀ k, hI h' 298 k = hI h 298 k) 61 (fun _ h' e => ?_) (fun n _ h' hn e ih => ?_) 0 () h2 (by omega) ⟨W2, F2, fun k q hk => by omega, e98⟩
  · obtain ⟨W', F', wh, e98'⟩ := e
    refine wX10_couldRule_14 _ W'.1 ⟨fun _ => ?_, fun z => absurd (by decide) z⟩
    have W'' : FrC AU h0 h' := W'.2.1
    obtain ⟨L0, T0, Rr, M0, F0⟩ := O
    refine m_laysBack W'.1 W'.2.1 W'.2.2.1 (fun h3 f3 s3 e3' e4 => ⟨f3.lay L0, ?_⟩)
    have r3 : RM h0 h3 := ⟨f3, fun q hq => (e3' q).trans (F' q hq)⟩
    have O3 := MZ.fr ⟨L0, T0, Rr, M0, F0⟩ r3
    have W3 : MW h0 ρ t h3 := ⟨O3.1, f3.wd (fun x k hx => Or.inl hx), s3, O3.2.1, Rr, O3.2.2.2.1, c0⟩
    have wh3 : ∀ n q, n ≤ 60 → q < t0.1 3 → hI h3 297 (6 * n + q) = (itN ρc t0 (n + 1)).2 7 q := fun n q h1 h2 => (e4 297 _ (by decide) (by decide)).trans (wh n q (by omega) h2)
    have fin := hQ h3 W3 r3 wh3 (fun k => (e4 298 _ (by decide) (by decide)).trans (e98' k))
    have H3 : MNt h3 N := hMN.to (f3.I (by unfold AF; omega)) (fun x k hx => f3.I (by unfold AF; omega))
    have hiff := agN_iff (u := fun n => itN ρc t0 (n + 1)) (N := N) N.1
    refine loopN (σ := Unit) (P := fun i _ h' => Sat g mX10_couldRule (d + 8) (0, 0) (qI Q) 68 [.ref 252, .double 0, .int (nI i), .double 0] [] h') (I := fun i _ h' => h' = h3 ∧ ∀ k, k < i → (itN ρc t0 (N.2.1 k + 1)).2 7 (N.2.2.1 k) = N.2.2.2 k) N.1 (fun _ h' e => ?_) (fun i _ h' hi e ih => ?_) 0 () h3 (by omega) ⟨rfl, fun k hk => by omega⟩
    · obtain ⟨rfl, e⟩ := e
      refine wX10_couldRule_68 _ W3.1 ?_
      rw [H3.1]
      refine ⟨fun _ => ?_, fun z => absurd (nI_le (Nat.le_refl _) (by omega)) z⟩
      rw [if_pos (show agB ρc t0 N = true from hiff.mpr e)] at fin
      exact fin
    · obtain ⟨rfl, e⟩ := e
      obtain ⟨n1, n2, n3⟩ := hN.2 i hi
      refine wX10_couldRule_68 _ W3.1 ?_
      rw [H3.1, nI_clamp (n := i) (by omega), (H3.2 i hi).1, (H3.2 i hi).2.1, (H3.2 i hi).2.2, n6, nI_clamp (by omega), wh3 _ _ n1 n2, nI_1]
      refine ⟨fun z => absurd z (nI_ge hi (by omega)), fun _ => ⟨vn (by omega) (by omega), vn (by omega) (by omega), fun z => ih () h' ⟨rfl, fun k hk => ?_⟩, fun z => ?_⟩⟩
      · by_cases y : k = i
        · subst y; exact z
        · exact e k (by omega)
      · have : ¬ agB ρc t0 N = true := fun w => z (hiff.mp w i hi)
        rw [if_neg this] at fin
        exact fin
  · obtain ⟨W', F', wh, e98'⟩ := e
    refine wX10_couldRule_14 _ W'.1 ⟨fun z => absurd z (nI_nlt (a := 60) (b := n) (by omega) (by omega)), fun _ => ?_⟩
    refine m_goesW W' (F'.mu W'.2.2.2.1.1) (by rw [itN_4, b2]; omega) (fun h3 W3 f3 _ => ⟨W3.1, ?_⟩)
    have F3 : MF h3 := fun q hq => (f3.I (by unfold AG; omega)).trans (F' q hq)
    have ex3 : (itN ρc t0 (n + 1)).1 3 = t0.1 3 := itN_k ρc t0 (n + 1) (by decide)
    refine loopN (σ := Unit) (P := fun q _ h' => Sat g mX10_couldRule (d + 8) (0, 0) (qI Q) 27 [.ref 252, .double 0, .int (nI n), .int (nI q)] [] h') (I := fun q _ h4 => FrC (fun x k => x = 297 ∧ 6 * n ≤ k) h3 h4 ∧ ∀ j, j < q → hI h4 297 (6 * n + j) = hI h3 260 j) 6 (fun _ h4 e => ?_) (fun q _ h4 hq e ih2 => ?_) 0 () h3 (by omega) ⟨FrC.rf h3, fun j hj => by omega⟩
    · obtain ⟨f4, e4⟩ := e
      refine wX10_couldRule_27 _ _ (f4.lay W3.1) ⟨fun _ => ?_, fun z => absurd (by decide) z⟩
      rw [nI_1]
      have T4 : TD h4 253 (itN ρc t0 (n + 1)) := W3.2.2.2.1.to (fun k hk => f4.I (by omega)) (fun r j _ _ => f4.I (by omega))
      have W4 := W3.set (t' := itN ρc t0 (n + 1)) f4 (fun x k hx => by unfold AU AF AT; omega) T4 W3.2.2.2.2.1 W3.2.2.2.2.2.2
      refine ih () h4 ⟨W4, fun q hq => (f4.I (by omega)).trans (F3 q hq), fun k q hk hq => ?_, fun k => by rw [f4.I (by omega), f3.I (by unfold AG; omega)]; exact e98' k⟩
      by_cases y : k = n
      · subst y
        rw [e4 q (by omega)]
        exact mLa (t := itN ρc t0 (k + 1)) W3.2.2.2.1 (by rw [ex3]; exact hq)
      · rw [f4.I (by omega), f3.I (by unfold AG; omega)]; exact wh k q (by omega) hq
    · obtain ⟨f4, e4⟩ := e
      refine wX10_couldRule_27 _ _ (f4.lay W3.1) ⟨fun z => absurd z (nI_ge (a := q) (b := 6) hq (by omega)), fun _ => ?_⟩
      rw [n6, nI_clamp (n := 6 * n + q) (by omega), nI_clamp (n := q) (by omega), nI_1]
      refine ⟨vn (by omega) (by omega), vn (by omega) (by omega), ih2 () _ ⟨f4.tr (FrC.stI (by omega)), fun j hj => ?_⟩⟩
      by_cases y : j = q
      · subst y; rw [rdI]; exact f4.I (by omega)
      · rw [rdn (by omega)]; exact e4 j (by omega)
theorem m_ruled {w : Int32} {Q : Int32 → HP → Prop} (O : MZ h ρ t) (hbg : BG t0 t) (hTo : MTo h t0) (hMN : MNt h N) (hN : NtOK N t0) (hR : MRs h P cnt) (hQ : ∀ h', RM h h' → Q (aRuled P t0 N cnt w) h') : CallI g mX10_ruled (d + 9) [.ref 252, .int w] h Q := by
  have no : ¬ (¬ t0.1 0 = 0 ∧ IN w 0 1) → Q (-3) h := fun c => by
    have := hQ h (RM.rf O.2.2.2.2)
    unfold aRuled at this
    rwa [if_neg c] at this
  have h0 : t0.1 0 = t.1 0 := hbg.2.2.1 0 (by omega)
  have L := O.1
  have hc6 := hR.1
  refine wX10_ruled_0 _ L (m_city O (fun c => ⟨L, fun q => absurd q (by decide), fun _ => m_in L (a := 0) (b := 1) rfl rfl (by decide) (by decide) (fun v v1 v2 ev => ⟨L, fun q => absurd q (by decide), fun _ => ?_⟩) (fun z => ⟨L, fun _ => no (fun y => z y.2), fun q => absurd rfl q⟩)⟩) (fun z => ⟨L, fun _ => no (fun y => y.1 (h0.trans z)), fun q => absurd rfl q⟩))
  subst ev
  refine m_keepW O c (fun h1 W1 F1 r1 => ⟨W1.1, ?_⟩)
  refine loopN (σ := Unit) (P := fun c _ h' => Sat g mX10_ruled (d + 9) (0, 0) (qI Q) 32 [.ref 252, .int (nI v), .int (nI (ruN P t0 N c).1), .int (ruN P t0 N c).2, .int (pl c)] [] h') (I := fun c _ h' => MW h ρ t h' ∧ RM h h') (cnt + 1) (fun _ h' e => ?_) (fun k _ h' hk e ih => ?_) 0 () h1 (by omega) ⟨W1, r1⟩
  · refine wX10_ruled_32 _ _ _ _ e.1.1 ?_
    rw [e.2.1.I (by unfold AF; omega), hR.2.1, pl_s]
    have yes := hQ h' e.2
    unfold aRuled at yes
    rw [if_pos ⟨by rw [h0]; exact c, IN_j v1 v2 (by decide)⟩] at yes
    exact ⟨fun _ => ⟨fun z => by rwa [if_pos z] at yes, fun z => by rwa [if_neg z] at yes⟩, fun z => absurd (nI_le (Nat.le_refl _) (by omega)) z⟩
  · have hle := ruN_le P t0 N k
    have ih := ih ()
    rw [ruN] at ih
    refine wX10_ruled_32 _ _ _ _ e.1.1 ?_
    rw [e.2.1.I (by unfold AF; omega), hR.2.1]
    refine ⟨fun z => absurd z (pl_nle (by omega) (by omega)), fun _ => m_couldRule e.1 e.2.2 O c hbg hTo hMN hN hR (by omega) (fun h2 W2 r2 _ _ => ?_)⟩
    rw [pl_1, nI_1]
    by_cases ag : agB (rhoC P k) t0 N = true
    · rw [if_pos ag] at ih ⊢
      refine ⟨W2.1, fun z => absurd z (by decide), fun _ => ⟨fun z => ?_, fun z => ?_⟩⟩
      · have z1 : (ruN P t0 N k).1 = 0 := (nI_eq (by omega) (by omega)).mp z
        rw [if_pos z1] at ih
        exact ih h2 ⟨W2, r2⟩
      · have z1 : ¬ (ruN P t0 N k).1 = 0 := fun y => z (by rw [y]; rfl)
        rw [if_neg z1] at ih
        exact ih h2 ⟨W2, r2⟩
    · rw [if_neg ag] at ih ⊢
      exact ⟨W2.1, fun _ => ih h2 ⟨W2, r2⟩, fun z => absurd rfl z⟩
theorem m_mostAlike {q m : Nat} {f : Nat → Nat → Int32} {Q : Int32 → HP → Prop} (L : Lay h) (hq : q < 6) (hm : m ≤ 7) (H : ∀ k, k < m → hI h 298 (6 * k + q) = f k q) (hQ : Q (nI (mx (fun i => cntE (fun k => f k q) (f i q) m) m)) h) : CallI g mX10_mostAlike d [.ref 252, .int (nI q), .int (nI m)] h Q := by
  refine wX10_mostAlike_0 _ _ L ?_
  refine loopN (σ := Unit) (P := fun i _ h' => Sat g mX10_mostAlike d (0, 0) (qI Q) 5 [.ref 252, .int (nI q), .int (nI m), .int (nI (mx (fun i => cntE (fun k => f k q) (f i q) m) i)), .int (nI i), .double 0, .double 0] [] h') (I := fun _ _ h' => h' = h) m (fun _ h' e => ?_) (fun i _ h' hi e ih => ?_) 0 () h (by omega) rfl
  · subst e
    exact wX10_mostAlike_5 _ _ _ _ L ⟨fun _ => hQ, fun z => absurd (nI_le (Nat.le_refl _) (by omega)) z⟩
  · subst e
    refine wX10_mostAlike_5 _ _ _ _ L ⟨fun z => absurd z (nI_ge hi (by omega)), fun _ => ?_⟩
    have h1 := mx_le (g := fun i => cntE (fun k => f k q) (f i q) m) (b := m) i (fun i _ => cntE_le _ _ m)
    refine loopN (σ := Unit) (P := fun k _ h' => Sat g mX10_mostAlike d (0, 0) (qI Q) 17 [.ref 252, .int (nI q), .int (nI m), .int (nI (mx (fun i => cntE (fun k => f k q) (f i q) m) i)), .int (nI i), .int (nI (cntE (fun k => f k q) (f i q) k)), .int (nI k)] [] h') (I := fun _ _ h2 => h2 = h') m (fun _ h2 e => ?_) (fun k _ h2 hk e ih2 => ?_) 0 () h' (by omega) rfl
    · subst e
      have := ih () h2 rfl
      have h2' := cntE_le (fun k => f k q) (f i q) m
      rw [mx] at this
      refine wX10_mostAlike_17 _ _ _ _ _ _ L ⟨fun _ => ?_, fun z => absurd (nI_le (Nat.le_refl _) (by omega)) z⟩
      rw [nI_1]
      refine ⟨fun z => ?_, fun z => ?_⟩
      · have le := (nI_leI (by omega) (by omega)).mp z
        rw [if_neg (by omega)] at this
        exact this
      · have lt : mx (fun i => cntE (fun k => f k q) (f i q) m) i < cntE (fun k => f k q) (f i q) m := Nat.lt_of_not_le (fun w => z (nI_le w (by omega)))
        rw [if_pos lt] at this
        exact this
    · subst e
      have := ih2 () h2 rfl
      rw [cntE] at this
      refine wX10_mostAlike_17 _ _ _ _ _ _ L ?_
      rw [n6, n6, nI_clamp (n := 6 * k + q) (by omega), nI_clamp (n := 6 * i + q) (by omega), H k hk, H i hi, nI_1 (cntE (fun k => f k q) (f i q) k), nI_1 k, Int32.add_zero]
      refine ⟨fun z => absurd z (nI_ge hk (by omega)), fun _ => ⟨vn (by omega) (by omega), vn (by omega) (by omega), fun z => ?_, fun z => ?_⟩⟩
      · rw [if_pos z] at this; exact this
      · rw [if_neg z] at this; exact this
theorem m_look {n w : Int32} {Q : Int32 → HP → Prop} (O : MZ h ρ t) (hbg : BG t0 t) (hTo : MTo h t0) (hMN : MNt h N) (hN : NtOK N t0) (hR : MRs h P cnt) (hQ : ∀ h', RM h h' → Q (aLook P t0 N cnt n w) h') : CallI g mX10_look (d + 9) [.ref 252, .int n, .int w] h Q := by
  have no : ¬ (¬ t0.1 0 = 0 ∧ IN n 0 60 ∧ IN w 0 1) → Q (-1) h := fun c => by
    have := hQ h (RM.rf O.2.2.2.2)
    unfold aLook at this
    rwa [if_neg c] at this
  have h0 : t0.1 0 = t.1 0 := hbg.2.2.1 0 (by omega)
  have h3 : t0.1 3 = t.1 3 := hbg.2.2.1 3 (by omega)
  have L := O.1
  have hc6 := hR.1
  have hB := O.2.1.1
  unfold TB at hB
  refine wX10_look_0 _ _ L (m_city O (fun c => ⟨L, fun q => absurd q (by decide), fun _ => m_in L (a := 0) (b := 60) rfl rfl (by decide) (by decide) (fun n n1 n2 en => ⟨L, fun q => absurd q (by decide), fun _ => m_in L (a := 0) (b := 1) rfl rfl (by decide) (by decide) (fun v v1 v2 ev => ⟨L, fun q => absurd q (by decide), fun _ => ?_⟩) (fun z => ⟨L, fun _ => no (fun y => z y.2.2), fun q => absurd rfl q⟩)⟩) (fun z => ⟨L, fun _ => no (fun y => z y.2.1), fun q => absurd rfl q⟩)⟩) (fun z => ⟨L, fun _ => no (fun y => y.1 (h0.trans z)), fun q => absurd rfl q⟩))
  subst ev en
  have yes : ∀ h', RM h h' → Q (if (loN P t0 N n (cnt + 1)).1 = 0 ∨ t0.1 3 = 0 then -2 else if nI v = 0 then nI (loA (moA P t0 N n (cnt + 1)) (t0.1 3 - 1)) else nI (moA P t0 N n (cnt + 1) (loA (moA P t0 N n (cnt + 1)) (t0.1 3 - 1)))) h' := fun h' r => by
    have := hQ h' r
    unfold aLook at this
    rwa [if_pos ⟨by rw [h0]; exact c, IN_j n1 n2 (by decide), IN_j v1 v2 (by decide)⟩, nI_clamp (n := n) (by omega)] at this
  refine m_keepW O c (fun h1 W1 F1 r1 => ⟨W1.1, ?_⟩)
  refine loopN (σ := Unit) (P := fun c _ h' => Sat g mX10_look (d + 9) (0, 0) (qI Q) 40 [.ref 252, .int (nI n), .int (nI v), .int (nI (loN P t0 N n c).1), .int (pl c), .double 0] [] h') (I := fun c _ h' => MW h ρ t h' ∧ RM h h' ∧ ∀ k q, k < (loN P t0 N n c).1 → q < t0.1 3 → hI h' 298 (6 * k + q) = (loN P t0 N n c).2 k q) (cnt + 1) (fun _ h' e => ?_) (fun k _ h' hk e ih => ?_) 0 () h1 (by omega) ⟨W1, r1, fun k q hk => absurd hk (by show ¬ k < 0; omega)⟩
  · obtain ⟨W, r, sh⟩ := e
    have hle := loN_le P t0 N n (cnt + 1)
    have yes := yes h' r
    have T := W.2.2.2.1
    refine wX10_look_40 _ _ _ _ W.1 ?_
    rw [r.1.I (by unfold AF; omega), hR.2.1, pl_s, mS T 3 (by omega), ← h3]
    refine ⟨fun _ => ⟨fun z => ?_, fun z => ⟨fun z2 => ?_, fun z2 => ?_⟩⟩, fun z => absurd (nI_le (Nat.le_refl _) (by omega)) z⟩
    · have z1 : (loN P t0 N n (cnt + 1)).1 = 0 := (nI_eq (by omega) (by omega)).mp z
      rw [if_pos (Or.inl z1)] at yes
      exact yes
    · have z1 : t0.1 3 = 0 := (nI_eq (by omega) (by omega)).mp z2
      rw [if_pos (Or.inr z1)] at yes
      exact yes
    · have nn : ¬ ((loN P t0 N n (cnt + 1)).1 = 0 ∨ t0.1 3 = 0) := fun y => y.elim (fun y => z (by rw [y]; rfl)) (fun y => z2 (by rw [y]; rfl))
      rw [if_neg nn] at yes
      have hmo : ∀ q, q < t0.1 3 → ∀ {Q' : Int32 → HP → Prop}, Q' (nI (moA P t0 N n (cnt + 1) q)) h' → CallI g mX10_mostAlike (d + 8) [.ref 252, .int (nI q), .int (nI (loN P t0 N n (cnt + 1)).1)] h' Q' := fun q hq Q' hx => m_mostAlike (f := (loN P t0 N n (cnt + 1)).2) W.1 (by omega) (by omega) (fun k hk => sh k q hk hq) hx
      have hmb : ∀ q, moA P t0 N n (cnt + 1) q ≤ 100 := fun q => Nat.le_trans (mx_le _ (fun i _ => cntE_le _ _ _)) (by omega)
      have key := loopN (σ := Unit) (P := fun q _ h' => Sat g mX10_look (d + 9) (0, 0) (qI Q) 129 [.ref 252, .double 0, .int (nI v), .int (nI (loN P t0 N n (cnt + 1)).1), .int (nI (loA (moA P t0 N n (cnt + 1)) q)), .int (nI (q + 1))] [] h') (I := fun _ _ h2 => h2 = h') (t0.1 3 - 1) (fun _ h2 e => by
        subst e
        refine wX10_look_129 _ _ _ _ W.1 ?_
        rw [mS T 3 (by omega), ← h3, show t0.1 3 - 1 + 1 = t0.1 3 by omega]
        have hl := loA_le (moA P t0 N n (cnt + 1)) (t0.1 3 - 1)
        refine ⟨fun _ => ⟨fun z => by rwa [if_pos z] at yes, fun z => hmo _ (by omega) ⟨W.1, by rwa [if_neg z] at yes⟩⟩, fun z => absurd (nI_le (Nat.le_refl _) (by omega)) z⟩) (fun q _ h2 hq e ih => by
        subst e
        have hl := loA_le (moA P t0 N n (cnt + 1)) q
        have := ih () h2 rfl
        rw [loA] at this
        refine wX10_look_129 _ _ _ _ W.1 ?_
        rw [mS T 3 (by omega), ← h3]
        refine ⟨fun z => absurd z (nI_ge (by omega) (by omega)), fun _ => hmo (q + 1) (by omega) ⟨W.1, hmo _ (by omega) ⟨W.1, ?_⟩⟩⟩
        rw [nI_1]
        have b1 := hmb (q + 1)
        have b2 := hmb (loA (moA P t0 N n (cnt + 1)) q)
        refine ⟨fun z => ?_, fun z => ?_⟩
        · have le := (nI_leI (by omega) (by omega)).mp z
          rw [if_neg (by omega)] at this
          exact this
        · have lt : moA P t0 N n (cnt + 1) (q + 1) < moA P t0 N n (cnt + 1) (loA (moA P t0 N n (cnt + 1)) q) := Nat.lt_of_not_le (fun w => z (nI_le w (by omega)))
          rw [if_pos lt] at this
          exact this) 0 () h' (by omega) rfl
      exact key
  · obtain ⟨W, r, sh⟩ := e
    have hle := loN_le P t0 N n k
    have ih := ih ()
    rw [loN] at ih
    refine wX10_look_40 _ _ _ _ W.1 ?_
    rw [r.1.I (by unfold AF; omega), hR.2.1]
    refine ⟨fun z => absurd z (pl_nle (by omega) (by omega)), fun _ => m_couldRule W r.2 O c hbg hTo hMN hN hR (by omega) (fun h2 W2 r2 wh e98 => ?_)⟩
    have sh2 : ∀ k' q, k' < (loN P t0 N n k).1 → q < t0.1 3 → hI h2 298 (6 * k' + q) = (loN P t0 N n k).2 k' q := fun k' q h1 h2 => (e98 _).trans (sh k' q h1 h2)
    rw [pl_1]
    by_cases ag : agB (rhoC P k) t0 N = true
    · rw [if_pos ag] at ih ⊢
      refine ⟨W2.1, fun z => absurd z (by decide), fun _ => ?_⟩
      refine loopN (σ := Unit) (P := fun q _ h' => Sat g mX10_look (d + 9) (0, 0) (qI Q) 61 [.ref 252, .int (nI n), .int (nI v), .int (nI (loN P t0 N n k).1), .int (pl k), .int (nI q)] [] h') (I := fun q _ h4 => FrC (fun x j => x = 298 ∧ 6 * (loN P t0 N n k).1 ≤ j) h2 h4 ∧ ∀ j, j < q → hI h4 298 (6 * (loN P t0 N n k).1 + j) = hI h2 297 (6 * n + j)) 6 (fun _ h4 e => ?_) (fun q _ h4 hq e ih2 => ?_) 0 () h2 (by omega) ⟨FrC.rf h2, fun j hj => by omega⟩
      · obtain ⟨f4, e4⟩ := e
        refine wX10_look_61 _ _ _ _ _ (f4.lay W2.1) ⟨fun _ => ?_, fun z => absurd (by decide) z⟩
        rw [pl_1, nI_1]
        have T4 : TD h4 253 t := W2.2.2.2.1.to (fun k hk => f4.I (by omega)) (fun r j _ _ => f4.I (by omega))
        have W4 := W2.set f4 (fun x k hx => by unfold AU AF AT; omega) T4 W2.2.2.2.2.1 c
        refine ih h4 ⟨W4, ⟨r2.1.tr (f4.wd (fun x k hx => by unfold AF; omega)), fun q hq => (f4.I (by omega)).trans (r2.2 q hq)⟩, fun k' q hk' hq => ?_⟩
        have hk' : k' < (loN P t0 N n k).1 + 1 := hk'
        show _ = up1 (loN P t0 N n k).2 (loN P t0 N n k).1 (fun q => (itN (rhoC P k) t0 (n + 1)).2 7 q) k' q
        unfold up1
        by_cases y : k' = (loN P t0 N n k).1
        · rw [if_pos y, y, e4 q (by omega)]; exact wh n q n2 hq
        · rw [if_neg y, f4.I (by omega)]; exact sh2 k' q (by omega) hq
      · obtain ⟨f4, e4⟩ := e
        refine wX10_look_61 _ _ _ _ _ (f4.lay W2.1) ⟨fun z => absurd z (nI_ge (a := q) (b := 6) hq (by omega)), fun _ => ?_⟩
        rw [n6, n6, nI_clamp (n := 6 * n + q) (by omega), nI_clamp (n := 6 * (loN P t0 N n k).1 + q) (by omega), nI_1 q]
        refine ⟨vn (by omega) (by omega), vn (by omega) (by omega), ih2 () _ ⟨f4.tr (FrC.stI (by omega)), fun j hj => ?_⟩⟩
        by_cases y : j = q
        · subst y; rw [rdI]; exact f4.I (by omega)
        · rw [rdn (by omega)]; exact e4 j (by omega)
    · rw [if_neg ag] at ih ⊢
      exact ⟨W2.1, fun _ => ih h2 ⟨W2, r2, sh2⟩, fun z => absurd rfl z⟩
end MIQ
