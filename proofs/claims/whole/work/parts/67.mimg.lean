/-! images, of the reference -/
def PkW (F : Nat → Int32) (b : Nat) (t : Tw) : Prop := F b = nI (t.1 4) ∧ (∀ j, j < t.1 2 → F (b + 1 + j) = t.2 1 j ∧ F (b + 6 + j) = t.2 2 j ∧ F (b + 11 + j) = t.2 3 j) ∧ ∀ i, i < t.1 3 → F (b + 16 + i) = t.2 4 i ∧ F (b + 22 + i) = t.2 7 i ∧ F (b + 28 + i) = t.2 8 i
theorem PkW.to {F F' : Nat → Int32} {b : Nat} {t : Tw} (hB : TB t) (H : PkW F b t) (e : ∀ k, b ≤ k → k < b + 34 → F' k = F k) : PkW F' b t := by
  unfold TB at hB
  exact ⟨(e _ (by omega) (by omega)).trans H.1, fun j hj => by rw [e _ (by omega) (by omega), e _ (by omega) (by omega), e _ (by omega) (by omega)]; exact H.2.1 j hj, fun i hi => by rw [e _ (by omega) (by omega), e _ (by omega) (by omega), e _ (by omega) (by omega)]; exact H.2.2 i hi⟩
def usA (a j : Nat) : Prop := (a = 253 ∧ j < 8) ∨ ((254 ≤ a ∧ a ≤ 256) ∧ j < 5) ∨ ((257 ≤ a ∧ a ≤ 261) ∧ j < 6) ∨ ((262 ≤ a ∧ a ≤ 264) ∧ j < 10) ∨ ((265 ≤ a ∧ a ≤ 267) ∧ j < 5) ∨ (a = 268 ∧ j < 6) ∨ (a = 290 ∧ j < 680)
def MLv (V : Nat → Nat → Int32) (pm : Int32) (l : Ld) : Prop := (∀ k, k < 5 → V 253 k = nI (l.1.1.1 k)) ∧ (∀ r j, rowOK l.1.1 r j → V (253 + r) j = l.1.1.2 r j) ∧ (V 253 5 = nI l.2.2.1.1 ∧ ∀ k, k < l.2.2.1.1 → V 262 k = nI (l.2.2.1.2.1 k) ∧ V 263 k = nI (l.2.2.1.2.2.1 k) ∧ V 264 k = l.2.2.1.2.2.2 k) ∧ V 253 6 = nI l.2.2.2.2 ∧ V 253 7 = pl l.2.2.2.1 ∧ ((∀ j, j < l.1.2.1 2 → V 265 j = l.1.2.2 1 j ∧ V 266 j = l.1.2.2 2 j ∧ V 267 j = l.1.2.2 3 j) ∧ ∀ i, i < l.1.2.1 3 → V 268 i = l.1.2.2 4 i) ∧ pm = nI l.2.1.1 ∧ ∀ i, i < l.2.1.1 → PkW (V 290) (34 * i) (l.2.1.2 i)
theorem MLv.to {V V' : Nat → Nat → Int32} {pm pm' : Int32} {l : Ld} {cnt : Nat} (H : MLv V pm l) (hO : LdOK l cnt) (e : ∀ a j, usA a j → V' a j = V a j) (ep : pm' = pm) : MLv V' pm' l := by
  obtain ⟨H1, H2, H3, H4, H5, H6, H7, H8⟩ := H
  obtain ⟨o1, o2, o3, o4, o5, o6, o7, o8⟩ := hO
  have b0 := o4.1
  unfold TB at o1 b0
  have n10 := o6.1
  refine ⟨fun k hk => (e _ _ (by unfold usA; omega)).trans (H1 k hk), fun r j hr => (e _ _ (by unfold usA; unfold rowOK at hr; omega)).trans (H2 r j hr), ⟨(e _ _ (by unfold usA; omega)).trans H3.1, fun k hk => ?_⟩, (e _ _ (by unfold usA; omega)).trans H4, (e _ _ (by unfold usA; omega)).trans H5, ⟨fun j hj => ?_, fun i hi => (e _ _ (by unfold usA; omega)).trans (H6.2 i hi)⟩, ep.trans H7, fun i hi => (H8 i hi).to (o5.2 i hi).1 (fun k h1 h2 => e _ _ (by have := o5.1; unfold usA; omega))⟩
  · rw [e _ _ (by unfold usA; omega), e _ _ (by unfold usA; omega), e _ _ (by unfold usA; omega)]; exact H3.2 k hk
  · rw [e _ _ (by unfold usA; omega), e _ _ (by unfold usA; omega), e _ _ (by unfold usA; omega)]; exact H6.1 j hj
def offA (a : Nat) : Nat := if a = 253 then 0 else if a = 254 then 8 else if a = 255 then 13 else if a = 256 then 18 else if a = 257 then 23 else if a = 260 then 29 else if a = 261 then 35 else if a = 291 then 41 else if a = 258 then 42 else if a = 259 then 48 else if a = 262 then 54 else if a = 263 then 64 else if a = 264 then 74 else if a = 265 then 84 else if a = 266 then 89 else if a = 267 then 94 else if a = 268 then 99 else 105
def imV (h : HP) (k a j : Nat) : Int32 := hI h 299 (900 * k + offA a + j)
section MIM
variable {g : GT} {d : Nat} {h : HP} {l : Ld} {cnt : Nat}
theorem m_imageS {k b : Nat} {Q : HP → Prop} (L : Lay h) (hk : k < 4) (hb : b = 900 * k) (hQ : ∀ h', FrC (fun x c => (x = 299 ∧ b ≤ c ∧ c < b + 785) ∨ (x = 252 ∧ (c = 63 ∨ c = 64)) ∨ x = 291) h h' → hI h' 299 (b + 41) = hI h 252 51 → (∀ a j, usA a j → hI h' 299 (b + offA a + j) = hI h a j) → Q h') : CallV g mX10_carriesAll (d + 1) (0, 0) [.ref 252, .int (nI k), .int 0] h Q := by
  refine wX10_carriesAll_0 _ _ L ⟨rfl, ?_⟩
  rw [show (900 : Int32) * nI k = nI b by rw [show (900 : Int32) = nI 900 from rfl, pk_mul, hb]]
  have f0 : FrC (fun x c => x = 252 ∧ (c = 63 ∨ c = 64)) h (setI (setI h 252 63 (nI b)) 252 64 0) := (FrC.stI (by omega)).tr (FrC.stI (by omega))
  have g0 : hI (setI (setI h 252 63 (nI b)) 252 64 0) 252 63 = nI b := rfl
  have k0 : hI (setI (setI h 252 63 (nI b)) 252 64 0) 252 64 = 0 := rfl
  generalize setI (setI h 252 63 (nI b)) 252 64 0 = h0 at *
  have L0 := f0.lay L
  refine m_carrySave (n := 8) (p := b) L0 (Lk L0 K_253) (Ln L0 N_253) (by decide) (by decide) (by omega) k0 g0 (fun h1 f1 g1 v1 => ?_)
  have L1 := f1.lay L0
  have k1 : hI h1 252 64 = 0 := (f1.I (by omega)).trans k0
  refine ⟨L1, ?_⟩
  refine m_carrySave (n := 5) (p := b + 8) L1 (Lk L1 K_254) (Ln L1 N_254) (by decide) (by decide) (by omega) k1 g1 (fun h2 f2 g2 v2 => ?_)
  have L2 := f2.lay L1
  have k2 : hI h2 252 64 = 0 := (f2.I (by omega)).trans k1
  refine ⟨L2, ?_⟩
  refine m_carrySave (n := 5) (p := b + 13) L2 (Lk L2 K_255) (Ln L2 N_255) (by decide) (by decide) (by omega) k2 g2 (fun h3 f3 g3 v3 => ?_)
  have L3 := f3.lay L2
  have k3 : hI h3 252 64 = 0 := (f3.I (by omega)).trans k2
  refine ⟨L3, ?_⟩
  refine m_carrySave (n := 5) (p := b + 18) L3 (Lk L3 K_256) (Ln L3 N_256) (by decide) (by decide) (by omega) k3 g3 (fun h4 f4 g4 v4 => ?_)
  have L4 := f4.lay L3
  have k4 : hI h4 252 64 = 0 := (f4.I (by omega)).trans k3
  refine ⟨L4, ?_⟩
  refine m_carrySave (n := 6) (p := b + 23) L4 (Lk L4 K_257) (Ln L4 N_257) (by decide) (by decide) (by omega) k4 g4 (fun h5 f5 g5 v5 => ?_)
  have L5 := f5.lay L4
  have k5 : hI h5 252 64 = 0 := (f5.I (by omega)).trans k4
  refine ⟨L5, ?_⟩
  refine m_carrySave (n := 6) (p := b + 29) L5 (Lk L5 K_260) (Ln L5 N_260) (by decide) (by decide) (by omega) k5 g5 (fun h6 f6 g6 v6 => ?_)
  have L6 := f6.lay L5
  have k6 : hI h6 252 64 = 0 := (f6.I (by omega)).trans k5
  refine ⟨L6, ?_⟩
  refine m_carrySave (n := 6) (p := b + 35) L6 (Lk L6 K_261) (Ln L6 N_261) (by decide) (by decide) (by omega) k6 g6 (fun h7 f7 g7 v7 => ?_)
  have L7 := f7.lay L6
  have k7 : hI h7 252 64 = 0 := (f7.I (by omega)).trans k6
  refine ⟨L7, ?_⟩
  refine ⟨fun z => absurd ((nI_eq (a := k) (b := 4) (by omega) (by omega)).mp z) (by omega), fun _ => ?_⟩
  have fA : FrC (fun x _ => x = 291) h7 (setI h7 291 0 (hI h7 252 51)) := FrC.stI rfl
  have gA : hI (setI h7 291 0 (hI h7 252 51)) 291 0 = hI h7 252 51 := rdI
  generalize setI h7 291 0 (hI h7 252 51) = hA at *
  have LA := fA.lay L7
  have kA : hI hA 252 64 = 0 := (fA.I (by omega)).trans k7
  have gpA : hI hA 252 63 = nI (b + 41) := (fA.I (by omega)).trans g7
  refine m_carrySave (n := 1) (p := b + 41) LA (Lk LA K_291) (Ln LA N_291) (by decide) (by decide) (by omega) kA gpA (fun h8 f8 g8 v8 => ?_)
  have L8 := f8.lay LA
  have k8 : hI h8 252 64 = 0 := (f8.I (by omega)).trans kA
  refine ⟨L8, ?_⟩
  have fB : FrC (fun x c => x = 252 ∧ c = 51) h8 (setI h8 252 51 (hI h8 291 0)) := FrC.stI ⟨rfl, rfl⟩
  have gB : hI (setI h8 252 51 (hI h8 291 0)) 252 51 = hI h8 291 0 := rdI
  generalize setI h8 252 51 (hI h8 291 0) = hB at *
  have LB := fB.lay L8
  have kB : hI hB 252 64 = 0 := (fB.I (by omega)).trans k8
  have gpB : hI hB 252 63 = nI (b + 42) := (fB.I (by omega)).trans g8
  refine m_carrySave (n := 6) (p := b + 42) LB (Lk LB K_258) (Ln LB N_258) (by decide) (by decide) (by omega) kB gpB (fun h9 f9 g9 v9 => ?_)
  have L9 := f9.lay LB
  have k9 : hI h9 252 64 = 0 := (f9.I (by omega)).trans kB
  refine ⟨L9, ?_⟩
  refine m_carrySave (n := 6) (p := b + 48) L9 (Lk L9 K_259) (Ln L9 N_259) (by decide) (by decide) (by omega) k9 g9 (fun h10 f10 g10 v10 => ?_)
  have L10 := f10.lay L9
  have k10 : hI h10 252 64 = 0 := (f10.I (by omega)).trans k9
  refine ⟨L10, ?_⟩
  refine m_carrySave (n := 10) (p := b + 54) L10 (Lk L10 K_262) (Ln L10 N_262) (by decide) (by decide) (by omega) k10 g10 (fun h11 f11 g11 v11 => ?_)
  have L11 := f11.lay L10
  have k11 : hI h11 252 64 = 0 := (f11.I (by omega)).trans k10
  refine ⟨L11, ?_⟩
  refine m_carrySave (n := 10) (p := b + 64) L11 (Lk L11 K_263) (Ln L11 N_263) (by decide) (by decide) (by omega) k11 g11 (fun h12 f12 g12 v12 => ?_)
  have L12 := f12.lay L11
  have k12 : hI h12 252 64 = 0 := (f12.I (by omega)).trans k11
  refine ⟨L12, ?_⟩
  refine m_carrySave (n := 10) (p := b + 74) L12 (Lk L12 K_264) (Ln L12 N_264) (by decide) (by decide) (by omega) k12 g12 (fun h13 f13 g13 v13 => ?_)
  have L13 := f13.lay L12
  have k13 : hI h13 252 64 = 0 := (f13.I (by omega)).trans k12
  refine ⟨L13, ?_⟩
  refine m_carrySave (n := 5) (p := b + 84) L13 (Lk L13 K_265) (Ln L13 N_265) (by decide) (by decide) (by omega) k13 g13 (fun h14 f14 g14 v14 => ?_)
  have L14 := f14.lay L13
  have k14 : hI h14 252 64 = 0 := (f14.I (by omega)).trans k13
  refine ⟨L14, ?_⟩
  refine m_carrySave (n := 5) (p := b + 89) L14 (Lk L14 K_266) (Ln L14 N_266) (by decide) (by decide) (by omega) k14 g14 (fun h15 f15 g15 v15 => ?_)
  have L15 := f15.lay L14
  have k15 : hI h15 252 64 = 0 := (f15.I (by omega)).trans k14
  refine ⟨L15, ?_⟩
  refine m_carrySave (n := 5) (p := b + 94) L15 (Lk L15 K_267) (Ln L15 N_267) (by decide) (by decide) (by omega) k15 g15 (fun h16 f16 g16 v16 => ?_)
  have L16 := f16.lay L15
  have k16 : hI h16 252 64 = 0 := (f16.I (by omega)).trans k15
  refine ⟨L16, ?_⟩
  refine m_carrySave (n := 6) (p := b + 99) L16 (Lk L16 K_268) (Ln L16 N_268) (by decide) (by decide) (by omega) k16 g16 (fun h17 f17 g17 v17 => ?_)
  have L17 := f17.lay L16
  have k17 : hI h17 252 64 = 0 := (f17.I (by omega)).trans k16
  refine ⟨L17, ?_⟩
  refine m_carrySave (n := 680) (p := b + 105) L17 (Lk L17 K_290) (Ln L17 N_290) (by decide) (by decide) (by omega) k17 g17 (fun h18 f18 g18 v18 => ?_)
  have L18 := f18.lay L17
  have k18 : hI h18 252 64 = 0 := (f18.I (by omega)).trans k17
  refine ⟨L18, ?_⟩
  have vP : hI h8 299 (b + 41) = hI h 252 51 := by rw [show b + 41 = b + 41 + 0 from rfl, v8 0 (by omega), gA, f7.I (by omega), f6.I (by omega), f5.I (by omega), f4.I (by omega), f3.I (by omega), f2.I (by omega), f1.I (by omega), f0.I (by omega)]
  have e291 : hI h8 291 0 = hI h 252 51 := by rw [f8.I (by omega), gA, f7.I (by omega), f6.I (by omega), f5.I (by omega), f4.I (by omega), f3.I (by omega), f2.I (by omega), f1.I (by omega), f0.I (by omega)]
  have e51 : hI hB 252 51 = hI h 252 51 := gB.trans e291
  have F1 : FrC (fun x c => (x = 299 ∧ b ≤ c ∧ c < b + 785) ∨ (x = 252 ∧ (c = 63 ∨ c = 64)) ∨ x = 291) h h8 := by
    exact ((((((((((f0.wd (fun x c hx => by omega)).tr (f1.wd (fun x c hx => by omega))).tr (f2.wd (fun x c hx => by omega))).tr (f3.wd (fun x c hx => by omega))).tr (f4.wd (fun x c hx => by omega))).tr (f5.wd (fun x c hx => by omega))).tr (f6.wd (fun x c hx => by omega))).tr (f7.wd (fun x c hx => by omega))).tr (fA.wd (fun x c hx => by omega))).tr (f8.wd (fun x c hx => by omega)))
  have F2 : FrC (fun x c => (x = 299 ∧ b ≤ c ∧ c < b + 785) ∨ (x = 252 ∧ (c = 63 ∨ c = 64)) ∨ x = 291) h hB := by
    refine ⟨fB.1.trans F1.1, fB.2.1.trans F1.2.1, fun x c => ⟨fun hx => ?_, fun hx => ?_⟩⟩
    · by_cases z : x = 252 ∧ c = 51
      · rw [z.1, z.2]; exact e51
      · rw [fB.I z]; exact F1.I hx
    · have z : ¬ ((x = 252 ∧ c = 51) ∧ JC x) := fun w => by have := w.2; unfold JC at this; omega
      exact ((fB.2.2 x c).2 z).trans ((F1.2.2 x c).2 hx)
  refine hQ h18 ((((((((((F2.tr (f9.wd (fun x c hx => by omega))).tr (f10.wd (fun x c hx => by omega))).tr (f11.wd (fun x c hx => by omega))).tr (f12.wd (fun x c hx => by omega))).tr (f13.wd (fun x c hx => by omega))).tr (f14.wd (fun x c hx => by omega))).tr (f15.wd (fun x c hx => by omega))).tr (f16.wd (fun x c hx => by omega))).tr (f17.wd (fun x c hx => by omega))).tr (f18.wd (fun x c hx => by omega))) ?_ (fun a j hu => ?_)
  · rw [f18.I (by omega), f17.I (by omega), f16.I (by omega), f15.I (by omega), f14.I (by omega), f13.I (by omega), f12.I (by omega), f11.I (by omega), f10.I (by omega), f9.I (by omega), fB.I (by omega)]; exact vP
  · unfold usA at hu
    rcases (show (a = 253 ∧ j < 8) ∨ (a = 254 ∧ j < 5) ∨ (a = 255 ∧ j < 5) ∨ (a = 256 ∧ j < 5) ∨ (a = 257 ∧ j < 6) ∨ (a = 260 ∧ j < 6) ∨ (a = 261 ∧ j < 6) ∨ (a = 258 ∧ j < 6) ∨ (a = 259 ∧ j < 6) ∨ (a = 262 ∧ j < 10) ∨ (a = 263 ∧ j < 10) ∨ (a = 264 ∧ j < 10) ∨ (a = 265 ∧ j < 5) ∨ (a = 266 ∧ j < 5) ∨ (a = 267 ∧ j < 5) ∨ (a = 268 ∧ j < 6) ∨ (a = 290 ∧ j < 680) by omega) with ⟨rfl, hj⟩ | ⟨rfl, hj⟩ | ⟨rfl, hj⟩ | ⟨rfl, hj⟩ | ⟨rfl, hj⟩ | ⟨rfl, hj⟩ | ⟨rfl, hj⟩ | ⟨rfl, hj⟩ | ⟨rfl, hj⟩ | ⟨rfl, hj⟩ | ⟨rfl, hj⟩ | ⟨rfl, hj⟩ | ⟨rfl, hj⟩ | ⟨rfl, hj⟩ | ⟨rfl, hj⟩ | ⟨rfl, hj⟩ | ⟨rfl, hj⟩
    · show hI h18 299 (b + 0 + j) = hI h 253 j
      rw [Nat.add_zero]
      rw [f18.I (by omega), f17.I (by omega), f16.I (by omega), f15.I (by omega), f14.I (by omega), f13.I (by omega), f12.I (by omega), f11.I (by omega), f10.I (by omega), f9.I (by omega), fB.I (by omega), f8.I (by omega), fA.I (by omega), f7.I (by omega), f6.I (by omega), f5.I (by omega), f4.I (by omega), f3.I (by omega), f2.I (by omega), v1 j hj, f0.I (by omega)]
    · show hI h18 299 (b + 8 + j) = hI h 254 j
      rw [f18.I (by omega), f17.I (by omega), f16.I (by omega), f15.I (by omega), f14.I (by omega), f13.I (by omega), f12.I (by omega), f11.I (by omega), f10.I (by omega), f9.I (by omega), fB.I (by omega), f8.I (by omega), fA.I (by omega), f7.I (by omega), f6.I (by omega), f5.I (by omega), f4.I (by omega), f3.I (by omega), v2 j hj, f1.I (by omega), f0.I (by omega)]
    · show hI h18 299 (b + 13 + j) = hI h 255 j
      rw [f18.I (by omega), f17.I (by omega), f16.I (by omega), f15.I (by omega), f14.I (by omega), f13.I (by omega), f12.I (by omega), f11.I (by omega), f10.I (by omega), f9.I (by omega), fB.I (by omega), f8.I (by omega), fA.I (by omega), f7.I (by omega), f6.I (by omega), f5.I (by omega), f4.I (by omega), v3 j hj, f2.I (by omega), f1.I (by omega), f0.I (by omega)]
    · show hI h18 299 (b + 18 + j) = hI h 256 j
      rw [f18.I (by omega), f17.I (by omega), f16.I (by omega), f15.I (by omega), f14.I (by omega), f13.I (by omega), f12.I (by omega), f11.I (by omega), f10.I (by omega), f9.I (by omega), fB.I (by omega), f8.I (by omega), fA.I (by omega), f7.I (by omega), f6.I (by omega), f5.I (by omega), v4 j hj, f3.I (by omega), f2.I (by omega), f1.I (by omega), f0.I (by omega)]
    · show hI h18 299 (b + 23 + j) = hI h 257 j
      rw [f18.I (by omega), f17.I (by omega), f16.I (by omega), f15.I (by omega), f14.I (by omega), f13.I (by omega), f12.I (by omega), f11.I (by omega), f10.I (by omega), f9.I (by omega), fB.I (by omega), f8.I (by omega), fA.I (by omega), f7.I (by omega), f6.I (by omega), v5 j hj, f4.I (by omega), f3.I (by omega), f2.I (by omega), f1.I (by omega), f0.I (by omega)]
    · show hI h18 299 (b + 29 + j) = hI h 260 j
      rw [f18.I (by omega), f17.I (by omega), f16.I (by omega), f15.I (by omega), f14.I (by omega), f13.I (by omega), f12.I (by omega), f11.I (by omega), f10.I (by omega), f9.I (by omega), fB.I (by omega), f8.I (by omega), fA.I (by omega), f7.I (by omega), v6 j hj, f5.I (by omega), f4.I (by omega), f3.I (by omega), f2.I (by omega), f1.I (by omega), f0.I (by omega)]
    · show hI h18 299 (b + 35 + j) = hI h 261 j
      rw [f18.I (by omega), f17.I (by omega), f16.I (by omega), f15.I (by omega), f14.I (by omega), f13.I (by omega), f12.I (by omega), f11.I (by omega), f10.I (by omega), f9.I (by omega), fB.I (by omega), f8.I (by omega), fA.I (by omega), v7 j hj, f6.I (by omega), f5.I (by omega), f4.I (by omega), f3.I (by omega), f2.I (by omega), f1.I (by omega), f0.I (by omega)]
    · show hI h18 299 (b + 42 + j) = hI h 258 j
      rw [f18.I (by omega), f17.I (by omega), f16.I (by omega), f15.I (by omega), f14.I (by omega), f13.I (by omega), f12.I (by omega), f11.I (by omega), f10.I (by omega), v9 j hj, fB.I (by omega), f8.I (by omega), fA.I (by omega), f7.I (by omega), f6.I (by omega), f5.I (by omega), f4.I (by omega), f3.I (by omega), f2.I (by omega), f1.I (by omega), f0.I (by omega)]
    · show hI h18 299 (b + 48 + j) = hI h 259 j
      rw [f18.I (by omega), f17.I (by omega), f16.I (by omega), f15.I (by omega), f14.I (by omega), f13.I (by omega), f12.I (by omega), f11.I (by omega), v10 j hj, f9.I (by omega), fB.I (by omega), f8.I (by omega), fA.I (by omega), f7.I (by omega), f6.I (by omega), f5.I (by omega), f4.I (by omega), f3.I (by omega), f2.I (by omega), f1.I (by omega), f0.I (by omega)]
    · show hI h18 299 (b + 54 + j) = hI h 262 j
      rw [f18.I (by omega), f17.I (by omega), f16.I (by omega), f15.I (by omega), f14.I (by omega), f13.I (by omega), f12.I (by omega), v11 j hj, f10.I (by omega), f9.I (by omega), fB.I (by omega), f8.I (by omega), fA.I (by omega), f7.I (by omega), f6.I (by omega), f5.I (by omega), f4.I (by omega), f3.I (by omega), f2.I (by omega), f1.I (by omega), f0.I (by omega)]
    · show hI h18 299 (b + 64 + j) = hI h 263 j
      rw [f18.I (by omega), f17.I (by omega), f16.I (by omega), f15.I (by omega), f14.I (by omega), f13.I (by omega), v12 j hj, f11.I (by omega), f10.I (by omega), f9.I (by omega), fB.I (by omega), f8.I (by omega), fA.I (by omega), f7.I (by omega), f6.I (by omega), f5.I (by omega), f4.I (by omega), f3.I (by omega), f2.I (by omega), f1.I (by omega), f0.I (by omega)]
    · show hI h18 299 (b + 74 + j) = hI h 264 j
      rw [f18.I (by omega), f17.I (by omega), f16.I (by omega), f15.I (by omega), f14.I (by omega), v13 j hj, f12.I (by omega), f11.I (by omega), f10.I (by omega), f9.I (by omega), fB.I (by omega), f8.I (by omega), fA.I (by omega), f7.I (by omega), f6.I (by omega), f5.I (by omega), f4.I (by omega), f3.I (by omega), f2.I (by omega), f1.I (by omega), f0.I (by omega)]
    · show hI h18 299 (b + 84 + j) = hI h 265 j
      rw [f18.I (by omega), f17.I (by omega), f16.I (by omega), f15.I (by omega), v14 j hj, f13.I (by omega), f12.I (by omega), f11.I (by omega), f10.I (by omega), f9.I (by omega), fB.I (by omega), f8.I (by omega), fA.I (by omega), f7.I (by omega), f6.I (by omega), f5.I (by omega), f4.I (by omega), f3.I (by omega), f2.I (by omega), f1.I (by omega), f0.I (by omega)]
    · show hI h18 299 (b + 89 + j) = hI h 266 j
      rw [f18.I (by omega), f17.I (by omega), f16.I (by omega), v15 j hj, f14.I (by omega), f13.I (by omega), f12.I (by omega), f11.I (by omega), f10.I (by omega), f9.I (by omega), fB.I (by omega), f8.I (by omega), fA.I (by omega), f7.I (by omega), f6.I (by omega), f5.I (by omega), f4.I (by omega), f3.I (by omega), f2.I (by omega), f1.I (by omega), f0.I (by omega)]
    · show hI h18 299 (b + 94 + j) = hI h 267 j
      rw [f18.I (by omega), f17.I (by omega), v16 j hj, f15.I (by omega), f14.I (by omega), f13.I (by omega), f12.I (by omega), f11.I (by omega), f10.I (by omega), f9.I (by omega), fB.I (by omega), f8.I (by omega), fA.I (by omega), f7.I (by omega), f6.I (by omega), f5.I (by omega), f4.I (by omega), f3.I (by omega), f2.I (by omega), f1.I (by omega), f0.I (by omega)]
    · show hI h18 299 (b + 99 + j) = hI h 268 j
      rw [f18.I (by omega), v17 j hj, f16.I (by omega), f15.I (by omega), f14.I (by omega), f13.I (by omega), f12.I (by omega), f11.I (by omega), f10.I (by omega), f9.I (by omega), fB.I (by omega), f8.I (by omega), fA.I (by omega), f7.I (by omega), f6.I (by omega), f5.I (by omega), f4.I (by omega), f3.I (by omega), f2.I (by omega), f1.I (by omega), f0.I (by omega)]
    · show hI h18 299 (b + 105 + j) = hI h 290 j
      rw [v18 j hj, f17.I (by omega), f16.I (by omega), f15.I (by omega), f14.I (by omega), f13.I (by omega), f12.I (by omega), f11.I (by omega), f10.I (by omega), f9.I (by omega), fB.I (by omega), f8.I (by omega), fA.I (by omega), f7.I (by omega), f6.I (by omega), f5.I (by omega), f4.I (by omega), f3.I (by omega), f2.I (by omega), f1.I (by omega), f0.I (by omega)]
theorem m_imageB {k b : Nat} {Q : HP → Prop} (L : Lay h) (hk : k < 4) (hb : b = 900 * k) (hQ : ∀ h', FrC (fun x c => usA x c ∨ (x = 252 ∧ (c = 51 ∨ c = 63 ∨ c = 64)) ∨ x = 291) h h' → hI h' 252 51 = hI h 299 (b + 41) → (∀ a j, usA a j → hI h' a j = hI h 299 (b + offA a + j)) → Q h') : CallV g mX10_carriesAll (d + 1) (0, 0) [.ref 252, .int (nI k), .int 1] h Q := by
  refine wX10_carriesAll_0 _ _ L ⟨rfl, ?_⟩
  rw [show (900 : Int32) * nI k = nI b by rw [show (900 : Int32) = nI 900 from rfl, pk_mul, hb]]
  have f0 : FrC (fun x c => x = 252 ∧ (c = 63 ∨ c = 64)) h (setI (setI h 252 63 (nI b)) 252 64 1) := (FrC.stI (by omega)).tr (FrC.stI (by omega))
  have g0 : hI (setI (setI h 252 63 (nI b)) 252 64 1) 252 63 = nI b := rfl
  have k0 : hI (setI (setI h 252 63 (nI b)) 252 64 1) 252 64 = 1 := rfl
  generalize setI (setI h 252 63 (nI b)) 252 64 1 = h0 at *
  have L0 := f0.lay L
  refine m_carryBack (n := 8) (p := b) L0 (Lk L0 K_253) (Ln L0 N_253) (by decide) (by decide) (by omega) k0 g0 (fun h1 f1 g1 v1 => ?_)
  have L1 := f1.lay L0
  have k1 : hI h1 252 64 = 1 := (f1.I (by omega)).trans k0
  refine ⟨L1, ?_⟩
  refine m_carryBack (n := 5) (p := b + 8) L1 (Lk L1 K_254) (Ln L1 N_254) (by decide) (by decide) (by omega) k1 g1 (fun h2 f2 g2 v2 => ?_)
  have L2 := f2.lay L1
  have k2 : hI h2 252 64 = 1 := (f2.I (by omega)).trans k1
  refine ⟨L2, ?_⟩
  refine m_carryBack (n := 5) (p := b + 13) L2 (Lk L2 K_255) (Ln L2 N_255) (by decide) (by decide) (by omega) k2 g2 (fun h3 f3 g3 v3 => ?_)
  have L3 := f3.lay L2
  have k3 : hI h3 252 64 = 1 := (f3.I (by omega)).trans k2
  refine ⟨L3, ?_⟩
  refine m_carryBack (n := 5) (p := b + 18) L3 (Lk L3 K_256) (Ln L3 N_256) (by decide) (by decide) (by omega) k3 g3 (fun h4 f4 g4 v4 => ?_)
  have L4 := f4.lay L3
  have k4 : hI h4 252 64 = 1 := (f4.I (by omega)).trans k3
  refine ⟨L4, ?_⟩
  refine m_carryBack (n := 6) (p := b + 23) L4 (Lk L4 K_257) (Ln L4 N_257) (by decide) (by decide) (by omega) k4 g4 (fun h5 f5 g5 v5 => ?_)
  have L5 := f5.lay L4
  have k5 : hI h5 252 64 = 1 := (f5.I (by omega)).trans k4
  refine ⟨L5, ?_⟩
  refine m_carryBack (n := 6) (p := b + 29) L5 (Lk L5 K_260) (Ln L5 N_260) (by decide) (by decide) (by omega) k5 g5 (fun h6 f6 g6 v6 => ?_)
  have L6 := f6.lay L5
  have k6 : hI h6 252 64 = 1 := (f6.I (by omega)).trans k5
  refine ⟨L6, ?_⟩
  refine m_carryBack (n := 6) (p := b + 35) L6 (Lk L6 K_261) (Ln L6 N_261) (by decide) (by decide) (by omega) k6 g6 (fun h7 f7 g7 v7 => ?_)
  have L7 := f7.lay L6
  have k7 : hI h7 252 64 = 1 := (f7.I (by omega)).trans k6
  refine ⟨L7, ?_⟩
  refine ⟨fun z => absurd ((nI_eq (a := k) (b := 4) (by omega) (by omega)).mp z) (by omega), fun _ => ?_⟩
  have fA : FrC (fun x _ => x = 291) h7 (setI h7 291 0 (hI h7 252 51)) := FrC.stI rfl
  have gA : hI (setI h7 291 0 (hI h7 252 51)) 291 0 = hI h7 252 51 := rdI
  generalize setI h7 291 0 (hI h7 252 51) = hA at *
  have LA := fA.lay L7
  have kA : hI hA 252 64 = 1 := (fA.I (by omega)).trans k7
  have gpA : hI hA 252 63 = nI (b + 41) := (fA.I (by omega)).trans g7
  refine m_carryBack (n := 1) (p := b + 41) LA (Lk LA K_291) (Ln LA N_291) (by decide) (by decide) (by omega) kA gpA (fun h8 f8 g8 v8 => ?_)
  have L8 := f8.lay LA
  have k8 : hI h8 252 64 = 1 := (f8.I (by omega)).trans kA
  refine ⟨L8, ?_⟩
  have fB : FrC (fun x c => x = 252 ∧ c = 51) h8 (setI h8 252 51 (hI h8 291 0)) := FrC.stI ⟨rfl, rfl⟩
  have gB : hI (setI h8 252 51 (hI h8 291 0)) 252 51 = hI h8 291 0 := rdI
  generalize setI h8 252 51 (hI h8 291 0) = hB at *
  have LB := fB.lay L8
  have kB : hI hB 252 64 = 1 := (fB.I (by omega)).trans k8
  have gpB : hI hB 252 63 = nI (b + 42) := (fB.I (by omega)).trans g8
  refine m_carryBack (n := 6) (p := b + 42) LB (Lk LB K_258) (Ln LB N_258) (by decide) (by decide) (by omega) kB gpB (fun h9 f9 g9 v9 => ?_)
  have L9 := f9.lay LB
  have k9 : hI h9 252 64 = 1 := (f9.I (by omega)).trans kB
  refine ⟨L9, ?_⟩
  refine m_carryBack (n := 6) (p := b + 48) L9 (Lk L9 K_259) (Ln L9 N_259) (by decide) (by decide) (by omega) k9 g9 (fun h10 f10 g10 v10 => ?_)
  have L10 := f10.lay L9
  have k10 : hI h10 252 64 = 1 := (f10.I (by omega)).trans k9
  refine ⟨L10, ?_⟩
  refine m_carryBack (n := 10) (p := b + 54) L10 (Lk L10 K_262) (Ln L10 N_262) (by decide) (by decide) (by omega) k10 g10 (fun h11 f11 g11 v11 => ?_)
  have L11 := f11.lay L10
  have k11 : hI h11 252 64 = 1 := (f11.I (by omega)).trans k10
  refine ⟨L11, ?_⟩
  refine m_carryBack (n := 10) (p := b + 64) L11 (Lk L11 K_263) (Ln L11 N_263) (by decide) (by decide) (by omega) k11 g11 (fun h12 f12 g12 v12 => ?_)
  have L12 := f12.lay L11
  have k12 : hI h12 252 64 = 1 := (f12.I (by omega)).trans k11
  refine ⟨L12, ?_⟩
  refine m_carryBack (n := 10) (p := b + 74) L12 (Lk L12 K_264) (Ln L12 N_264) (by decide) (by decide) (by omega) k12 g12 (fun h13 f13 g13 v13 => ?_)
  have L13 := f13.lay L12
  have k13 : hI h13 252 64 = 1 := (f13.I (by omega)).trans k12
  refine ⟨L13, ?_⟩
  refine m_carryBack (n := 5) (p := b + 84) L13 (Lk L13 K_265) (Ln L13 N_265) (by decide) (by decide) (by omega) k13 g13 (fun h14 f14 g14 v14 => ?_)
  have L14 := f14.lay L13
  have k14 : hI h14 252 64 = 1 := (f14.I (by omega)).trans k13
  refine ⟨L14, ?_⟩
  refine m_carryBack (n := 5) (p := b + 89) L14 (Lk L14 K_266) (Ln L14 N_266) (by decide) (by decide) (by omega) k14 g14 (fun h15 f15 g15 v15 => ?_)
  have L15 := f15.lay L14
  have k15 : hI h15 252 64 = 1 := (f15.I (by omega)).trans k14
  refine ⟨L15, ?_⟩
  refine m_carryBack (n := 5) (p := b + 94) L15 (Lk L15 K_267) (Ln L15 N_267) (by decide) (by decide) (by omega) k15 g15 (fun h16 f16 g16 v16 => ?_)
  have L16 := f16.lay L15
  have k16 : hI h16 252 64 = 1 := (f16.I (by omega)).trans k15
  refine ⟨L16, ?_⟩
  refine m_carryBack (n := 6) (p := b + 99) L16 (Lk L16 K_268) (Ln L16 N_268) (by decide) (by decide) (by omega) k16 g16 (fun h17 f17 g17 v17 => ?_)
  have L17 := f17.lay L16
  have k17 : hI h17 252 64 = 1 := (f17.I (by omega)).trans k16
  refine ⟨L17, ?_⟩
  refine m_carryBack (n := 680) (p := b + 105) L17 (Lk L17 K_290) (Ln L17 N_290) (by decide) (by decide) (by omega) k17 g17 (fun h18 f18 g18 v18 => ?_)
  have L18 := f18.lay L17
  have k18 : hI h18 252 64 = 1 := (f18.I (by omega)).trans k17
  refine ⟨L18, ?_⟩
  refine hQ h18 (((((((((((((((((((((f0.wd (fun x c hx => by omega)).tr (f1.wd (fun x c hx => by unfold usA; omega))).tr (f2.wd (fun x c hx => by unfold usA; omega))).tr (f3.wd (fun x c hx => by unfold usA; omega))).tr (f4.wd (fun x c hx => by unfold usA; omega))).tr (f5.wd (fun x c hx => by unfold usA; omega))).tr (f6.wd (fun x c hx => by unfold usA; omega))).tr (f7.wd (fun x c hx => by unfold usA; omega))).tr (fA.wd (fun x c hx => by unfold usA; omega))).tr (f8.wd (fun x c hx => by unfold usA; omega))).tr (fB.wd (fun x c hx => by unfold usA; omega))).tr (f9.wd (fun x c hx => by unfold usA; omega))).tr (f10.wd (fun x c hx => by unfold usA; omega))).tr (f11.wd (fun x c hx => by unfold usA; omega))).tr (f12.wd (fun x c hx => by unfold usA; omega))).tr (f13.wd (fun x c hx => by unfold usA; omega))).tr (f14.wd (fun x c hx => by unfold usA; omega))).tr (f15.wd (fun x c hx => by unfold usA; omega))).tr (f16.wd (fun x c hx => by unfold usA; omega))).tr (f17.wd (fun x c hx => by unfold usA; omega))).tr (f18.wd (fun x c hx => by unfold usA; omega))) ?_ (fun a j hu => ?_)
  · rw [f18.I (by omega), f17.I (by omega), f16.I (by omega), f15.I (by omega), f14.I (by omega), f13.I (by omega), f12.I (by omega), f11.I (by omega), f10.I (by omega), f9.I (by omega), gB, v8 0 (by omega), fA.I (by omega), f7.I (by omega), f6.I (by omega), f5.I (by omega), f4.I (by omega), f3.I (by omega), f2.I (by omega), f1.I (by omega), f0.I (by omega)]
  · unfold usA at hu
    rcases (show (a = 253 ∧ j < 8) ∨ (a = 254 ∧ j < 5) ∨ (a = 255 ∧ j < 5) ∨ (a = 256 ∧ j < 5) ∨ (a = 257 ∧ j < 6) ∨ (a = 260 ∧ j < 6) ∨ (a = 261 ∧ j < 6) ∨ (a = 258 ∧ j < 6) ∨ (a = 259 ∧ j < 6) ∨ (a = 262 ∧ j < 10) ∨ (a = 263 ∧ j < 10) ∨ (a = 264 ∧ j < 10) ∨ (a = 265 ∧ j < 5) ∨ (a = 266 ∧ j < 5) ∨ (a = 267 ∧ j < 5) ∨ (a = 268 ∧ j < 6) ∨ (a = 290 ∧ j < 680) by omega) with ⟨rfl, hj⟩ | ⟨rfl, hj⟩ | ⟨rfl, hj⟩ | ⟨rfl, hj⟩ | ⟨rfl, hj⟩ | ⟨rfl, hj⟩ | ⟨rfl, hj⟩ | ⟨rfl, hj⟩ | ⟨rfl, hj⟩ | ⟨rfl, hj⟩ | ⟨rfl, hj⟩ | ⟨rfl, hj⟩ | ⟨rfl, hj⟩ | ⟨rfl, hj⟩ | ⟨rfl, hj⟩ | ⟨rfl, hj⟩ | ⟨rfl, hj⟩
    · show hI h18 253 j = hI h 299 (b + 0 + j)
      rw [Nat.add_zero]
      rw [f18.I (by omega), f17.I (by omega), f16.I (by omega), f15.I (by omega), f14.I (by omega), f13.I (by omega), f12.I (by omega), f11.I (by omega), f10.I (by omega), f9.I (by omega), fB.I (by omega), f8.I (by omega), fA.I (by omega), f7.I (by omega), f6.I (by omega), f5.I (by omega), f4.I (by omega), f3.I (by omega), f2.I (by omega), v1 j hj, f0.I (by omega)]
    · show hI h18 254 j = hI h 299 (b + 8 + j)
      rw [f18.I (by omega), f17.I (by omega), f16.I (by omega), f15.I (by omega), f14.I (by omega), f13.I (by omega), f12.I (by omega), f11.I (by omega), f10.I (by omega), f9.I (by omega), fB.I (by omega), f8.I (by omega), fA.I (by omega), f7.I (by omega), f6.I (by omega), f5.I (by omega), f4.I (by omega), f3.I (by omega), v2 j hj, f1.I (by omega), f0.I (by omega)]
    · show hI h18 255 j = hI h 299 (b + 13 + j)
      rw [f18.I (by omega), f17.I (by omega), f16.I (by omega), f15.I (by omega), f14.I (by omega), f13.I (by omega), f12.I (by omega), f11.I (by omega), f10.I (by omega), f9.I (by omega), fB.I (by omega), f8.I (by omega), fA.I (by omega), f7.I (by omega), f6.I (by omega), f5.I (by omega), f4.I (by omega), v3 j hj, f2.I (by omega), f1.I (by omega), f0.I (by omega)]
    · show hI h18 256 j = hI h 299 (b + 18 + j)
      rw [f18.I (by omega), f17.I (by omega), f16.I (by omega), f15.I (by omega), f14.I (by omega), f13.I (by omega), f12.I (by omega), f11.I (by omega), f10.I (by omega), f9.I (by omega), fB.I (by omega), f8.I (by omega), fA.I (by omega), f7.I (by omega), f6.I (by omega), f5.I (by omega), v4 j hj, f3.I (by omega), f2.I (by omega), f1.I (by omega), f0.I (by omega)]
    · show hI h18 257 j = hI h 299 (b + 23 + j)
      rw [f18.I (by omega), f17.I (by omega), f16.I (by omega), f15.I (by omega), f14.I (by omega), f13.I (by omega), f12.I (by omega), f11.I (by omega), f10.I (by omega), f9.I (by omega), fB.I (by omega), f8.I (by omega), fA.I (by omega), f7.I (by omega), f6.I (by omega), v5 j hj, f4.I (by omega), f3.I (by omega), f2.I (by omega), f1.I (by omega), f0.I (by omega)]
    · show hI h18 260 j = hI h 299 (b + 29 + j)
      rw [f18.I (by omega), f17.I (by omega), f16.I (by omega), f15.I (by omega), f14.I (by omega), f13.I (by omega), f12.I (by omega), f11.I (by omega), f10.I (by omega), f9.I (by omega), fB.I (by omega), f8.I (by omega), fA.I (by omega), f7.I (by omega), v6 j hj, f5.I (by omega), f4.I (by omega), f3.I (by omega), f2.I (by omega), f1.I (by omega), f0.I (by omega)]
    · show hI h18 261 j = hI h 299 (b + 35 + j)
      rw [f18.I (by omega), f17.I (by omega), f16.I (by omega), f15.I (by omega), f14.I (by omega), f13.I (by omega), f12.I (by omega), f11.I (by omega), f10.I (by omega), f9.I (by omega), fB.I (by omega), f8.I (by omega), fA.I (by omega), v7 j hj, f6.I (by omega), f5.I (by omega), f4.I (by omega), f3.I (by omega), f2.I (by omega), f1.I (by omega), f0.I (by omega)]
    · show hI h18 258 j = hI h 299 (b + 42 + j)
      rw [f18.I (by omega), f17.I (by omega), f16.I (by omega), f15.I (by omega), f14.I (by omega), f13.I (by omega), f12.I (by omega), f11.I (by omega), f10.I (by omega), v9 j hj, fB.I (by omega), f8.I (by omega), fA.I (by omega), f7.I (by omega), f6.I (by omega), f5.I (by omega), f4.I (by omega), f3.I (by omega), f2.I (by omega), f1.I (by omega), f0.I (by omega)]
    · show hI h18 259 j = hI h 299 (b + 48 + j)
      rw [f18.I (by omega), f17.I (by omega), f16.I (by omega), f15.I (by omega), f14.I (by omega), f13.I (by omega), f12.I (by omega), f11.I (by omega), v10 j hj, f9.I (by omega), fB.I (by omega), f8.I (by omega), fA.I (by omega), f7.I (by omega), f6.I (by omega), f5.I (by omega), f4.I (by omega), f3.I (by omega), f2.I (by omega), f1.I (by omega), f0.I (by omega)]
    · show hI h18 262 j = hI h 299 (b + 54 + j)
      rw [f18.I (by omega), f17.I (by omega), f16.I (by omega), f15.I (by omega), f14.I (by omega), f13.I (by omega), f12.I (by omega), v11 j hj, f10.I (by omega), f9.I (by omega), fB.I (by omega), f8.I (by omega), fA.I (by omega), f7.I (by omega), f6.I (by omega), f5.I (by omega), f4.I (by omega), f3.I (by omega), f2.I (by omega), f1.I (by omega), f0.I (by omega)]
    · show hI h18 263 j = hI h 299 (b + 64 + j)
      rw [f18.I (by omega), f17.I (by omega), f16.I (by omega), f15.I (by omega), f14.I (by omega), f13.I (by omega), v12 j hj, f11.I (by omega), f10.I (by omega), f9.I (by omega), fB.I (by omega), f8.I (by omega), fA.I (by omega), f7.I (by omega), f6.I (by omega), f5.I (by omega), f4.I (by omega), f3.I (by omega), f2.I (by omega), f1.I (by omega), f0.I (by omega)]
    · show hI h18 264 j = hI h 299 (b + 74 + j)
      rw [f18.I (by omega), f17.I (by omega), f16.I (by omega), f15.I (by omega), f14.I (by omega), v13 j hj, f12.I (by omega), f11.I (by omega), f10.I (by omega), f9.I (by omega), fB.I (by omega), f8.I (by omega), fA.I (by omega), f7.I (by omega), f6.I (by omega), f5.I (by omega), f4.I (by omega), f3.I (by omega), f2.I (by omega), f1.I (by omega), f0.I (by omega)]
    · show hI h18 265 j = hI h 299 (b + 84 + j)
      rw [f18.I (by omega), f17.I (by omega), f16.I (by omega), f15.I (by omega), v14 j hj, f13.I (by omega), f12.I (by omega), f11.I (by omega), f10.I (by omega), f9.I (by omega), fB.I (by omega), f8.I (by omega), fA.I (by omega), f7.I (by omega), f6.I (by omega), f5.I (by omega), f4.I (by omega), f3.I (by omega), f2.I (by omega), f1.I (by omega), f0.I (by omega)]
    · show hI h18 266 j = hI h 299 (b + 89 + j)
      rw [f18.I (by omega), f17.I (by omega), f16.I (by omega), v15 j hj, f14.I (by omega), f13.I (by omega), f12.I (by omega), f11.I (by omega), f10.I (by omega), f9.I (by omega), fB.I (by omega), f8.I (by omega), fA.I (by omega), f7.I (by omega), f6.I (by omega), f5.I (by omega), f4.I (by omega), f3.I (by omega), f2.I (by omega), f1.I (by omega), f0.I (by omega)]
    · show hI h18 267 j = hI h 299 (b + 94 + j)
      rw [f18.I (by omega), f17.I (by omega), v16 j hj, f15.I (by omega), f14.I (by omega), f13.I (by omega), f12.I (by omega), f11.I (by omega), f10.I (by omega), f9.I (by omega), fB.I (by omega), f8.I (by omega), fA.I (by omega), f7.I (by omega), f6.I (by omega), f5.I (by omega), f4.I (by omega), f3.I (by omega), f2.I (by omega), f1.I (by omega), f0.I (by omega)]
    · show hI h18 268 j = hI h 299 (b + 99 + j)
      rw [f18.I (by omega), v17 j hj, f16.I (by omega), f15.I (by omega), f14.I (by omega), f13.I (by omega), f12.I (by omega), f11.I (by omega), f10.I (by omega), f9.I (by omega), fB.I (by omega), f8.I (by omega), fA.I (by omega), f7.I (by omega), f6.I (by omega), f5.I (by omega), f4.I (by omega), f3.I (by omega), f2.I (by omega), f1.I (by omega), f0.I (by omega)]
    · show hI h18 290 j = hI h 299 (b + 105 + j)
      rw [v18 j hj, f17.I (by omega), f16.I (by omega), f15.I (by omega), f14.I (by omega), f13.I (by omega), f12.I (by omega), f11.I (by omega), f10.I (by omega), f9.I (by omega), fB.I (by omega), f8.I (by omega), fA.I (by omega), f7.I (by omega), f6.I (by omega), f5.I (by omega), f4.I (by omega), f3.I (by omega), f2.I (by omega), f1.I (by omega), f0.I (by omega)]
end MIM
