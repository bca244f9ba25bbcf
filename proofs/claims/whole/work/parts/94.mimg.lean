/-! images, of the reference -/
def PkW (F : Nat → Int32) (b : Nat) (t : Tw) : Prop := F b = nI (t.1 4) ∧ (∀ j, j < t.1 2 → F (b + 1 + j) = t.2 1 j ∧ F (b + 6 + j) = t.2 2 j ∧ F (b + 11 + j) = t.2 3 j) ∧ ∀ i, i < t.1 3 → F (b + 16 + i) = t.2 4 i ∧ F (b + 22 + i) = t.2 7 i ∧ F (b + 28 + i) = t.2 8 i
theorem PkW.to {F F' : Nat → Int32} {b : Nat} {t : Tw} (hB : TB t) (H : PkW F b t) (e : ∀ k, b ≤ k → k < b + 34 → F' k = F k) : PkW F' b t := by
  unfold TB at hB
  exact ⟨(e _ (by omega) (by omega)).trans H.1, fun j hj => by rw [e _ (by omega) (by omega), e _ (by omega) (by omega), e _ (by omega) (by omega)]; exact H.2.1 j hj, fun i hi => by rw [e _ (by omega) (by omega), e _ (by omega) (by omega), e _ (by omega) (by omega)]; exact H.2.2 i hi⟩
def usA (a j : Nat) : Prop := (a = 253 ∧ j < 8) ∨ ((254 ≤ a ∧ a ≤ 256) ∧ j < 5) ∨ ((257 ≤ a ∧ a ≤ 261) ∧ j < 6) ∨ ((262 ≤ a ∧ a ≤ 264) ∧ j < 10) ∨ ((265 ≤ a ∧ a ≤ 267) ∧ j < 5) ∨ (a = 268 ∧ j < 6) ∨ (a = 290 ∧ j < 680)
def MLv (V : Nat → Nat → Int32) (pm : Int32) (l : Ld) : Prop := (∀ k, k < 5 → V 253 k = nI (l.1.1.1 k)) ∧ (∀ r j, rowOK l.1.1 r j → V (253 + r) j = l.1.1.2 r j) ∧ (V 253 5 = nI l.2.2.1.1 ∧ ∀ k, k < l.2.2.1.1 → V 262 k = nI (l.2.2.1.2.1 k) ∧ V 263 k = nI (l.2.2.1.2.2.1 k) ∧ V 264 k = l.2.2.1.2.2.2 k) ∧ V 253 6 = nI l.2.2.2.2 ∧ V 253 7 = pl l.2.2.2.1 ∧ ((∀ j, j < l.1.2.1 2 → V 265 j = l.1.2.2 1 j ∧ V 266 j = l.1.2.2 2 j ∧ V 267 j = l.1.2.2 3 j) ∧ ∀ i, i < l.1.2.1 3 → V 268 i = l.1.2.2 4 i) ∧ pm = nI l.2.1.1 ∧ ∀ i, i < l.2.1.1 → PkW (V 290) (34 * i) (l.2.1.2 i)
theorem MLv.to {V V' : Nat → Nat → Int32} {pm pm' : Int32} {l : Ld} {cnt : Nat} (H : MLv V pm l) (hO : LdOK l cnt) (e : ∀ a j, usA a j → V' a j = V a j) (ep : pm' = pm) : MLv V' pm' l := by
  obtain ⟨H1, H2, H3, H4, H5, H6, H7, H8⟩ := H
  obtain ⟨o1, o2, o3, o4, o5, o6, o7, o8⟩ := hO
  have b0 := o4.1
  unfold TB at o1 b0
  have n10 := o6.1
  refine ⟨fun k hk => (e _ _ (by unfold usA; omega)).trans (H1 k hk), fun r j hr => (e _ _ (by unfold usA; unfold rowOK at hr; omega)).trans (H2 r j hr), ⟨(e _ _ (by unfold usA; omega)).trans H3.1, fun k hk => ?_⟩, (e _ _ (by unfold usA; omega)).trans H4, (e _ _ (by unfold usA; omega)).trans H5, ⟨fun j hj => ?_, fun i hi => (e _ _ (by unfold usA; omega)).trans (H6.2 i hi)⟩, ep.trans H7, fun i hi => (H8 i hi).to (o5.2 i hi).1 (fun k h1 h2 => e _ _ (by have := o5.1; unfold usA; omega))⟩
  · rw [e _ _ (by unfold usA; omega), e _ _ (by unfold usA; omega), e _ _ (by unfold usA; omega)]; exact H3.2 k hk
  · rw [e _ _ (by unfold usA; omega), e _ _ (by unfold usA; omega), e _ _ (by unfold usA; omega)]; exact H6.1 j hj
def offA (a : Nat) : Nat := if a = 253 then 0 else if a = 254 then 8 else if a = 255 then 13 else if a = 256 then 18 else if a = 257 then 23 else if a = 260 then 29 else if a = 261 then 35 else if a = 291 then 41 else if a = 258 then 42 else if a = 259 then 48 else if a = 262 then 54 else if a = 263 then 64 else if a = 264 then 74 else if a = 265 then 84 else if a = 266 then 89 else if a = 267 then 94 else if a = 268 then 99 else 105
def imV (h : HP) (k a j : Nat) : Int32 := hI h 299 (900 * k + offA a + j)
theorem FrC.same {A : Nat → Nat → Prop} {h : HP} {x k : Nat} {v : Int32} (e : v = hI h x k) : FrC A h (setI h x k v) := ⟨rfl, rfl, fun y j => ⟨fun _ => by
  by_cases c : y = x ∧ j = k
  · rw [c.1, c.2, rdI]; exact e
  · exact rdn c, fun _ => rfl⟩⟩
def ASv (b x c : Nat) : Prop := (x = 299 ∧ b ≤ c ∧ c < b + 785) ∨ (x = 252 ∧ (c = 63 ∨ c = 64)) ∨ x = 291
def Sv_ (b : Nat) (h0 h : HP) (q : Nat) (dn : Nat → Nat → Prop) : Prop := FrC (ASv b) h0 h ∧ hI h 252 63 = nI (b + q) ∧ hI h 252 64 = 0 ∧ (∀ a j, dn a j → offA a + j < q ∧ hI h 299 (b + offA a + j) = hI h0 a j) ∧ (42 ≤ q → hI h 299 (b + 41) = hI h0 252 51)
def ABk (x c : Nat) : Prop := usA x c ∨ (x = 252 ∧ (c = 51 ∨ c = 63 ∨ c = 64)) ∨ x = 291
def Bk_ (b : Nat) (h0 h : HP) (q : Nat) (dn : Nat → Nat → Prop) : Prop := FrC ABk h0 h ∧ hI h 252 63 = nI (b + q) ∧ hI h 252 64 = 1 ∧ (∀ a j, dn a j → hI h a j = hI h0 299 (b + offA a + j)) ∧ (42 ≤ q → hI h 252 51 = hI h0 299 (b + 41))
section MIM
variable {g : GT} {d : Nat} {h h0 : HP} {l : Ld} {cnt : Nat}
theorem sv_step {b q a n : Nat} {dn : Nat → Nat → Prop} {Q : HP → Prop} (S : Sv_ b h0 h q dn) (L : Lay h) (hb : b ≤ 2700) (hq : q + n ≤ 785) (h41 : q + n ≤ 41 ∨ 42 ≤ q) (hk : hK h a = 21) (hn : hN h a = n) (ha : ¬ a = 299 ∧ ¬ a = 252 ∧ ¬ a = 291) (ho : offA a = q) (hQ : ∀ h', Lay h' → Sv_ b h0 h' (q + n) (fun a' j => dn a' j ∨ (a' = a ∧ j < n)) → Q h') : CallV g mX10_carryRow d (0, 0) [.ref 252, .ref a] h Q := by
  obtain ⟨s1, s2, s3, s4, s5⟩ := S
  refine m_carrySave L hk hn ha.1 ha.2.1 (by omega) s3 s2 (fun h' f e c => hQ h' (f.lay L) ⟨s1.tr (f.wd (fun x k w => by unfold ASv; omega)), by rw [e, Nat.add_assoc], (f.I (by omega)).trans s3, fun a' j w => ?_, fun w => ?_⟩)
  · rcases w with w | ⟨rfl, w⟩
    · have := s4 a' j w
      exact ⟨by omega, (f.I (by omega)).trans this.2⟩
    · refine ⟨by omega, ?_⟩
      rw [ho, c j w]
      exact s1.I (by unfold ASv; omega)
  · rcases h41 with z | z
    · omega
    · rw [f.I (by omega)]; exact s5 z
theorem bk_step {b q a n : Nat} {dn : Nat → Nat → Prop} {Q : HP → Prop} (S : Bk_ b h0 h q dn) (L : Lay h) (hb : b ≤ 2700) (hq : q + n ≤ 785) (h41 : q + n ≤ 41 ∨ 42 ≤ q) (hk : hK h a = 21) (hn : hN h a = n) (ha : ¬ a = 299 ∧ ¬ a = 252 ∧ ¬ a = 291) (ho : offA a = q) (hu : ∀ j, j < n → usA a j) (hd : ∀ a' j, dn a' j → ¬ a' = a ∧ ¬ a' = 252) (hQ : ∀ h', Lay h' → Bk_ b h0 h' (q + n) (fun a' j => dn a' j ∨ (a' = a ∧ j < n)) → Q h') : CallV g mX10_carryRow d (0, 0) [.ref 252, .ref a] h Q := by
  obtain ⟨s1, s2, s3, s4, s5⟩ := S
  refine m_carryBack L hk hn ha.1 ha.2.1 (by omega) s3 s2 (fun h' f e c => hQ h' (f.lay L) ⟨s1.tr (f.wd (fun x k w => ?_)), by rw [e, Nat.add_assoc], (f.I (by omega)).trans s3, fun a' j w => ?_, fun w => ?_⟩)
  · unfold ABk
    rcases w with w | w
    · rw [w.1]; exact Or.inl (hu k w.2)
    · exact Or.inr (Or.inl (by omega))
  · rcases w with w | ⟨rfl, w⟩
    · have := hd a' j w
      rw [f.I (by omega)]; exact s4 a' j w
    · rw [ho, c j w]
      exact s1.I (by unfold ABk usA; omega)
  · rcases h41 with z | z
    · omega
    · rw [f.I (by omega)]; exact s5 z
theorem sv_p1 {b : Nat} {dn : Nat → Nat → Prop} {Q : HP → Prop} (S0 : Sv_ b h0 h 0 dn) (L0 : Lay h) (hb : b ≤ 2700) (hQ : ∀ h', Lay h' → Sv_ b h0 h' 23 (fun a' j => ((((dn a' j ∨ (a' = 253 ∧ j < 8)) ∨ (a' = 254 ∧ j < 5)) ∨ (a' = 255 ∧ j < 5)) ∨ (a' = 256 ∧ j < 5))) → Q h') : CallV g mX10_carryRow d (0, 0) [Value.ref 252, .ref 253] h (fun h1 => Lay h1 ∧ CallV g mX10_carryRow d (0, 0) [Value.ref 252, .ref 254] h1 (fun h2 => Lay h2 ∧ CallV g mX10_carryRow d (0, 0) [Value.ref 252, .ref 255] h2 (fun h3 => Lay h3 ∧ CallV g mX10_carryRow d (0, 0) [Value.ref 252, .ref 256] h3 (fun h4 => Lay h4 ∧ Q h4)))) := by
  refine sv_step (a := 253) (n := 8) S0 L0 hb (by omega) (by omega) (Lk L0 K_253) (Ln L0 N_253) (by decide) rfl (fun h1 L1 S1 => ⟨L1, ?_⟩)
  refine sv_step (a := 254) (n := 5) S1 L1 hb (by omega) (by omega) (Lk L1 K_254) (Ln L1 N_254) (by decide) rfl (fun h2 L2 S2 => ⟨L2, ?_⟩)
  refine sv_step (a := 255) (n := 5) S2 L2 hb (by omega) (by omega) (Lk L2 K_255) (Ln L2 N_255) (by decide) rfl (fun h3 L3 S3 => ⟨L3, ?_⟩)
  exact sv_step (a := 256) (n := 5) S3 L3 hb (by omega) (by omega) (Lk L3 K_256) (Ln L3 N_256) (by decide) rfl (fun h4 L4 S4 => ⟨L4, hQ h4 L4 S4⟩)
theorem sv_p2 {b : Nat} {dn : Nat → Nat → Prop} {Q : HP → Prop} (S0 : Sv_ b h0 h 23 dn) (L0 : Lay h) (hb : b ≤ 2700) (hQ : ∀ h', Lay h' → Sv_ b h0 h' 41 (fun a' j => (((dn a' j ∨ (a' = 257 ∧ j < 6)) ∨ (a' = 260 ∧ j < 6)) ∨ (a' = 261 ∧ j < 6))) → Q h') : CallV g mX10_carryRow d (0, 0) [Value.ref 252, .ref 257] h (fun h1 => Lay h1 ∧ CallV g mX10_carryRow d (0, 0) [Value.ref 252, .ref 260] h1 (fun h2 => Lay h2 ∧ CallV g mX10_carryRow d (0, 0) [Value.ref 252, .ref 261] h2 (fun h3 => Lay h3 ∧ Q h3))) := by
  refine sv_step (a := 257) (n := 6) S0 L0 hb (by omega) (by omega) (Lk L0 K_257) (Ln L0 N_257) (by decide) rfl (fun h1 L1 S1 => ⟨L1, ?_⟩)
  refine sv_step (a := 260) (n := 6) S1 L1 hb (by omega) (by omega) (Lk L1 K_260) (Ln L1 N_260) (by decide) rfl (fun h2 L2 S2 => ⟨L2, ?_⟩)
  exact sv_step (a := 261) (n := 6) S2 L2 hb (by omega) (by omega) (Lk L2 K_261) (Ln L2 N_261) (by decide) rfl (fun h3 L3 S3 => ⟨L3, hQ h3 L3 S3⟩)
theorem sv_p3 {b : Nat} {dn : Nat → Nat → Prop} {Q : HP → Prop} (S0 : Sv_ b h0 h 42 dn) (L0 : Lay h) (hb : b ≤ 2700) (hQ : ∀ h', Lay h' → Sv_ b h0 h' 84 (fun a' j => (((((dn a' j ∨ (a' = 258 ∧ j < 6)) ∨ (a' = 259 ∧ j < 6)) ∨ (a' = 262 ∧ j < 10)) ∨ (a' = 263 ∧ j < 10)) ∨ (a' = 264 ∧ j < 10))) → Q h') : CallV g mX10_carryRow d (0, 0) [Value.ref 252, .ref 258] h (fun h1 => Lay h1 ∧ CallV g mX10_carryRow d (0, 0) [Value.ref 252, .ref 259] h1 (fun h2 => Lay h2 ∧ CallV g mX10_carryRow d (0, 0) [Value.ref 252, .ref 262] h2 (fun h3 => Lay h3 ∧ CallV g mX10_carryRow d (0, 0) [Value.ref 252, .ref 263] h3 (fun h4 => Lay h4 ∧ CallV g mX10_carryRow d (0, 0) [Value.ref 252, .ref 264] h4 (fun h5 => Lay h5 ∧ Q h5))))) := by
  refine sv_step (a := 258) (n := 6) S0 L0 hb (by omega) (by omega) (Lk L0 K_258) (Ln L0 N_258) (by decide) rfl (fun h1 L1 S1 => ⟨L1, ?_⟩)
  refine sv_step (a := 259) (n := 6) S1 L1 hb (by omega) (by omega) (Lk L1 K_259) (Ln L1 N_259) (by decide) rfl (fun h2 L2 S2 => ⟨L2, ?_⟩)
  refine sv_step (a := 262) (n := 10) S2 L2 hb (by omega) (by omega) (Lk L2 K_262) (Ln L2 N_262) (by decide) rfl (fun h3 L3 S3 => ⟨L3, ?_⟩)
  refine sv_step (a := 263) (n := 10) S3 L3 hb (by omega) (by omega) (Lk L3 K_263) (Ln L3 N_263) (by decide) rfl (fun h4 L4 S4 => ⟨L4, ?_⟩)
  exact sv_step (a := 264) (n := 10) S4 L4 hb (by omega) (by omega) (Lk L4 K_264) (Ln L4 N_264) (by decide) rfl (fun h5 L5 S5 => ⟨L5, hQ h5 L5 S5⟩)
theorem sv_p4 {b : Nat} {dn : Nat → Nat → Prop} {Q : HP → Prop} (S0 : Sv_ b h0 h 84 dn) (L0 : Lay h) (hb : b ≤ 2700) (hQ : ∀ h', Lay h' → Sv_ b h0 h' 785 (fun a' j => (((((dn a' j ∨ (a' = 265 ∧ j < 5)) ∨ (a' = 266 ∧ j < 5)) ∨ (a' = 267 ∧ j < 5)) ∨ (a' = 268 ∧ j < 6)) ∨ (a' = 290 ∧ j < 680))) → Q h') : CallV g mX10_carryRow d (0, 0) [Value.ref 252, .ref 265] h (fun h1 => Lay h1 ∧ CallV g mX10_carryRow d (0, 0) [Value.ref 252, .ref 266] h1 (fun h2 => Lay h2 ∧ CallV g mX10_carryRow d (0, 0) [Value.ref 252, .ref 267] h2 (fun h3 => Lay h3 ∧ CallV g mX10_carryRow d (0, 0) [Value.ref 252, .ref 268] h3 (fun h4 => Lay h4 ∧ CallV g mX10_carryRow d (0, 0) [Value.ref 252, .ref 290] h4 (fun h5 => Lay h5 ∧ Q h5))))) := by
  refine sv_step (a := 265) (n := 5) S0 L0 hb (by omega) (by omega) (Lk L0 K_265) (Ln L0 N_265) (by decide) rfl (fun h1 L1 S1 => ⟨L1, ?_⟩)
  refine sv_step (a := 266) (n := 5) S1 L1 hb (by omega) (by omega) (Lk L1 K_266) (Ln L1 N_266) (by decide) rfl (fun h2 L2 S2 => ⟨L2, ?_⟩)
  refine sv_step (a := 267) (n := 5) S2 L2 hb (by omega) (by omega) (Lk L2 K_267) (Ln L2 N_267) (by decide) rfl (fun h3 L3 S3 => ⟨L3, ?_⟩)
  refine sv_step (a := 268) (n := 6) S3 L3 hb (by omega) (by omega) (Lk L3 K_268) (Ln L3 N_268) (by decide) rfl (fun h4 L4 S4 => ⟨L4, ?_⟩)
  exact sv_step (a := 290) (n := 680) S4 L4 hb (by omega) (by omega) (Lk L4 K_290) (Ln L4 N_290) (by decide) rfl (fun h5 L5 S5 => ⟨L5, hQ h5 L5 S5⟩)
theorem bk_p1 {b : Nat} {dn : Nat → Nat → Prop} {Q : HP → Prop} (S0 : Bk_ b h0 h 0 dn) (L0 : Lay h) (hb : b ≤ 2700) (hd : ∀ a' j, dn a' j → ¬ a' = 253 ∧ ¬ a' = 254 ∧ ¬ a' = 255 ∧ ¬ a' = 256 ∧ ¬ a' = 252) (hQ : ∀ h', Lay h' → Bk_ b h0 h' 23 (fun a' j => ((((dn a' j ∨ (a' = 253 ∧ j < 8)) ∨ (a' = 254 ∧ j < 5)) ∨ (a' = 255 ∧ j < 5)) ∨ (a' = 256 ∧ j < 5))) → Q h') : CallV g mX10_carryRow d (0, 0) [Value.ref 252, .ref 253] h (fun h1 => Lay h1 ∧ CallV g mX10_carryRow d (0, 0) [Value.ref 252, .ref 254] h1 (fun h2 => Lay h2 ∧ CallV g mX10_carryRow d (0, 0) [Value.ref 252, .ref 255] h2 (fun h3 => Lay h3 ∧ CallV g mX10_carryRow d (0, 0) [Value.ref 252, .ref 256] h3 (fun h4 => Lay h4 ∧ Q h4)))) := by
  refine bk_step (a := 253) (n := 8) S0 L0 hb (by omega) (by omega) (Lk L0 K_253) (Ln L0 N_253) (by decide) rfl (fun j hj => by unfold usA; omega) (fun a' j w => by have := hd a' j w; omega) (fun h1 L1 S1 => ⟨L1, ?_⟩)
  refine bk_step (a := 254) (n := 5) S1 L1 hb (by omega) (by omega) (Lk L1 K_254) (Ln L1 N_254) (by decide) rfl (fun j hj => by unfold usA; omega) (fun a' j w => by
    have w : (dn a' j ∨ (a' = 253 ∧ j < 8)) := w
    rcases w with w | w
    · have := hd a' j w; omega
    · omega) (fun h2 L2 S2 => ⟨L2, ?_⟩)
  refine bk_step (a := 255) (n := 5) S2 L2 hb (by omega) (by omega) (Lk L2 K_255) (Ln L2 N_255) (by decide) rfl (fun j hj => by unfold usA; omega) (fun a' j w => by
    have w : ((dn a' j ∨ (a' = 253 ∧ j < 8)) ∨ (a' = 254 ∧ j < 5)) := w
    rcases w with (w | w) | w
    · have := hd a' j w; omega
    · omega
    · omega) (fun h3 L3 S3 => ⟨L3, ?_⟩)
  exact bk_step (a := 256) (n := 5) S3 L3 hb (by omega) (by omega) (Lk L3 K_256) (Ln L3 N_256) (by decide) rfl (fun j hj => by unfold usA; omega) (fun a' j w => by
    have w : (((dn a' j ∨ (a' = 253 ∧ j < 8)) ∨ (a' = 254 ∧ j < 5)) ∨ (a' = 255 ∧ j < 5)) := w
    rcases w with ((w | w) | w) | w
    · have := hd a' j w; omega
    · omega
    · omega
    · omega) (fun h4 L4 S4 => ⟨L4, hQ h4 L4 S4⟩)
theorem bk_p2 {b : Nat} {dn : Nat → Nat → Prop} {Q : HP → Prop} (S0 : Bk_ b h0 h 23 dn) (L0 : Lay h) (hb : b ≤ 2700) (hd : ∀ a' j, dn a' j → ¬ a' = 257 ∧ ¬ a' = 260 ∧ ¬ a' = 261 ∧ ¬ a' = 252) (hQ : ∀ h', Lay h' → Bk_ b h0 h' 41 (fun a' j => (((dn a' j ∨ (a' = 257 ∧ j < 6)) ∨ (a' = 260 ∧ j < 6)) ∨ (a' = 261 ∧ j < 6))) → Q h') : CallV g mX10_carryRow d (0, 0) [Value.ref 252, .ref 257] h (fun h1 => Lay h1 ∧ CallV g mX10_carryRow d (0, 0) [Value.ref 252, .ref 260] h1 (fun h2 => Lay h2 ∧ CallV g mX10_carryRow d (0, 0) [Value.ref 252, .ref 261] h2 (fun h3 => Lay h3 ∧ Q h3))) := by
  refine bk_step (a := 257) (n := 6) S0 L0 hb (by omega) (by omega) (Lk L0 K_257) (Ln L0 N_257) (by decide) rfl (fun j hj => by unfold usA; omega) (fun a' j w => by have := hd a' j w; omega) (fun h1 L1 S1 => ⟨L1, ?_⟩)
  refine bk_step (a := 260) (n := 6) S1 L1 hb (by omega) (by omega) (Lk L1 K_260) (Ln L1 N_260) (by decide) rfl (fun j hj => by unfold usA; omega) (fun a' j w => by
    have w : (dn a' j ∨ (a' = 257 ∧ j < 6)) := w
    rcases w with w | w
    · have := hd a' j w; omega
    · omega) (fun h2 L2 S2 => ⟨L2, ?_⟩)
  exact bk_step (a := 261) (n := 6) S2 L2 hb (by omega) (by omega) (Lk L2 K_261) (Ln L2 N_261) (by decide) rfl (fun j hj => by unfold usA; omega) (fun a' j w => by
    have w : ((dn a' j ∨ (a' = 257 ∧ j < 6)) ∨ (a' = 260 ∧ j < 6)) := w
    rcases w with (w | w) | w
    · have := hd a' j w; omega
    · omega
    · omega) (fun h3 L3 S3 => ⟨L3, hQ h3 L3 S3⟩)
theorem bk_p3 {b : Nat} {dn : Nat → Nat → Prop} {Q : HP → Prop} (S0 : Bk_ b h0 h 42 dn) (L0 : Lay h) (hb : b ≤ 2700) (hd : ∀ a' j, dn a' j → ¬ a' = 258 ∧ ¬ a' = 259 ∧ ¬ a' = 262 ∧ ¬ a' = 263 ∧ ¬ a' = 264 ∧ ¬ a' = 252) (hQ : ∀ h', Lay h' → Bk_ b h0 h' 84 (fun a' j => (((((dn a' j ∨ (a' = 258 ∧ j < 6)) ∨ (a' = 259 ∧ j < 6)) ∨ (a' = 262 ∧ j < 10)) ∨ (a' = 263 ∧ j < 10)) ∨ (a' = 264 ∧ j < 10))) → Q h') : CallV g mX10_carryRow d (0, 0) [Value.ref 252, .ref 258] h (fun h1 => Lay h1 ∧ CallV g mX10_carryRow d (0, 0) [Value.ref 252, .ref 259] h1 (fun h2 => Lay h2 ∧ CallV g mX10_carryRow d (0, 0) [Value.ref 252, .ref 262] h2 (fun h3 => Lay h3 ∧ CallV g mX10_carryRow d (0, 0) [Value.ref 252, .ref 263] h3 (fun h4 => Lay h4 ∧ CallV g mX10_carryRow d (0, 0) [Value.ref 252, .ref 264] h4 (fun h5 => Lay h5 ∧ Q h5))))) := by
  refine bk_step (a := 258) (n := 6) S0 L0 hb (by omega) (by omega) (Lk L0 K_258) (Ln L0 N_258) (by decide) rfl (fun j hj => by unfold usA; omega) (fun a' j w => by have := hd a' j w; omega) (fun h1 L1 S1 => ⟨L1, ?_⟩)
  refine bk_step (a := 259) (n := 6) S1 L1 hb (by omega) (by omega) (Lk L1 K_259) (Ln L1 N_259) (by decide) rfl (fun j hj => by unfold usA; omega) (fun a' j w => by
    have w : (dn a' j ∨ (a' = 258 ∧ j < 6)) := w
    rcases w with w | w
    · have := hd a' j w; omega
    · omega) (fun h2 L2 S2 => ⟨L2, ?_⟩)
  refine bk_step (a := 262) (n := 10) S2 L2 hb (by omega) (by omega) (Lk L2 K_262) (Ln L2 N_262) (by decide) rfl (fun j hj => by unfold usA; omega) (fun a' j w => by
    have w : ((dn a' j ∨ (a' = 258 ∧ j < 6)) ∨ (a' = 259 ∧ j < 6)) := w
    rcases w with (w | w) | w
    · have := hd a' j w; omega
    · omega
    · omega) (fun h3 L3 S3 => ⟨L3, ?_⟩)
  refine bk_step (a := 263) (n := 10) S3 L3 hb (by omega) (by omega) (Lk L3 K_263) (Ln L3 N_263) (by decide) rfl (fun j hj => by unfold usA; omega) (fun a' j w => by
    have w : (((dn a' j ∨ (a' = 258 ∧ j < 6)) ∨ (a' = 259 ∧ j < 6)) ∨ (a' = 262 ∧ j < 10)) := w
    rcases w with ((w | w) | w) | w
    · have := hd a' j w; omega
    · omega
    · omega
    · omega) (fun h4 L4 S4 => ⟨L4, ?_⟩)
  exact bk_step (a := 264) (n := 10) S4 L4 hb (by omega) (by omega) (Lk L4 K_264) (Ln L4 N_264) (by decide) rfl (fun j hj => by unfold usA; omega) (fun a' j w => by
    have w : ((((dn a' j ∨ (a' = 258 ∧ j < 6)) ∨ (a' = 259 ∧ j < 6)) ∨ (a' = 262 ∧ j < 10)) ∨ (a' = 263 ∧ j < 10)) := w
    rcases w with (((w | w) | w) | w) | w
    · have := hd a' j w; omega
    · omega
    · omega
    · omega
    · omega) (fun h5 L5 S5 => ⟨L5, hQ h5 L5 S5⟩)
theorem bk_p4 {b : Nat} {dn : Nat → Nat → Prop} {Q : HP → Prop} (S0 : Bk_ b h0 h 84 dn) (L0 : Lay h) (hb : b ≤ 2700) (hd : ∀ a' j, dn a' j → ¬ a' = 265 ∧ ¬ a' = 266 ∧ ¬ a' = 267 ∧ ¬ a' = 268 ∧ ¬ a' = 290 ∧ ¬ a' = 252) (hQ : ∀ h', Lay h' → Bk_ b h0 h' 785 (fun a' j => (((((dn a' j ∨ (a' = 265 ∧ j < 5)) ∨ (a' = 266 ∧ j < 5)) ∨ (a' = 267 ∧ j < 5)) ∨ (a' = 268 ∧ j < 6)) ∨ (a' = 290 ∧ j < 680))) → Q h') : CallV g mX10_carryRow d (0, 0) [Value.ref 252, .ref 265] h (fun h1 => Lay h1 ∧ CallV g mX10_carryRow d (0, 0) [Value.ref 252, .ref 266] h1 (fun h2 => Lay h2 ∧ CallV g mX10_carryRow d (0, 0) [Value.ref 252, .ref 267] h2 (fun h3 => Lay h3 ∧ CallV g mX10_carryRow d (0, 0) [Value.ref 252, .ref 268] h3 (fun h4 => Lay h4 ∧ CallV g mX10_carryRow d (0, 0) [Value.ref 252, .ref 290] h4 (fun h5 => Lay h5 ∧ Q h5))))) := by
  refine bk_step (a := 265) (n := 5) S0 L0 hb (by omega) (by omega) (Lk L0 K_265) (Ln L0 N_265) (by decide) rfl (fun j hj => by unfold usA; omega) (fun a' j w => by have := hd a' j w; omega) (fun h1 L1 S1 => ⟨L1, ?_⟩)
  refine bk_step (a := 266) (n := 5) S1 L1 hb (by omega) (by omega) (Lk L1 K_266) (Ln L1 N_266) (by decide) rfl (fun j hj => by unfold usA; omega) (fun a' j w => by
    have w : (dn a' j ∨ (a' = 265 ∧ j < 5)) := w
    rcases w with w | w
    · have := hd a' j w; omega
    · omega) (fun h2 L2 S2 => ⟨L2, ?_⟩)
  refine bk_step (a := 267) (n := 5) S2 L2 hb (by omega) (by omega) (Lk L2 K_267) (Ln L2 N_267) (by decide) rfl (fun j hj => by unfold usA; omega) (fun a' j w => by
    have w : ((dn a' j ∨ (a' = 265 ∧ j < 5)) ∨ (a' = 266 ∧ j < 5)) := w
    rcases w with (w | w) | w
    · have := hd a' j w; omega
    · omega
    · omega) (fun h3 L3 S3 => ⟨L3, ?_⟩)
  refine bk_step (a := 268) (n := 6) S3 L3 hb (by omega) (by omega) (Lk L3 K_268) (Ln L3 N_268) (by decide) rfl (fun j hj => by unfold usA; omega) (fun a' j w => by
    have w : (((dn a' j ∨ (a' = 265 ∧ j < 5)) ∨ (a' = 266 ∧ j < 5)) ∨ (a' = 267 ∧ j < 5)) := w
    rcases w with ((w | w) | w) | w
    · have := hd a' j w; omega
    · omega
    · omega
    · omega) (fun h4 L4 S4 => ⟨L4, ?_⟩)
  exact bk_step (a := 290) (n := 680) S4 L4 hb (by omega) (by omega) (Lk L4 K_290) (Ln L4 N_290) (by decide) rfl (fun j hj => by unfold usA; omega) (fun a' j w => by
    have w : ((((dn a' j ∨ (a' = 265 ∧ j < 5)) ∨ (a' = 266 ∧ j < 5)) ∨ (a' = 267 ∧ j < 5)) ∨ (a' = 268 ∧ j < 6)) := w
    rcases w with (((w | w) | w) | w) | w
    · have := hd a' j w; omega
    · omega
    · omega
    · omega
    · omega) (fun h5 L5 S5 => ⟨L5, hQ h5 L5 S5⟩)
theorem us_all {a j : Nat} (w : usA a j) : (((((((((((((((((False ∨ (a = 253 ∧ j < 8)) ∨ (a = 254 ∧ j < 5)) ∨ (a = 255 ∧ j < 5)) ∨ (a = 256 ∧ j < 5)) ∨ (a = 257 ∧ j < 6)) ∨ (a = 260 ∧ j < 6)) ∨ (a = 261 ∧ j < 6)) ∨ (a = 258 ∧ j < 6)) ∨ (a = 259 ∧ j < 6)) ∨ (a = 262 ∧ j < 10)) ∨ (a = 263 ∧ j < 10)) ∨ (a = 264 ∧ j < 10)) ∨ (a = 265 ∧ j < 5)) ∨ (a = 266 ∧ j < 5)) ∨ (a = 267 ∧ j < 5)) ∨ (a = 268 ∧ j < 6)) ∨ (a = 290 ∧ j < 680)) := by
  unfold usA at w
  rcases w with ⟨rfl, w⟩ | ⟨⟨q1, q2⟩, w⟩ | ⟨⟨q1, q2⟩, w⟩ | ⟨⟨q1, q2⟩, w⟩ | ⟨⟨q1, q2⟩, w⟩ | ⟨rfl, w⟩ | ⟨rfl, w⟩
  · exact Or.inl (Or.inl (Or.inl (Or.inl (Or.inl (Or.inl (Or.inl (Or.inl (Or.inl (Or.inl (Or.inl (Or.inl (Or.inl (Or.inl (Or.inl (Or.inl (Or.inr ⟨rfl, w⟩))))))))))))))))
  · rcases (show a = 254 ∨ a = 255 ∨ a = 256 by omega) with rfl | rfl | rfl
    · exact Or.inl (Or.inl (Or.inl (Or.inl (Or.inl (Or.inl (Or.inl (Or.inl (Or.inl (Or.inl (Or.inl (Or.inl (Or.inl (Or.inl (Or.inl (Or.inr ⟨rfl, w⟩)))))))))))))))
    · exact Or.inl (Or.inl (Or.inl (Or.inl (Or.inl (Or.inl (Or.inl (Or.inl (Or.inl (Or.inl (Or.inl (Or.inl (Or.inl (Or.inl (Or.inr ⟨rfl, w⟩))))))))))))))
    · exact Or.inl (Or.inl (Or.inl (Or.inl (Or.inl (Or.inl (Or.inl (Or.inl (Or.inl (Or.inl (Or.inl (Or.inl (Or.inl (Or.inr ⟨rfl, w⟩)))))))))))))
  · rcases (show a = 257 ∨ a = 258 ∨ a = 259 ∨ a = 260 ∨ a = 261 by omega) with rfl | rfl | rfl | rfl | rfl
    · exact Or.inl (Or.inl (Or.inl (Or.inl (Or.inl (Or.inl (Or.inl (Or.inl (Or.inl (Or.inl (Or.inl (Or.inl (Or.inr ⟨rfl, w⟩))))))))))))
    · exact Or.inl (Or.inl (Or.inl (Or.inl (Or.inl (Or.inl (Or.inl (Or.inl (Or.inl (Or.inr ⟨rfl, w⟩)))))))))
    · exact Or.inl (Or.inl (Or.inl (Or.inl (Or.inl (Or.inl (Or.inl (Or.inl (Or.inr ⟨rfl, w⟩))))))))
    · exact Or.inl (Or.inl (Or.inl (Or.inl (Or.inl (Or.inl (Or.inl (Or.inl (Or.inl (Or.inl (Or.inl (Or.inr ⟨rfl, w⟩)))))))))))
    · exact Or.inl (Or.inl (Or.inl (Or.inl (Or.inl (Or.inl (Or.inl (Or.inl (Or.inl (Or.inl (Or.inr ⟨rfl, w⟩))))))))))
  · rcases (show a = 262 ∨ a = 263 ∨ a = 264 by omega) with rfl | rfl | rfl
    · exact Or.inl (Or.inl (Or.inl (Or.inl (Or.inl (Or.inl (Or.inl (Or.inr ⟨rfl, w⟩)))))))
    · exact Or.inl (Or.inl (Or.inl (Or.inl (Or.inl (Or.inl (Or.inr ⟨rfl, w⟩))))))
    · exact Or.inl (Or.inl (Or.inl (Or.inl (Or.inl (Or.inr ⟨rfl, w⟩)))))
  · rcases (show a = 265 ∨ a = 266 ∨ a = 267 by omega) with rfl | rfl | rfl
    · exact Or.inl (Or.inl (Or.inl (Or.inl (Or.inr ⟨rfl, w⟩))))
    · exact Or.inl (Or.inl (Or.inl (Or.inr ⟨rfl, w⟩)))
    · exact Or.inl (Or.inl (Or.inr ⟨rfl, w⟩))
  · exact Or.inl (Or.inr ⟨rfl, w⟩)
  · exact Or.inr ⟨rfl, w⟩
theorem m_imageS {k b : Nat} {Q : HP → Prop} (L : Lay h) (hk : k < 4) (hb : b = 900 * k) (hQ : ∀ h', Lay h' → FrC (ASv b) h h' → hI h' 299 (b + 41) = hI h 252 51 → (∀ a j, usA a j → hI h' 299 (b + offA a + j) = hI h a j) → Q h') : CallV g mX10_carriesAll (d + 1) (0, 0) [.ref 252, .int (nI k), .int 0] h Q := by
  have hb7 : b ≤ 2700 := by omega
  refine wX10_carriesAll_0 _ _ L ⟨rfl, ?_⟩
  rw [show (900 : Int32) * nI k = nI b by rw [show (900 : Int32) = nI 900 from rfl, pk_mul, hb]]
  have S0 : Sv_ b h (setI (setI h 252 63 (nI b)) 252 64 0) 0 (fun _ _ => False) := ⟨(FrC.stI (by unfold ASv; omega)).tr (FrC.stI (by unfold ASv; omega)), rfl, rfl, fun _ _ w => absurd w id, fun w => absurd w (by omega)⟩
  have L0 : Lay (setI (setI h 252 63 (nI b)) 252 64 0) := L.to rfl rfl rfl
  refine sv_p1 S0 L0 hb7 (fun h4 L4 S4 => ?_)
  refine sv_p2 S4 L4 hb7 (fun h7 L7 S7 => ?_)
  obtain ⟨s1, s2, s3, s4, s5⟩ := S7
  refine ⟨fun z => absurd ((nI_eq (a := k) (b := 4) (by omega) (by omega)).mp z) (by omega), fun _ => ?_⟩
  have fA : FrC (fun x _ => x = 291) h7 (setI h7 291 0 (hI h7 252 51)) := FrC.stI rfl
  have gA : hI (setI h7 291 0 (hI h7 252 51)) 291 0 = hI h7 252 51 := rdI
  have LA := fA.lay L7
  refine m_carrySave (n := 1) LA (Lk LA K_291) (Ln LA N_291) (by omega) (by omega) (by omega) ((fA.I (by omega)).trans s3) ((fA.I (by omega)).trans s2) (fun hB fB eB cB => ⟨fB.lay LA, ?_⟩)
  have LB := fB.lay LA
  have e51 : hI hB 291 0 = hI hB 252 51 := by rw [fB.I (by omega), gA, fB.I (by omega), fA.I (by omega)]
  have S8 : Sv_ b h (setI hB 252 51 (hI hB 291 0)) 42 (fun a' j => (((((((False ∨ (a' = 253 ∧ j < 8)) ∨ (a' = 254 ∧ j < 5)) ∨ (a' = 255 ∧ j < 5)) ∨ (a' = 256 ∧ j < 5)) ∨ (a' = 257 ∧ j < 6)) ∨ (a' = 260 ∧ j < 6)) ∨ (a' = 261 ∧ j < 6))) := by
    refine ⟨((s1.tr (fA.wd (fun x k w => by unfold ASv; omega))).tr (fB.wd (fun x k w => by unfold ASv; omega))).tr (FrC.same e51), ?_, ?_, fun a' j w => ?_, fun _ => ?_⟩
    · rw [rdn (by omega), eB]
    · rw [rdn (by omega), fB.I (by omega), fA.I (by omega)]; exact s3
    · have := s4 a' j w
      exact ⟨by omega, by rw [rdn (by omega), fB.I (by omega), fA.I (by omega)]; exact this.2⟩
    · rw [rdn (by omega)]
      have := cB 0 (by omega)
      rw [show b + 41 = b + 41 + 0 from rfl, this, gA]
      exact s1.I (by unfold ASv; omega)
  have L8 : Lay (setI hB 252 51 (hI hB 291 0)) := LB.to rfl rfl rfl
  refine sv_p3 S8 L8 hb7 (fun h13 L13 S13 => ?_)
  refine sv_p4 S13 L13 hb7 (fun h18 L18 S18 => ?_)
  refine hQ _ L18 S18.1 (S18.2.2.2.2 (by omega)) (fun a j w => ?_)
  
  have w' := us_all w
  exact (S18.2.2.2.1 a j w').2
theorem m_imageB {k b : Nat} {Q : HP → Prop} (L : Lay h) (hk : k < 4) (hb : b = 900 * k) (hQ : ∀ h', Lay h' → FrC ABk h h' → hI h' 252 51 = hI h 299 (b + 41) → (∀ a j, usA a j → hI h' a j = hI h 299 (b + offA a + j)) → Q h') : CallV g mX10_carriesAll (d + 1) (0, 0) [.ref 252, .int (nI k), .int 1] h Q := by
  have hb7 : b ≤ 2700 := by omega
  refine wX10_carriesAll_0 _ _ L ⟨rfl, ?_⟩
  rw [show (900 : Int32) * nI k = nI b by rw [show (900 : Int32) = nI 900 from rfl, pk_mul, hb]]
  have S0 : Bk_ b h (setI (setI h 252 63 (nI b)) 252 64 1) 0 (fun _ _ => False) := ⟨(FrC.stI (by unfold ABk usA; omega)).tr (FrC.stI (by unfold ABk usA; omega)), rfl, rfl, fun _ _ w => absurd w id, fun w => absurd w (by omega)⟩
  have L0 : Lay (setI (setI h 252 63 (nI b)) 252 64 1) := L.to rfl rfl rfl
  refine bk_p1 S0 L0 hb7 (fun a' j w => absurd w id) (fun h4 L4 S4 => ?_)
  refine bk_p2 S4 L4 hb7 (fun a' j w => by
    have w : ((((False ∨ (a' = 253 ∧ j < 8)) ∨ (a' = 254 ∧ j < 5)) ∨ (a' = 255 ∧ j < 5)) ∨ (a' = 256 ∧ j < 5)) := w
    rcases w with (((w | w) | w) | w) | w
    · exact absurd w id
    · omega
    · omega
    · omega
    · omega) (fun h7 L7 S7 => ?_)
  obtain ⟨s1, s2, s3, s4, s5⟩ := S7
  refine ⟨fun z => absurd ((nI_eq (a := k) (b := 4) (by omega) (by omega)).mp z) (by omega), fun _ => ?_⟩
  have fA : FrC (fun x _ => x = 291) h7 (setI h7 291 0 (hI h7 252 51)) := FrC.stI rfl
  have gA : hI (setI h7 291 0 (hI h7 252 51)) 291 0 = hI h7 252 51 := rdI
  have LA := fA.lay L7
  refine m_carryBack (n := 1) LA (Lk LA K_291) (Ln LA N_291) (by omega) (by omega) (by omega) ((fA.I (by omega)).trans s3) ((fA.I (by omega)).trans s2) (fun hB fB eB cB => ⟨fB.lay LA, ?_⟩)
  have LB := fB.lay LA
  have e51 : hI hB 291 0 = hI h 299 (b + 41) := by
    rw [cB 0 (by omega), fA.I (by omega)]
    exact s1.I (by unfold ABk usA; omega)
  have S8 : Bk_ b h (setI hB 252 51 (hI hB 291 0)) 42 (fun a' j => (((((((False ∨ (a' = 253 ∧ j < 8)) ∨ (a' = 254 ∧ j < 5)) ∨ (a' = 255 ∧ j < 5)) ∨ (a' = 256 ∧ j < 5)) ∨ (a' = 257 ∧ j < 6)) ∨ (a' = 260 ∧ j < 6)) ∨ (a' = 261 ∧ j < 6))) := by
    refine ⟨((s1.tr (fA.wd (fun x k w => by unfold ABk; omega))).tr (fB.wd (fun x k w => by unfold ABk; omega))).tr (FrC.stI (by unfold ABk; omega)), ?_, ?_, fun a' j w => ?_, fun _ => ?_⟩
    · rw [rdn (by omega), eB]
    · rw [rdn (by omega), fB.I (by omega), fA.I (by omega)]; exact s3
    · have nn : ¬ a' = 252 ∧ ¬ a' = 291 := by
        have w : (((((((False ∨ (a' = 253 ∧ j < 8)) ∨ (a' = 254 ∧ j < 5)) ∨ (a' = 255 ∧ j < 5)) ∨ (a' = 256 ∧ j < 5)) ∨ (a' = 257 ∧ j < 6)) ∨ (a' = 260 ∧ j < 6)) ∨ (a' = 261 ∧ j < 6)) := w
        rcases w with ((((((w | w) | w) | w) | w) | w) | w) | w
        · exact absurd w id
        · omega
        · omega
        · omega
        · omega
        · omega
        · omega
        · omega
      rw [rdn (by omega), fB.I (by omega), fA.I (by omega)]; exact s4 a' j w
    · rw [rdI]; exact e51
  have L8 : Lay (setI hB 252 51 (hI hB 291 0)) := LB.to rfl rfl rfl
  refine bk_p3 S8 L8 hb7 (fun a' j w => by
    have w : (((((((False ∨ (a' = 253 ∧ j < 8)) ∨ (a' = 254 ∧ j < 5)) ∨ (a' = 255 ∧ j < 5)) ∨ (a' = 256 ∧ j < 5)) ∨ (a' = 257 ∧ j < 6)) ∨ (a' = 260 ∧ j < 6)) ∨ (a' = 261 ∧ j < 6)) := w
    rcases w with ((((((w | w) | w) | w) | w) | w) | w) | w
    · exact absurd w id
    · omega
    · omega
    · omega
    · omega
    · omega
    · omega
    · omega) (fun h13 L13 S13 => ?_)
  refine bk_p4 S13 L13 hb7 (fun a' j w => by
    have w : ((((((((((((False ∨ (a' = 253 ∧ j < 8)) ∨ (a' = 254 ∧ j < 5)) ∨ (a' = 255 ∧ j < 5)) ∨ (a' = 256 ∧ j < 5)) ∨ (a' = 257 ∧ j < 6)) ∨ (a' = 260 ∧ j < 6)) ∨ (a' = 261 ∧ j < 6)) ∨ (a' = 258 ∧ j < 6)) ∨ (a' = 259 ∧ j < 6)) ∨ (a' = 262 ∧ j < 10)) ∨ (a' = 263 ∧ j < 10)) ∨ (a' = 264 ∧ j < 10)) := w
    rcases w with (((((((((((w | w) | w) | w) | w) | w) | w) | w) | w) | w) | w) | w) | w
    · exact absurd w id
    · omega
    · omega
    · omega
    · omega
    · omega
    · omega
    · omega
    · omega
    · omega
    · omega
    · omega
    · omega) (fun h18 L18 S18 => ?_)
  refine hQ _ L18 S18.1 (S18.2.2.2.2 (by omega)) (fun a j w => ?_)
  
  have w' := us_all w
  exact S18.2.2.2.1 a j w'
theorem m_image {x : Int32} {Q : Int32 → HP → Prop} (L : Lay h) (H : MLv (hI h) (hI h 252 51) l) (hO : LdOK l cnt) (no : (∀ k, k < 4 → ¬ x = nI k) → Q (-1) h) (yes : ∀ k, k < 4 → x = nI k → ∀ h', FrC (fun x c => ASv (900 * k) x c ∨ (x = 300 ∧ c = k)) h h' → ¬ hI h' 300 k = 0 → MLv (imV h' k) (hI h' 299 (900 * k + 41)) l → Q (nI (l.1.1.1 4)) h') : CallI g mX10_image (d + 2) [.ref 252, .int x] h Q := by
  refine wX10_image_0 _ L (m_in L (a := 0) (b := 3) rfl rfl (by decide) (by decide) (fun k k1 k2 ek => ⟨L, fun z => absurd z (by decide), fun _ => ?_⟩) (fun nin => ⟨L, fun _ => no (fun k hk ek => nin (by rw [ek]; exact IN_j (by omega) (by omega) (by decide))), fun z => absurd rfl z⟩))
  subst ek
  rw [nI_clamp (n := k) (by omega)]
  have f1 : FrC (fun x c => x = 300 ∧ c = k) h (setI h 300 k (vp_nar .boolean 1)) := FrC.stI ⟨rfl, rfl⟩
  have g1 : hI (setI h 300 k (vp_nar .boolean 1)) 300 k = 1 := rdI
  generalize setI h 300 k (vp_nar .boolean 1) = h1 at f1 g1 ⊢
  refine ⟨vn (by omega) (by omega), m_imageS (d := d) (f1.lay L) (by omega) rfl (fun h2 L2 f2 e2 c2 => ⟨L2, ?_⟩)⟩
  have e4 : hI h2 253 4 = nI (l.1.1.1 4) := by rw [f2.I (by unfold ASv; omega), f1.I (by omega)]; exact H.1 4 (by omega)
  rw [e4]
  refine yes k (by omega) rfl h2 ((f1.wd (fun x c w => Or.inr w)).tr (f2.wd (fun x c w => Or.inl w))) ?_ (H.to hO (fun a j w => ?_) ?_)
  · rw [f2.I (by unfold ASv; omega), g1]; decide
  · unfold imV
    rw [c2 a j w]
    exact f1.I (by unfold usA at w; omega)
  · rw [e2]; exact f1.I (by omega)
theorem m_back {x : Int32} {Q : Int32 → HP → Prop} (L : Lay h) (H : ∀ k, k < 4 → ¬ hI h 300 k = 0 → ∃ l c, MLv (imV h k) (hI h 299 (900 * k + 41)) l ∧ LdOK l c) (no : (∀ k, k < 4 → x = nI k → hI h 300 k = 0) → Q (-1) h) (yes : ∀ k, k < 4 → x = nI k → ¬ hI h 300 k = 0 → ∀ l c, MLv (imV h k) (hI h 299 (900 * k + 41)) l → LdOK l c → ∀ h', FrC ABk h h' → MLv (hI h') (hI h' 252 51) l → Q (nI (l.1.1.1 4)) h') : CallI g mX10_back (d + 2) [.ref 252, .int x] h Q := by
  refine wX10_back_0 _ L (m_in L (a := 0) (b := 3) rfl rfl (by decide) (by decide) (fun k k1 k2 ek => ⟨L, fun z => absurd z (by decide), fun _ => ?_⟩) (fun nin => ⟨L, fun _ => no (fun k hk ek => absurd (show IN x 0 3 by rw [ek]; exact IN_j (by omega) (by omega) (by decide)) nin), fun z => absurd rfl z⟩))
  subst ek
  rw [nI_clamp (n := k) (by omega)]
  refine ⟨vn (by omega) (by omega), fun z => no (fun k' hk' ek' => ?_), fun z => ?_⟩
  · have := (nI_eq (by omega) (by omega)).mp ek'
    subst this
    exact z
  · obtain ⟨l, c, M, O⟩ := H k (by omega) z
    refine m_imageB (d := d) L (by omega) rfl (fun h2 L2 f2 e2 c2 => ⟨L2, ?_⟩)
    have M2 : MLv (hI h2) (hI h2 252 51) l := M.to O (fun a j w => by rw [c2 a j w]; rfl) e2
    rw [M2.1 4 (by omega)]
    exact yes k (by omega) rfl z l c M O h2 f2 M2
end MIM
