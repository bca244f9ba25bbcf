/-! the TAPE on both sides -/
theorem byI8 : ∀ v : Fin 256, (Int8.ofNat v.val).toInt32 = byI v.val := by decide +kernel
theorem lowb (w : Int32) : w &&& 255 = nI (w.toBitVec.toNat % 256) := by
  apply Int32.toBitVec_inj.mp
  apply BitVec.eq_of_toNat_eq
  have : (255 : Int32).toBitVec = 255#32 := rfl
  rw [Int32.toBitVec_and, this, BitVec.toNat_and]
  show w.toBitVec.toNat &&& 255 = (BitVec.ofNat 32 (w.toBitVec.toNat % 256)).toNat
  rw [BitVec.toNat_ofNat, show (255 : Nat) = 2 ^ 8 - 1 from rfl, Nat.and_two_pow_sub_one_eq_mod]
  have : w.toBitVec.toNat % 256 < 256 := Nat.mod_lt _ (by decide)
  rw [Nat.mod_eq_of_lt (a := w.toBitVec.toNat % 256) (by omega)]
theorem low8 (w : Int32) : w.toInt8.toInt32 = byI (w.toBitVec.toNat % 256) := by
  have e : w.toInt8 = Int8.ofNat (w.toBitVec.toNat % 256) := by
    apply Int8.toBitVec_inj.mp
    apply BitVec.eq_of_toNat_eq
    show (w.toBitVec.signExtend 8).toNat = (BitVec.ofNat 8 (w.toBitVec.toNat % 256)).toNat
    rw [BitVec.signExtend_eq_setWidth_of_le _ (by decide), BitVec.toNat_setWidth, BitVec.toNat_ofNat]
    omega
  rw [e]
  exact byI8 ⟨w.toBitVec.toNat % 256, Nat.mod_lt _ (by decide)⟩
theorem shr_lo (x : BitVec 32) (s : Nat) (hs : s ≤ 24) : (x.sshiftRight s).toNat % 256 = (x >>> s).toNat % 256 := by
  have : (x.sshiftRight s).setWidth 8 = (x >>> s).setWidth 8 := by
    apply BitVec.eq_of_getLsbD_eq
    intro i hi
    rw [BitVec.getLsbD_setWidth, BitVec.getLsbD_setWidth, BitVec.getLsbD_sshiftRight, BitVec.getLsbD_ushiftRight]
    have a1 : ¬ 32 ≤ i := by omega
    have a2 : s + i < 32 := by omega
    simp [hi, a1, a2]
  have := congrArg BitVec.toNat this
  rw [BitVec.toNat_setWidth, BitVec.toNat_setWidth] at this
  exact this
/-- a byte of a number -/
def byt (x : Int32) (s : Nat) : Nat := (x.toBitVec >>> s).toNat % 256
theorem byt_c (x : Int32) : ((x.toUInt32 >>> ((24 : Int32).toUInt32 &&& (Int32.toUInt32 31))).toInt32 &&& 255 = nI (byt x 24)) ∧ ((x.toUInt32 >>> ((16 : Int32).toUInt32 &&& (Int32.toUInt32 31))).toInt32 &&& 255 = nI (byt x 16)) ∧ ((x.toUInt32 >>> ((8 : Int32).toUInt32 &&& (Int32.toUInt32 31))).toInt32 &&& 255 = nI (byt x 8)) ∧ ((x.toUInt32 >>> ((0 : Int32).toUInt32 &&& (Int32.toUInt32 31))).toInt32 &&& 255 = nI (byt x 0)) := by
  rw [lowb, lowb, lowb, lowb]
  exact ⟨rfl, rfl, rfl, rfl⟩
theorem byt_m (x : Int32) : (vp_nar .byte (x >>> ((24 : Int32) &&& 31)).toInt8.toInt32 = byI (byt x 24)) ∧ (vp_nar .byte (x >>> ((16 : Int32) &&& 31)).toInt8.toInt32 = byI (byt x 16)) ∧ (vp_nar .byte (x >>> ((8 : Int32) &&& 31)).toInt8.toInt32 = byI (byt x 8)) ∧ (vp_nar .byte (x >>> ((0 : Int32) &&& 31)).toInt8.toInt32 = byI (byt x 0)) := by
  have n8 : ∀ v : Fin 256, vp_nar .byte (byI v.val) = byI v.val := by decide +kernel
  have n8' : ∀ m, vp_nar .byte (byI (m % 256)) = byI (m % 256) := fun m => n8 ⟨m % 256, Nat.mod_lt _ (by decide)⟩
  rw [low8, low8, low8, low8, n8', n8', n8', n8']
  refine ⟨?_, ?_, ?_, ?_⟩
  · exact congrArg byI (shr_lo x.toBitVec 24 (by omega))
  · exact congrArg byI (shr_lo x.toBitVec 16 (by omega))
  · exact congrArg byI (shr_lo x.toBitVec 8 (by omega))
  · exact congrArg byI (shr_lo x.toBitVec 0 (by omega))
def TpC (T : Nat → Nat) (n : Nat) (h : HP) : Prop := n ≤ 400 ∧ hI h 0 1 = nI n ∧ (∀ i, i < n → hI h 1 i = nI (T i)) ∧ ∀ i, i < n → T i < 256
def TpM (T : Nat → Nat) (n : Nat) (h : HP) : Prop := n ≤ 400 ∧ hI h 252 24 = nI n ∧ (∀ i, i < n → hI h 276 i = byI (T i)) ∧ ∀ i, i < n → T i < 256
def tpp4 (T : Nat → Nat) (n : Nat) (x : Int32) : Nat → Nat := fun i => if i = n + 3 then byt x 0 else if i = n + 2 then byt x 8 else if i = n + 1 then byt x 16 else if i = n then byt x 24 else T i
theorem byt_lt (x : Int32) (s : Nat) : byt x s < 256 := Nat.mod_lt _ (by decide)
theorem tpp4_lt {T : Nat → Nat} {n : Nat} {x : Int32} (h : ∀ i, i < n → T i < 256) : ∀ i, i < n + 4 → tpp4 T n x i < 256 := fun i hi => by
  unfold tpp4
  have := byt_lt x
  (repeat' split) <;> first | exact this _ | exact h i (by omega)
section TP
variable {g : GT} {d n : Nat} {T : Nat → Nat} {h : HP}
theorem c_append {x : Int32} {Q : HP → Prop} (L : Lay h) (H : TpC T n h) (hn : n + 4 ≤ 400) (hQ : ∀ h', FrC (fun x k => (x = 0 ∧ k = 1) ∨ x = 1) h h' → TpC (tpp4 T n x) (n + 4) h' → Q h') : CallV g mX9_append d (0, 0) [.ref 0, .int x] h Q := by
  obtain ⟨-, e01, eT, lT⟩ := H
  obtain ⟨c24, c16, c8, c0⟩ := byt_c x
  have stp1 : ∀ (m : Nat) (s s' : Int32) (v : Int32) (h1 : HP), m < 400 → FrC (fun x k => (x = 0 ∧ k = 1) ∨ x = 1) h h1 → hI h1 0 1 = nI m → ¬ s < 0 → s + (-8) = s' → (x.toUInt32 >>> (s.toUInt32 &&& (Int32.toUInt32 31))).toInt32 &&& 255 = v → (∀ h2, FrC (fun x k => (x = 0 ∧ k = 1) ∨ x = 1) h h2 → hI h2 0 1 = nI (m + 1) → hI h2 1 m = v → (∀ j, ¬ j = m → hI h2 1 j = hI h1 1 j) → Sat g mX9_append d (0, 0) (qV Q) 3 [.ref 0, .int x, .int s'] [] h2) → Sat g mX9_append d (0, 0) (qV Q) 3 [.ref 0, .int x, .int s] [] h1 := by
    intro m s s' v h1 hm f1 e1 hs es ev K
    refine wX9_append_3 _ _ (f1.lay L) ⟨fun w => absurd w hs, fun _ => ⟨fun w => ?_, fun _ => ?_⟩⟩
    · rw [e1] at w; exact absurd w (nI_ge (a := m) (b := 400) hm (by omega))
    · rw [e1, nI_clamp (n := m) (by omega), nI_1, es, ev]
      refine ⟨vn (by omega) (by omega), K _ (f1.tr ((FrC.stI (by omega)).tr (FrC.stI (by omega)))) rdI ?_ (fun j hj => ?_)⟩
      · rw [rdn (by omega), rdI]
      · rw [rdn (by omega), rdn (by omega)]
  refine wX9_append_0 _ L ?_
  refine stp1 n 24 16 _ h (by omega) (FrC.rf h) e01 (by decide) (by decide) c24 (fun h1 f1 e1 v1 j1 => ?_)
  refine stp1 (n + 1) 16 8 _ h1 (by omega) f1 e1 (by decide) (by decide) c16 (fun h2 f2 e2 v2 j2 => ?_)
  refine stp1 (n + 2) 8 0 _ h2 (by omega) f2 e2 (by decide) (by decide) c8 (fun h3 f3 e3 v3 j3 => ?_)
  refine stp1 (n + 3) 0 (-8) _ h3 (by omega) f3 e3 (by decide) (by decide) c0 (fun h4 f4 e4 v4 j4 => ?_)
  refine wX9_append_3 _ _ (f4.lay L) ⟨fun _ => hQ h4 f4 ⟨by omega, e4, fun i hi => ?_, tpp4_lt lT⟩, fun w => absurd (by decide) w⟩
  unfold tpp4
  by_cases q3 : i = n + 3
  · rw [if_pos q3, q3]; exact v4
  rw [if_neg q3, j4 i q3]
  by_cases q2 : i = n + 2
  · rw [if_pos q2, q2]; exact v3
  rw [if_neg q2, j3 i q2]
  by_cases q1 : i = n + 1
  · rw [if_pos q1, q1]; exact v2
  rw [if_neg q1, j2 i q1]
  by_cases q0 : i = n
  · rw [if_pos q0, q0]; exact v1
  rw [if_neg q0, j1 i q0]
  exact eT i (by omega)
theorem m_put {x : Int32} {Q : HP → Prop} (L : Lay h) (H : TpM T n h) (hn : n + 4 ≤ 400) (hQ : ∀ h', FrC (fun x k => (x = 252 ∧ k = 24) ∨ x = 276) h h' → TpM (tpp4 T n x) (n + 4) h' → Q h') : CallV g mX10_put d (0, 0) [.ref 252, .int x] h Q := by
  obtain ⟨-, e01, eT, lT⟩ := H
  obtain ⟨c24, c16, c8, c0⟩ := byt_m x
  have stp1 : ∀ (m : Nat) (s s' : Int32) (v : Int32) (h1 : HP), m < 400 → FrC (fun x k => (x = 252 ∧ k = 24) ∨ x = 276) h h1 → hI h1 252 24 = nI m → ¬ s < 0 → s + (-8) = s' → vp_nar .byte (x >>> (s &&& 31)).toInt8.toInt32 = v → (∀ h2, FrC (fun x k => (x = 252 ∧ k = 24) ∨ x = 276) h h2 → hI h2 252 24 = nI (m + 1) → hI h2 276 m = v → (∀ j, ¬ j = m → hI h2 276 j = hI h1 276 j) → Sat g mX10_put d (0, 0) (qV Q) 3 [.ref 252, .int x, .int s'] [] h2) → Sat g mX10_put d (0, 0) (qV Q) 3 [.ref 252, .int x, .int s] [] h1 := by
    intro m s s' v h1 hm f1 e1 hs es ev K
    refine wX10_put_3 _ _ (f1.lay L) ⟨fun w => absurd w hs, fun _ => ?_⟩
    rw [e1, nI_clamp (n := m) (by omega), nI_1, es, ev]
    refine ⟨vn (by omega) (by omega), K _ (f1.tr ((FrC.stI (by omega)).tr (FrC.stI (by omega)))) rdI ?_ (fun j hj => ?_)⟩
    · rw [rdn (by omega), rdI]
    · rw [rdn (by omega), rdn (by omega)]
  refine wX10_put_0 _ L ?_
  refine stp1 n 24 16 _ h (by omega) (FrC.rf h) e01 (by decide) (by decide) c24 (fun h1 f1 e1 v1 j1 => ?_)
  refine stp1 (n + 1) 16 8 _ h1 (by omega) f1 e1 (by decide) (by decide) c16 (fun h2 f2 e2 v2 j2 => ?_)
  refine stp1 (n + 2) 8 0 _ h2 (by omega) f2 e2 (by decide) (by decide) c8 (fun h3 f3 e3 v3 j3 => ?_)
  refine stp1 (n + 3) 0 (-8) _ h3 (by omega) f3 e3 (by decide) (by decide) c0 (fun h4 f4 e4 v4 j4 => ?_)
  refine wX10_put_3 _ _ (f4.lay L) ⟨fun _ => hQ h4 f4 ⟨by omega, e4, fun i hi => ?_, tpp4_lt lT⟩, fun w => absurd (by decide) w⟩
  unfold tpp4
  by_cases q3 : i = n + 3
  · rw [if_pos q3, q3]; exact v4
  rw [if_neg q3, j4 i q3]
  by_cases q2 : i = n + 2
  · rw [if_pos q2, q2]; exact v3
  rw [if_neg q2, j3 i q2]
  by_cases q1 : i = n + 1
  · rw [if_pos q1, q1]; exact v2
  rw [if_neg q1, j2 i q1]
  by_cases q0 : i = n
  · rw [if_pos q0, q0]; exact v1
  rw [if_neg q0, j1 i q0]
  exact eT i (by omega)
def tpp20 (T : Nat → Nat) (n : Nat) (a b c d e : Int32) : Nat → Nat := tpp4 (tpp4 (tpp4 (tpp4 (tpp4 T n a) (n + 4) b) (n + 8) c) (n + 12) d) (n + 16) e
theorem c_feed {a b c e f : Int32} {Q : Int32 → HP → Prop} (L : Lay h) (H : TpC T n h) (no : 380 < n → Q (-1) h) (yes : n ≤ 380 → ∀ h', FrC (fun x k => (x = 0 ∧ k = 1) ∨ x = 1) h h' → TpC (tpp20 T n a b c e f) (n + 20) h' → Q (nI (n + 20)) h') : CallI g mX9_feed (d + 1) [.ref 0, .int a, .int b, .int c, .int e, .int f] h Q := by
  have hn := H.1
  refine wX9_feed_0 _ _ _ _ _ L ?_
  rw [H.2.1, show nI n + 20 = nI (n + 20) from nI_add n 20]
  refine ⟨fun w => ?_, fun w => no (by have : ¬ n + 20 ≤ 400 := fun z => w (nI_le (b := 400) z (by omega)); omega)⟩
  have w : n + 20 ≤ 400 := (nI_leI (a := n + 20) (b := 400) (by omega) (by omega)).mp w
  refine c_append L H (by omega) (fun h1 f1 H1 => ⟨f1.lay L, c_append (f1.lay L) H1 (by omega) (fun h2 f2 H2 => ⟨f2.lay (f1.lay L), c_append (f2.lay (f1.lay L)) H2 (by omega) (fun h3 f3 H3 => ⟨f3.lay (f2.lay (f1.lay L)), c_append (f3.lay (f2.lay (f1.lay L))) H3 (by omega) (fun h4 f4 H4 => ⟨f4.lay (f3.lay (f2.lay (f1.lay L))), c_append (f4.lay (f3.lay (f2.lay (f1.lay L)))) H4 (by omega) (fun h5 f5 H5 => ⟨f5.lay (f4.lay (f3.lay (f2.lay (f1.lay L)))), ?_⟩)⟩)⟩)⟩)⟩)
  rw [H5.2.1]
  exact yes (by omega) h5 ((((f1.tr f2).tr f3).tr f4).tr f5) H5
theorem m_feed {a b c e f : Int32} {Q : Int32 → HP → Prop} (L : Lay h) (H : TpM T n h) (no : 380 < n → Q (-1) h) (yes : n ≤ 380 → ∀ h', FrC (fun x k => (x = 252 ∧ k = 24) ∨ x = 276) h h' → TpM (tpp20 T n a b c e f) (n + 20) h' → Q (nI (n + 20)) h') : CallI g mX10_feed (d + 1) [.ref 252, .int a, .int b, .int c, .int e, .int f] h Q := by
  have hn := H.1
  refine wX10_feed_0 _ _ _ _ _ L ?_
  rw [H.2.1, show nI n + 20 = nI (n + 20) from nI_add n 20]
  refine ⟨fun w => ?_, fun w => no (by have : ¬ n + 20 ≤ 400 := fun z => w (nI_le (b := 400) z (by omega)); omega)⟩
  have w : n + 20 ≤ 400 := (nI_leI (a := n + 20) (b := 400) (by omega) (by omega)).mp w
  refine m_put L H (by omega) (fun h1 f1 H1 => ⟨f1.lay L, m_put (f1.lay L) H1 (by omega) (fun h2 f2 H2 => ⟨f2.lay (f1.lay L), m_put (f2.lay (f1.lay L)) H2 (by omega) (fun h3 f3 H3 => ⟨f3.lay (f2.lay (f1.lay L)), m_put (f3.lay (f2.lay (f1.lay L))) H3 (by omega) (fun h4 f4 H4 => ⟨f4.lay (f3.lay (f2.lay (f1.lay L))), m_put (f4.lay (f3.lay (f2.lay (f1.lay L)))) H4 (by omega) (fun h5 f5 H5 => ⟨f5.lay (f4.lay (f3.lay (f2.lay (f1.lay L)))), ?_⟩)⟩)⟩)⟩)⟩)
  rw [H5.2.1]
  exact yes (by omega) h5 ((((f1.tr f2).tr f3).tr f4).tr f5) H5
theorem c_end {x : Int32} {Q : Int32 → HP → Prop} (L : Lay h) (H : TpC T n h) (no : (∀ m, m ≤ n → ¬ x = nI m) → Q (-1) h) (yes : ∀ m, m ≤ n → x = nI m → ∀ h', FrC (fun x k => x = 0 ∧ k = 1) h h' → TpC T m h' → Q (nI m) h') : CallI g mX9_end d [.ref 0, .int x] h Q := by
  have hn := H.1
  refine wX9_end_0 _ L ⟨fun w => no (fun m hm e => ?_), fun w => ⟨fun w2 => ?_, fun w2 => no (fun m hm e => ?_)⟩⟩
  · rw [e] at w; exact nI_pos (by omega) w
  · rw [H.2.1] at w2
    obtain ⟨m, hm, rfl⟩ := nI_of2 (n := n) (nI_toInt (by omega)) w w2
    have f1 : FrC (fun x k => x = 0 ∧ k = 1) h (setI h 0 1 (nI m)) := FrC.stI ⟨rfl, rfl⟩
    exact yes m hm rfl _ f1 ⟨by omega, rdI, fun i hi => by rw [rdn (by omega)]; exact H.2.2.1 i (by omega), fun i hi => H.2.2.2 i (by omega)⟩
  · rw [e, H.2.1] at w2; exact w2 (nI_le hm (by omega))
theorem m_end {x : Int32} {Q : Int32 → HP → Prop} (L : Lay h) (H : TpM T n h) (no : (∀ m, m ≤ n → ¬ x = nI m) → Q (-1) h) (yes : ∀ m, m ≤ n → x = nI m → ∀ h', FrC (fun x k => x = 252 ∧ k = 24) h h' → TpM T m h' → Q (nI m) h') : CallI g mX10_end d [.ref 252, .int x] h Q := by
  have hn := H.1
  refine wX10_end_0 _ L ⟨fun w => no (fun m hm e => ?_), fun w => ⟨fun w2 => ?_, fun w2 => no (fun m hm e => ?_)⟩⟩
  · rw [e] at w; exact nI_pos (by omega) w
  · rw [H.2.1] at w2
    obtain ⟨m, hm, rfl⟩ := nI_of2 (n := n) (nI_toInt (by omega)) w w2
    have f1 : FrC (fun x k => x = 252 ∧ k = 24) h (setI h 252 24 (nI m)) := FrC.stI ⟨rfl, rfl⟩
    exact yes m hm rfl _ f1 ⟨by omega, rdI, fun i hi => by rw [rdn (by omega)]; exact H.2.2.1 i (by omega), fun i hi => H.2.2.2 i (by omega)⟩
  · rw [e, H.2.1] at w2; exact w2 (nI_le hm (by omega))
end TP
