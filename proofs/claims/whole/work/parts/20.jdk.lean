/-! numbers, and what the JDK's own methods answer -/
theorem i32_nn {x : Int32} : 0 ≤ x ↔ 0 ≤ x.toInt := by rw [Int32.le_iff_toInt_le]; rfl
theorem i32_nnb {x : Int32} : 0 ≤ x ↔ x.toBitVec.msb = false := by
  rw [i32_nn]
  show 0 ≤ x.toBitVec.toInt ↔ _
  rw [BitVec.msb_eq_toInt]
  simp
theorem xor_nn {x y : Int32} (hx : 0 ≤ x) (hy : 0 ≤ y) : 0 ≤ x ^^^ y := by
  rw [i32_nnb] at hx hy ⊢
  rw [Int32.toBitVec_xor, BitVec.msb_xor, hx, hy]
  rfl
theorem c_abs {g : GT} {d : Nat} {x : Int32} {h : HP} {Q : Int32 → HP → Prop} (hQ : Q (if 0 ≤ x then x else -x) h) : CallI g mJ9_abs_0f7a4 d [.int x] h Q := by
  refine vJ9_abs_0f7a4_0 x h ⟨fun c => ?_, fun c => ?_⟩
  · rw [if_pos c] at hQ; exact hQ
  · rw [if_neg c] at hQ; exact hQ
theorem c_max {g : GT} {d : Nat} {x y : Int32} {h : HP} {Q : Int32 → HP → Prop} (hQ : Q (if x < y then y else x) h) : CallI g mJ9_max_7cf53 d [.int x, .int y] h Q := by
  refine vJ9_max_7cf53_0 x y h ⟨fun c => ?_, fun c => ?_⟩
  · rw [if_pos c] at hQ; exact hQ
  · rw [if_neg c] at hQ; exact hQ
theorem c_min {g : GT} {d : Nat} {x y : Int32} {h : HP} {Q : Int32 → HP → Prop} (hQ : Q (if y < x then y else x) h) : CallI g mJ9_min_7cf53 d [.int x, .int y] h Q := by
  refine vJ9_min_7cf53_0 x y h ⟨fun c => ?_, fun c => ?_⟩
  · rw [if_pos c] at hQ; exact hQ
  · rw [if_neg c] at hQ; exact hQ
/-- of two numbers that are not below 0 -/
theorem c_floorDiv {g : GT} {d : Nat} {x y : Int32} {h : HP} {Q : Int32 → HP → Prop} (hx : 0 ≤ x) (hy : 0 ≤ y) (h0 : ¬ y = 0) (hQ : Q (x / y) h) : CallI g mJ9_floorDiv_7cf53 d [.int x, .int y] h Q :=
  vJ9_floorDiv_7cf53_0 x y h ⟨h0, fun _ => hQ, fun c => absurd (xor_nn hx hy) c⟩
def popc (n : Nat) : Nat := n % 2 + n / 2 % 2 + n / 4 % 2 + n / 8 % 2 + n / 16 % 2 + n / 32 % 2
def bcE (x0 : Int32) : Int32 := ((((((((x0 - (((x0.toUInt32 >>> ((1 : Int32).toUInt32 &&& Int32.toUInt32 31)).toInt32) &&& 1431655765)) &&& 858993459) + ((((x0 - (((x0.toUInt32 >>> ((1 : Int32).toUInt32 &&& Int32.toUInt32 31)).toInt32) &&& 1431655765)).toUInt32 >>> ((2 : Int32).toUInt32 &&& Int32.toUInt32 31)).toInt32) &&& 858993459)) + (((((x0 - (((x0.toUInt32 >>> ((1 : Int32).toUInt32 &&& Int32.toUInt32 31)).toInt32) &&& 1431655765)) &&& 858993459) + ((((x0 - (((x0.toUInt32 >>> ((1 : Int32).toUInt32 &&& Int32.toUInt32 31)).toInt32) &&& 1431655765)).toUInt32 >>> ((2 : Int32).toUInt32 &&& Int32.toUInt32 31)).toInt32) &&& 858993459)).toUInt32 >>> ((4 : Int32).toUInt32 &&& Int32.toUInt32 31)).toInt32)) &&& 252645135) + (((((((x0 - (((x0.toUInt32 >>> ((1 : Int32).toUInt32 &&& Int32.toUInt32 31)).toInt32) &&& 1431655765)) &&& 858993459) + ((((x0 - (((x0.toUInt32 >>> ((1 : Int32).toUInt32 &&& Int32.toUInt32 31)).toInt32) &&& 1431655765)).toUInt32 >>> ((2 : Int32).toUInt32 &&& Int32.toUInt32 31)).toInt32) &&& 858993459)) + (((((x0 - (((x0.toUInt32 >>> ((1 : Int32).toUInt32 &&& Int32.toUInt32 31)).toInt32) &&& 1431655765)) &&& 858993459) + ((((x0 - (((x0.toUInt32 >>> ((1 : Int32).toUInt32 &&& Int32.toUInt32 31)).toInt32) &&& 1431655765)).toUInt32 >>> ((2 : Int32).toUInt32 &&& Int32.toUInt32 31)).toInt32) &&& 858993459)).toUInt32 >>> ((4 : Int32).toUInt32 &&& Int32.toUInt32 31)).toInt32)) &&& 252645135).toUInt32 >>> ((8 : Int32).toUInt32 &&& Int32.toUInt32 31)).toInt32)) + ((((((((x0 - (((x0.toUInt32 >>> ((1 : Int32).toUInt32 &&& Int32.toUInt32 31)).toInt32) &&& 1431655765)) &&& 858993459) + ((((x0 - (((x0.toUInt32 >>> ((1 : Int32).toUInt32 &&& Int32.toUInt32 31)).toInt32) &&& 1431655765)).toUInt32 >>> ((2 : Int32).toUInt32 &&& Int32.toUInt32 31)).toInt32) &&& 858993459)) + (((((x0 - (((x0.toUInt32 >>> ((1 : Int32).toUInt32 &&& Int32.toUInt32 31)).toInt32) &&& 1431655765)) &&& 858993459) + ((((x0 - (((x0.toUInt32 >>> ((1 : Int32).toUInt32 &&& Int32.toUInt32 31)).toInt32) &&& 1431655765)).toUInt32 >>> ((2 : Int32).toUInt32 &&& Int32.toUInt32 31)).toInt32) &&& 858993459)).toUInt32 >>> ((4 : Int32).toUInt32 &&& Int32.toUInt32 31)).toInt32)) &&& 252645135) + (((((((x0 - (((x0.toUInt32 >>> ((1 : Int32).toUInt32 &&& Int32.toUInt32 31)).toInt32) &&& 1431655765)) &&& 858993459) + ((((x0 - (((x0.toUInt32 >>> ((1 : Int32).toUInt32 &&& Int32.toUInt32 31)).toInt32) &&& 1431655765)).toUInt32 >>> ((2 : Int32).toUInt32 &&& Int32.toUInt32 31)).toInt32) &&& 858993459)) + (((((x0 - (((x0.toUInt32 >>> ((1 : Int32).toUInt32 &&& Int32.toUInt32 31)).toInt32) &&& 1431655765)) &&& 858993459) + ((((x0 - (((x0.toUInt32 >>> ((1 : Int32).toUInt32 &&& Int32.toUInt32 31)).toInt32) &&& 1431655765)).toUInt32 >>> ((2 : Int32).toUInt32 &&& Int32.toUInt32 31)).toInt32) &&& 858993459)).toUInt32 >>> ((4 : Int32).toUInt32 &&& Int32.toUInt32 31)).toInt32)) &&& 252645135).toUInt32 >>> ((8 : Int32).toUInt32 &&& Int32.toUInt32 31)).toInt32)).toUInt32 >>> ((16 : Int32).toUInt32 &&& Int32.toUInt32 31)).toInt32)) &&& 63)
theorem bcE_ok : ∀ k : Fin 64, bcE (nI k.val) = nI (popc k.val) := by decide +kernel
theorem c_bitCount {g : GT} {d n : Nat} {h : HP} {Q : Int32 → HP → Prop} (hn : n < 64) (hQ : Q (nI (popc n)) h) : CallI g mJ6_bitCount_0f7a4 d [.int (nI n)] h Q := by
  refine vJ6_bitCount_0f7a4_0 (nI n) h ?_
  show Q (bcE (nI n)) h
  rw [bcE_ok ⟨n, hn⟩]
  exact hQ
theorem c_len {g : GT} {d : Nat} {t : UInt32} {h : HP} {Q : Int32 → HP → Prop} (ht : t.toNat < 24) (hQ : Q (nI (strn t)) h) : CallI g mJ0_length_8abf5 (d + 1) [.float t] h Q := by
  refine vJ0_length_8abf5_0 t h ⟨ht, t, rfl, ht, ht, ?_⟩
  refine vJ0_coder_7d493_0 t h ⟨by decide, ht, rfl, ?_⟩
  show Q (nI (strn t) >>> ((0 : Int32) &&& 31)) h
  have e : ∀ x : Int32, x >>> ((0 : Int32) &&& 31) = x := by
    intro x
    have : ((0 : Int32) &&& 31) = 0 := by decide
    rw [this]
    simp
  rw [e]
  exact hQ
theorem strb_ok : ∀ t : Fin 24, ∀ i : Fin 80, i.val < stLen.getD t.val 0 → (((((stByt.getD t.val []).getD i.val 0) &&& 255).toUInt32 % 65536).toInt32) = (stByt.getD t.val []).getD i.val 0 := by decide +kernel
theorem strn_le : ∀ t : Fin 24, stLen.getD t.val 0 ≤ 80 := by decide +kernel
theorem c_charAt {g : GT} {d i : Nat} {t : UInt32} {h : HP} {Q : Int32 → HP → Prop} (ht : t.toNat < 24) (hi : i < strn t) (hQ : Q (strb t i) h) : CallI g mJ0_charAt_5068e (d + 4) [.float t, .int (nI i)] h Q := by
  have hl : strn t ≤ 80 := strn_le ⟨t.toNat, ht⟩
  refine vJ0_charAt_5068e_0 t (nI i) h ⟨ht, ?_⟩
  refine vJ0_isLatin1_aae02_0 t h ⟨by decide, ht, rfl, rfl, ?_⟩
  refine ⟨fun c => absurd c (by decide), fun _ => ⟨ht, ?_⟩⟩
  refine vJ1_charAt_3b067_0 (t + 100) (nI i) h ⟨t, rfl, ht, ?_⟩
  refine vJ0_checkIndex_df160_0 (nI i) (nI (strn t)) h ⟨vJ3_checkIndex_8e157_0 (nI i) (nI (strn t)) 200 h ⟨fun c => absurd c (nI_pos (by omega)), fun _ => ⟨fun _ => ?_, fun c => absurd (nI_lt hi (by omega)) c⟩⟩, vJ3_checkIndex_8e157_0n (nI i) (nI (strn t)) h ⟨fun c => absurd c (nI_pos (by omega)), fun _ => ⟨fun _ => ?_, fun c => absurd (nI_lt hi (by omega)) c⟩⟩⟩
  all_goals
    have e : ((((strb t (nI i).toNatClampNeg) &&& 255).toUInt32 % 65536).toInt32) = strb t i := by
      rw [nI_clamp (by omega)]
      exact strb_ok ⟨t.toNat, ht⟩ ⟨i, by omega⟩ hi
    refine ⟨t, rfl, ht, vp_in_nI hi (by omega), pk_nc _, ?_⟩
    show narrow .char (.int _) = .int _ ∧ Q _ h
    refine ⟨pk_nc _, ?_⟩
    rw [e]
    exact hQ