/-! the law: its loop, and from its entry -/
def QL : Option Value → HP → Prop := fun r _ => r = some (.int 1)
theorem lw_lt {N i : Nat} (hN : N ≤ 3072) (hi : i ≤ 4000) : Int32.ofNat N - 6 < nI i ↔ N < i + 6 := by
  have e : (Int32.ofNat N - 6).toInt = (N : Int) - 6 := pk_sub_toInt (a := N) (b := 6) (by omega) (by omega)
  rw [Int32.lt_iff_toInt_lt, e, nI_toInt (by omega)]
  omega
theorem law_loop {g : GT} {d N : Nat} {xs : Nat → Int32} (hX : XG g N xs) (hN : N ≤ 3072) : ∀ (m i : Nat) (h : HP) (G : G4), N ≤ i + m → i ≤ N + 6 → StG h G → Sat g mL_law (d + 40 + 1) (0, 0) QL 18 [.float 99, .ref 0, .ref 252, .int (nI i)] [] h := by
  intro m
  induction m with
  | zero =>
    intro i h G hm hi S
    exact vL_18 hX 0 252 (nI i) h ⟨rfl, fun _ => ⟨rfl, rfl⟩, fun q => absurd ((lw_lt hN (by omega)).mpr (by omega)) q⟩
  | succ m ih =>
    intro i h G hm hi S
    by_cases c : i + 6 ≤ N
    · have J : ∀ h2 G', StG h2 G' → Sat g mL_law (d + 40 + 1) (0, 0) QL 1152 [.float 99, .ref 0, .ref 252, .int (nI i)] [] h2 := fun h2 G' S' => vL_1152 hX 0 252 (nI i) h2 (by
        have k := ih (i + 6) h2 G' (by omega) (by omega) S'
        rw [← nI_c i 6] at k
        exact k)
      refine vL_18 hX 0 252 (nI i) h ⟨rfl, fun q => absurd ((lw_lt hN (by omega)).mp q) (by omega), fun _ => ⟨rfl, vp_in_nI (by omega) (by omega), ?_⟩⟩
      exact ⟨fun _ => case_176 hX hN c S J, fun _ => ⟨fun _ => case_239 hX hN c S J, fun _ => ⟨fun _ => case_262 hX hN c S J, fun _ => ⟨fun _ => case_275 hX hN c S J, fun _ => ⟨fun _ => case_288 hX hN c S J, fun _ => ⟨fun _ => case_311 hX hN c S J, fun _ => ⟨fun _ => case_344 hX hN c S J, fun _ => ⟨fun _ => case_377 hX hN c S J, fun _ => ⟨fun _ => case_390 hX hN c S J, fun _ => ⟨fun _ => case_413 hX hN c S J, fun _ => ⟨fun _ => case_446 hX hN c S J, fun _ => ⟨fun _ => case_469 hX hN c S J, fun _ => ⟨fun _ => case_502 hX hN c S J, fun _ => ⟨fun _ => case_515 hX hN c S J, fun _ => ⟨fun _ => case_558 hX hN c S J, fun _ => ⟨fun _ => case_591 hX hN c S J, fun _ => ⟨fun _ => case_634 hX hN c S J, fun _ => ⟨fun _ => case_657 hX hN c S J, fun _ => ⟨fun _ => case_690 hX hN c S J, fun _ => ⟨fun _ => case_733 hX hN c S J, fun _ => ⟨fun _ => case_766 hX hN c S J, fun _ => ⟨fun _ => case_789 hX hN c S J, fun _ => ⟨fun _ => case_822 hX hN c S J, fun _ => ⟨fun _ => case_875 hX hN c S J, fun _ => ⟨fun _ => case_908 hX hN c S J, fun _ => ⟨fun _ => case_951 hX hN c S J, fun _ => ⟨fun _ => case_974 hX hN c S J, fun _ => ⟨fun _ => case_1007 hX hN c S J, fun _ => ⟨fun _ => case_1030 hX hN c S J, fun _ => ⟨fun _ => case_1083 hX hN c S J, fun _ => ⟨fun _ => case_1106 hX hN c S J, fun _ => ⟨fun _ => case_1129 hX hN c S J, fun _ => J h G S⟩⟩⟩⟩⟩⟩⟩⟩⟩⟩⟩⟩⟩⟩⟩⟩⟩⟩⟩⟩⟩⟩⟩⟩⟩⟩⟩⟩⟩⟩⟩⟩
    · exact vL_18 hX 0 252 (nI i) h ⟨rfl, fun _ => ⟨rfl, rfl⟩, fun q => absurd ((lw_lt hN (by omega)).mpr (by omega)) q⟩
theorem law_all {g : GT} {d N : Nat} {xs : Nat → Int32} (hX : XG g N xs) (hN : N ≤ 3072) : Sat g mL_law (d + 40 + 1) (301, 22481) QL 0 [.float 99, .double 0, .double 0, .double 0] [] hZ := by
  refine uL_0 0 hZ ⟨rfl, by decide +kernel, ?_⟩
  refine c_X9 (d := d + 37) ⟨by decide +kernel, by decide +kernel, ?_⟩
  refine c_X10 (d := d + 37) ?_
  have k := law_loop (d := d) hX hN N 0 hX10_e G0 (by omega) (by omega) born
  rw [nI_0] at k
  exact k
