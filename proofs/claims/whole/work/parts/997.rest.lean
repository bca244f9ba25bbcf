/-! both objects at rest when they are new -/
def G0 : G4 := (((tw0, tw0), (0, fun _ => tw0), (0, (fun _ => 0), (fun _ => 0), fun _ => 0), 0, 0), ((fun _ => 0), 0), ((fun _ => (0, (fun _ => 0), (fun _ => 0), (fun _ => 0), fun _ => 0)), 0), fun _ => none)
theorem bornK : ∀ x, x < 301 → hK hX10_e x = K0 x ∧ hN hX10_e x = N0 x := by decide +kernel
theorem bornR : ∀ t ∈ rT, hR hX10_e t.1 t.2.1 = some t.2.2 := by decide +kernel
theorem bornL : Lay hX10_e := ⟨bornK, bornR⟩
theorem row0 {r j : Nat} (q : rowOK tw0 r j) : False := by
  rcases q with q | q
  · exact Nat.not_lt_zero _ q.2.2
  · exact Nat.not_lt_zero _ q.2.2
theorem born4 : ∀ k, k < 5 → hI hX10_e 4 k = nI 0 := by decide +kernel
theorem born13 : ∀ k, k < 5 → hI hX10_e 13 k = nI 0 := by decide +kernel
theorem born253 : ∀ k, k < 5 → hI hX10_e 253 k = nI 0 := by decide +kernel
theorem born28 : ∀ k, k < 4 → hI hX10_e 28 k = 0 := by decide +kernel
theorem born300 : ∀ k, k < 4 → hI hX10_e 300 k = 0 := by decide +kernel
theorem born286 : ∀ k, k < 6 → hI hX10_e 286 k = -5 := by decide +kernel
theorem bornC : hI hX10_e 22 1 = nI 0 ∧ hI hX10_e 22 2 = nI 0 ∧ hI hX10_e 3 6 = nI 0 ∧ hI hX10_e 3 7 = pl 0 ∧ hI hX10_e 3 8 = nI 0 ∧ hI hX10_e 0 1 = nI 0 ∧ hI hX10_e 0 3 = nI 0 := by decide +kernel
theorem bornM : hI hX10_e 253 5 = nI 0 ∧ hI hX10_e 253 6 = nI 0 ∧ hI hX10_e 253 7 = pl 0 ∧ hI hX10_e 252 51 = nI 0 ∧ hI hX10_e 252 24 = nI 0 ∧ hI hX10_e 252 28 = nI 0 ∧ hI hX10_e 252 33 = 12 := by decide +kernel
theorem bornGC : GC hX10_e G0 := by
  obtain ⟨a1, a2, a3, a4, a5, a6, a7⟩ := bornC
  refine ⟨bornL, ⟨⟨Ltw_4 bornL, tco0.1, born4, fun r j q => absurd q row0⟩, ⟨Ltw_13 bornL, tco0.1, born13, fun r j q => absurd q row0⟩, ⟨0, by omega, Nat.zero_le _, a1, a2, fun i hi => absurd hi (Nat.not_lt_zero _)⟩, ⟨a3, fun k hk => absurd hk (Nat.not_lt_zero _)⟩, a4, a5⟩, ⟨Nat.zero_le _, a6, fun i hi => absurd hi (Nat.not_lt_zero _), fun i hi => absurd hi (Nat.not_lt_zero _)⟩, a7, ⟨Nat.zero_le _, fun r hr => absurd hr (Nat.not_lt_zero _)⟩, fun k hk => ⟨fun _ => born28 k hk, fun l el => absurd el (by simp [G0])⟩⟩
theorem bornGM : GM hX10_e G0 := by
  obtain ⟨a1, a2, a3, a4, a5, a6, a7⟩ := bornM
  refine ⟨⟨born253, fun r j q => absurd q row0, ⟨a1, fun k hk => absurd hk (Nat.not_lt_zero _)⟩, a2, a3, ⟨fun j hj => absurd hj (Nat.not_lt_zero _), fun i hi => absurd hi (Nat.not_lt_zero _)⟩, a4, fun i hi => absurd hi (Nat.not_lt_zero _)⟩, ⟨Nat.zero_le _, a5, fun i hi => absurd hi (Nat.not_lt_zero _), fun i hi => absurd hi (Nat.not_lt_zero _)⟩, ⟨Nat.zero_le _, a6, fun r hr => absurd hr (Nat.not_lt_zero _)⟩, a7, born286, fun k hk => ⟨fun _ => born300 k hk, fun l el => absurd el (by simp [G0])⟩⟩
theorem bornGO : GO G0 := by
  refine ⟨⟨tco0.1, tco0.tr, Nat.zero_le _, ⟨tco0.1, tco0.tr, fun _ _ => rfl, rfl, fun i hi => absurd hi (Nat.not_lt_zero _)⟩, ⟨Nat.zero_le _, fun i hi => absurd hi (Nat.not_lt_zero _)⟩, ⟨Nat.zero_le _, fun i hi => absurd hi (Nat.not_lt_zero _)⟩, Nat.zero_le _, by decide⟩, Nat.zero_le _, fun k l _ el => absurd el (by simp [G0]), fun r hr => absurd hr (Nat.not_lt_zero _)⟩
theorem born : StG hX10_e G0 := ⟨bornGC, bornGM, bornGO⟩
