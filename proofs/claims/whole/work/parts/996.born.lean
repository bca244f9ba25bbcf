/-! what the constructors make -/
theorem kN {h : HP} {a k l v : Nat} (ha : a < hn h) (e : hK h a = v) : hK (newH h k l) a = v := by
  show up1 _ _ _ _ = _
  unfold up1
  rw [if_neg (by omega)]
  exact e
theorem kE {h : HP} {n k l : Nat} (e : hn h = n) : hK (newH h k l) n = k := by
  subst e
  show up1 _ _ _ _ = _
  unfold up1
  rw [if_pos rfl]
def fX8 (a0 n : Nat) (h : HP) : HP := (setR (newH (setR (newH (setR (newH (setR (newH (setR (newH (setR (newH (setR (newH (setR (newH h 21 5) a0 5 (some n)) 21 5) a0 6 (some (n + 1))) 21 5) a0 7 (some (n + 2))) 21 6) a0 8 (some (n + 3))) 21 6) a0 9 (some (n + 4))) 21 6) a0 10 (some (n + 5))) 21 6) a0 11 (some (n + 6))) 21 6) a0 12 (some (n + 7)))
theorem c_X8 {g : GT} {d : Nat} {Q : HP → Prop} {a0 n : Nat} {h : HP} (e0 : hn h = n) (ha : a0 < n) (k0 : hK h a0 = 9) (hQ : Q (fX8 a0 n h)) : CallV g mX8_init (d + 1) (8, 45) [.ref a0] h Q := by
  refine uX8_init_0 a0 n h ?_
  refine ⟨by decide, ?_⟩
  refine ⟨by show hn h = _; omega, ?_⟩
  refine ⟨kN (by omega) k0, ?_⟩
  intro h1 q1
  have e1 : hn h1 = n + 1 := by rw [q1]; show hn h + 1 = _; omega
  have k1 : hK h1 a0 = 9 := by rw [q1]; exact kN (by omega) k0
  refine ⟨by decide, ?_⟩
  refine ⟨by show hn h1 = _; omega, ?_⟩
  refine ⟨kN (by omega) k1, ?_⟩
  intro h2 q2
  have e2 : hn h2 = n + 2 := by rw [q2]; show hn h1 + 1 = _; omega
  have k2 : hK h2 a0 = 9 := by rw [q2]; exact kN (by omega) k1
  refine ⟨by decide, ?_⟩
  refine ⟨by show hn h2 = _; omega, ?_⟩
  refine ⟨kN (by omega) k2, ?_⟩
  intro h3 q3
  have e3 : hn h3 = n + 3 := by rw [q3]; show hn h2 + 1 = _; omega
  have k3 : hK h3 a0 = 9 := by rw [q3]; exact kN (by omega) k2
  refine ⟨by decide, ?_⟩
  refine ⟨by show hn h3 = _; omega, ?_⟩
  refine ⟨kN (by omega) k3, ?_⟩
  intro h4 q4
  have e4 : hn h4 = n + 4 := by rw [q4]; show hn h3 + 1 = _; omega
  have k4 : hK h4 a0 = 9 := by rw [q4]; exact kN (by omega) k3
  refine ⟨by decide, ?_⟩
  refine ⟨by show hn h4 = _; omega, ?_⟩
  refine ⟨kN (by omega) k4, ?_⟩
  intro h5 q5
  have e5 : hn h5 = n + 5 := by rw [q5]; show hn h4 + 1 = _; omega
  have k5 : hK h5 a0 = 9 := by rw [q5]; exact kN (by omega) k4
  refine ⟨by decide, ?_⟩
  refine ⟨by show hn h5 = _; omega, ?_⟩
  refine ⟨kN (by omega) k5, ?_⟩
  intro h6 q6
  have e6 : hn h6 = n + 6 := by rw [q6]; show hn h5 + 1 = _; omega
  have k6 : hK h6 a0 = 9 := by rw [q6]; exact kN (by omega) k5
  refine ⟨by decide, ?_⟩
  refine ⟨by show hn h6 = _; omega, ?_⟩
  refine ⟨kN (by omega) k6, ?_⟩
  intro h7 q7
  have e7 : hn h7 = n + 7 := by rw [q7]; show hn h6 + 1 = _; omega
  have k7 : hK h7 a0 = 9 := by rw [q7]; exact kN (by omega) k6
  refine ⟨by decide, ?_⟩
  refine ⟨by show hn h7 = _; omega, ?_⟩
  refine ⟨kN (by omega) k7, ?_⟩
  intro h8 q8
  have e8 : hn h8 = n + 8 := by rw [q8]; show hn h7 + 1 = _; omega
  have k8 : hK h8 a0 = 9 := by rw [q8]; exact kN (by omega) k7
  subst q1
  subst q2
  subst q3
  subst q4
  subst q5
  subst q6
  subst q7
  subst q8
  exact hQ
theorem fX8_k {a0 n x v : Nat} {h : HP} (hx : x < hn h) (e : hK h x = v) : hK (fX8 a0 n h) x = v := kN (by show x < hn h + 7; omega) (kN (by show x < hn h + 6; omega) (kN (by show x < hn h + 5; omega) (kN (by show x < hn h + 4; omega) (kN (by show x < hn h + 3; omega) (kN (by show x < hn h + 2; omega) (kN (by show x < hn h + 1; omega) (kN hx e)))))))
def fX5 (a0 n : Nat) (h : HP) : HP := (setR (newH h 21 680) a0 0 (some n))
theorem c_X5 {g : GT} {d : Nat} {Q : HP → Prop} {a0 n : Nat} {h : HP} (e0 : hn h = n) (ha : a0 < n) (k0 : hK h a0 = 6) (hQ : Q (fX5 a0 n h)) : CallV g mX5_init (d + 1) (1, 680) [.ref a0] h Q := by
  refine uX5_init_0 a0 n h ?_
  refine ⟨by decide, ?_⟩
  refine ⟨by show hn h = _; omega, ?_⟩
  refine ⟨kN (by omega) k0, ?_⟩
  intro h1 q1
  have e1 : hn h1 = n + 1 := by rw [q1]; show hn h + 1 = _; omega
  have k1 : hK h1 a0 = 6 := by rw [q1]; exact kN (by omega) k0
  subst q1
  exact hQ
theorem fX5_k {a0 n x v : Nat} {h : HP} (hx : x < hn h) (e : hK h x = v) : hK (fX5 a0 n h) x = v := kN hx e
def fX7 (a0 n : Nat) (h : HP) : HP := (setR (newH (setR (newH (setR (newH (setR (newH h 21 400) a0 0 (some n)) 21 400) a0 1 (some (n + 1))) 21 13) a0 3 (some (n + 2))) 21 12) a0 4 (some (n + 3)))
theorem c_X7 {g : GT} {d : Nat} {Q : HP → Prop} {a0 n : Nat} {h : HP} (e0 : hn h = n) (ha : a0 < n) (k0 : hK h a0 = 8) (hQ : Q (fX7 a0 n h)) : CallV g mX7_init (d + 1) (4, 825) [.ref a0] h Q := by
  refine uX7_init_0 a0 n h ?_
  refine ⟨by decide, ?_⟩
  refine ⟨by show hn h = _; omega, ?_⟩
  refine ⟨kN (by omega) k0, ?_⟩
  intro h1 q1
  have e1 : hn h1 = n + 1 := by rw [q1]; show hn h + 1 = _; omega
  have k1 : hK h1 a0 = 8 := by rw [q1]; exact kN (by omega) k0
  refine ⟨by decide, ?_⟩
  refine ⟨by show hn h1 = _; omega, ?_⟩
  refine ⟨kN (by omega) k1, ?_⟩
  intro h2 q2
  have e2 : hn h2 = n + 2 := by rw [q2]; show hn h1 + 1 = _; omega
  have k2 : hK h2 a0 = 8 := by rw [q2]; exact kN (by omega) k1
  refine ⟨by decide, ?_⟩
  refine ⟨by show hn h2 = _; omega, ?_⟩
  refine ⟨kN (by omega) k2, ?_⟩
  intro h3 q3
  have e3 : hn h3 = n + 3 := by rw [q3]; show hn h2 + 1 = _; omega
  have k3 : hK h3 a0 = 8 := by rw [q3]; exact kN (by omega) k2
  refine ⟨by decide, ?_⟩
  refine ⟨by show hn h3 = _; omega, ?_⟩
  refine ⟨kN (by omega) k3, ?_⟩
  intro h4 q4
  have e4 : hn h4 = n + 4 := by rw [q4]; show hn h3 + 1 = _; omega
  have k4 : hK h4 a0 = 8 := by rw [q4]; exact kN (by omega) k3
  subst q1
  subst q2
  subst q3
  subst q4
  exact hQ
def fX3 (a0 n : Nat) (h : HP) : HP := (setI (setR (newH (setR (newH (setR (newH (setR (fX5 (n + 18) (n + 19) (newH (setR (fX8 (n + 9) (n + 10) (newH (setR (fX8 n (n + 1) (newH h 9 0)) a0 0 (some n)) 9 0)) a0 1 (some (n + 9))) 6 0)) a0 2 (some (n + 18))) 21 10) a0 3 (some (n + 20))) 21 10) a0 4 (some (n + 21))) 21 10) a0 5 (some (n + 22))) a0 7 (-1))
theorem c_X3 {g : GT} {d : Nat} {Q : HP → Prop} {a0 n : Nat} {h : HP} (e0 : hn h = n) (ha : a0 < n) (k0 : hK h a0 = 4) (hQ : Q (fX3 a0 n h)) : CallV g mX3_init (d + 2) (23, 829) [.ref a0] h Q := by
  refine uX3_init_0 a0 n h ?_
  refine ⟨by show hn h = _; omega, ?_⟩
  refine ⟨kE (by show hn h = _; omega), ?_⟩
  refine c_X8 (by show hn h + 1 = (n + 1); omega) (by omega) (kE (by show hn h = _; omega)) ?_
  generalize q1 : fX8 n (n + 1) (newH h 9 0) = h1
  have e1 : hn h1 = n + 9 := by rw [← q1]; show hn h + 1 + 8 = _; omega
  have k1 : hK h1 a0 = 4 := by rw [← q1]; exact fX8_k (by show a0 < hn h + 1; omega) (kN (by omega) k0)
  refine ⟨k1, ?_⟩
  intro h2 q2
  have e2 : hn h2 = n + 9 := by rw [q2]; show hn h1 = _; omega
  have k2 : hK h2 a0 = 4 := by rw [q2]; exact k1
  refine ⟨by show hn h2 = _; omega, ?_⟩
  refine ⟨kE (by show hn h2 = _; omega), ?_⟩
  refine c_X8 (by show hn h2 + 1 = (n + 10); omega) (by omega) (kE (by show hn h2 = _; omega)) ?_
  generalize q3 : fX8 (n + 9) (n + 10) (newH h2 9 0) = h3
  have e3 : hn h3 = n + 18 := by rw [← q3]; show hn h2 + 1 + 8 = _; omega
  have k3 : hK h3 a0 = 4 := by rw [← q3]; exact fX8_k (by show a0 < hn h2 + 1; omega) (kN (by omega) k2)
  refine ⟨k3, ?_⟩
  intro h4 q4
  have e4 : hn h4 = n + 18 := by rw [q4]; show hn h3 = _; omega
  have k4 : hK h4 a0 = 4 := by rw [q4]; exact k3
  refine ⟨by show hn h4 = _; omega, ?_⟩
  refine ⟨kE (by show hn h4 = _; omega), ?_⟩
  refine c_X5 (by show hn h4 + 1 = (n + 19); omega) (by omega) (kE (by show hn h4 = _; omega)) ?_
  generalize q5 : fX5 (n + 18) (n + 19) (newH h4 6 0) = h5
  have e5 : hn h5 = n + 20 := by rw [← q5]; show hn h4 + 1 + 1 = _; omega
  have k5 : hK h5 a0 = 4 := by rw [← q5]; exact fX5_k (by show a0 < hn h4 + 1; omega) (kN (by omega) k4)
  refine ⟨k5, ?_⟩
  intro h6 q6
  have e6 : hn h6 = n + 20 := by rw [q6]; show hn h5 = _; omega
  have k6 : hK h6 a0 = 4 := by rw [q6]; exact k5
  refine ⟨by decide, ?_⟩
  refine ⟨by show hn h6 = _; omega, ?_⟩
  refine ⟨kN (by omega) k6, ?_⟩
  intro h7 q7
  have e7 : hn h7 = n + 21 := by rw [q7]; show hn h6 + 1 = _; omega
  have k7 : hK h7 a0 = 4 := by rw [q7]; exact kN (by omega) k6
  refine ⟨by decide, ?_⟩
  refine ⟨by show hn h7 = _; omega, ?_⟩
  refine ⟨kN (by omega) k7, ?_⟩
  intro h8 q8
  have e8 : hn h8 = n + 22 := by rw [q8]; show hn h7 + 1 = _; omega
  have k8 : hK h8 a0 = 4 := by rw [q8]; exact kN (by omega) k7
  refine ⟨by decide, ?_⟩
  refine ⟨by show hn h8 = _; omega, ?_⟩
  refine ⟨kN (by omega) k8, ?_⟩
  intro h9 q9
  have e9 : hn h9 = n + 23 := by rw [q9]; show hn h8 + 1 = _; omega
  have k9 : hK h9 a0 = 4 := by rw [q9]; exact kN (by omega) k8
  refine ⟨k9, ?_⟩
  intro h10 q10
  have e10 : hn h10 = n + 23 := by rw [q10]; show hn h9 = _; omega
  have k10 : hK h10 a0 = 4 := by rw [q10]; exact k9
  subst q1
  subst q2
  subst q3
  subst q4
  subst q5
  subst q6
  subst q7
  subst q8
  subst q9
  subst q10
  exact hQ
