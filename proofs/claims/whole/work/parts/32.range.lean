/-! ranges of a TOWN's numbers; what a NIGHT keeps of them -/
def RG (x : Int32) : Prop := ∃ n, n ≤ 99 ∧ x = nI n
def R9 (x : Int32) : Prop := ∃ n, 1 ≤ n ∧ n ≤ 9 ∧ x = nI n
def TR (t : Tw) : Prop := (t.1 0 = 0 → t.1 2 = 0 ∧ t.1 3 = 0) ∧ (∀ j, j < t.1 2 → RG (t.2 1 j) ∧ RG (t.2 2 j) ∧ R9 (t.2 3 j)) ∧ (∀ i, i < t.1 3 → RG (t.2 4 i) ∧ R9 (t.2 5 i) ∧ RG (t.2 6 i) ∧ (t.2 7 i = -1 ∨ ∃ j, j < t.1 2 ∧ t.2 7 i = nI j) ∧ ∃ n, n ≤ t.1 4 ∧ t.2 8 i = nI n)
theorem i32_of_int {x : Int32} {m : Nat} (h : x.toInt = (m : Int)) (hm : m < 2 ^ 31) : x = nI m := Int32.toInt_inj.mp (by rw [h, nI_toInt hm])
theorem bm32 {x : Int} (h1 : -2147483648 ≤ x) (h2 : x < 2147483648) : x.bmod (2 ^ 32) = x := Int.bmod_eq_of_le (by omega) (by omega)
theorem i32_add {x y : Int32} (h1 : -2147483648 ≤ x.toInt + y.toInt) (h2 : x.toInt + y.toInt < 2147483648) : (x + y).toInt = x.toInt + y.toInt := by rw [Int32.toInt_add, bm32 h1 h2]
theorem i32_div {x y : Int32} (h1 : -2147483648 ≤ x.toInt.tdiv y.toInt) (h2 : x.toInt.tdiv y.toInt < 2147483648) : (x / y).toInt = x.toInt.tdiv y.toInt := by rw [Int32.toInt_div, bm32 h1 h2]
theorem tdiv_bd (d : Int) {n : Nat} (hn : 1 ≤ n) : (0 ≤ d → 0 ≤ d.tdiv n ∧ d.tdiv n ≤ d) ∧ (d ≤ 0 → d ≤ d.tdiv n ∧ d.tdiv n ≤ 0) := by
  constructor
  · intro h
    refine ⟨Int.tdiv_nonneg h (by omega), Int.tdiv_le_self (n : Int) h⟩
  · intro h
    have h3 : 0 ≤ -d := by omega
    have e : d.tdiv n = -((-d).tdiv n) := by rw [Int.neg_tdiv]; omega
    have h1 := Int.tdiv_nonneg h3 (show (0 : Int) ≤ n by omega)
    have h2 := Int.tdiv_le_self (n : Int) h3
    rw [e]
    omega
/-- towards another number by a part of the way -/
theorem move_rg {a b n : Nat} (ha : a ≤ 99) (hb : b ≤ 99) (h1 : 1 ≤ n) (h9 : n ≤ 9) : RG (nI a + (nI b - nI a) / nI n) := by
  have ea := nI_toInt (n := a) (by omega)
  have en := nI_toInt (n := n) (by omega)
  have es : (nI b - nI a).toInt = (b : Int) - a := pk_sub_toInt (by omega) (by omega)
  have hbd := tdiv_bd ((b : Int) - a) h1
  have ed : ((nI b - nI a) / nI n).toInt = ((b : Int) - a).tdiv n := by
    rw [i32_div] <;> rw [es, en]
    · rcases Int.le_total 0 ((b : Int) - a) with c | c
      · have := hbd.1 c; omega
      · have := hbd.2 c; omega
    · rcases Int.le_total 0 ((b : Int) - a) with c | c
      · have := hbd.1 c; omega
      · have := hbd.2 c; omega
  have e : (nI a + (nI b - nI a) / nI n).toInt = a + ((b : Int) - a).tdiv n := by
    rw [i32_add] <;> rw [ea, ed]
    · rcases Int.le_total 0 ((b : Int) - a) with c | c
      · have := hbd.1 c; omega
      · have := hbd.2 c; omega
    · rcases Int.le_total 0 ((b : Int) - a) with c | c
      · have := hbd.1 c; omega
      · have := hbd.2 c; omega
  refine ⟨((a : Int) + ((b : Int) - a).tdiv n).toNat, ?_, i32_of_int ?_ ?_⟩
  · rcases Int.le_total 0 ((b : Int) - a) with c | c
    · have := hbd.1 c; omega
    · have := hbd.2 c; omega
  · rw [e]
    rcases Int.le_total 0 ((b : Int) - a) with c | c
    · have := hbd.1 c; omega
    · have := hbd.2 c; omega
  · rcases Int.le_total 0 ((b : Int) - a) with c | c
    · have := hbd.1 c; omega
    · have := hbd.2 c; omega
theorem sumB_rg (f : Nat → Bool) (s : Nat → Int32) : ∀ n, (∀ i, i < n → RG (s i)) → ∃ S, S ≤ 99 * cntB f n ∧ sumB f s n = nI S
  | 0, _ => ⟨0, by omega, rfl⟩
  | n + 1, h => by
    obtain ⟨S, h1, h2⟩ := sumB_rg f s n (fun i hi => h i (by omega))
    obtain ⟨k, h3, h4⟩ := h n (by omega)
    unfold sumB cntB
    by_cases c : f n = true
    · rw [if_pos c, if_pos c, h2, h4, nI_add]
      exact ⟨S + k, by omega, rfl⟩
    · rw [if_neg c, if_neg c]
      exact ⟨S, h1, h2⟩
theorem hoB_rg {t : Tw} {j : Nat} {f : Nat → Bool} (hT : TR t) (hB : TB t) (hj : j < t.1 2) : RG (hoB t j f) := by
  obtain ⟨⟨a, ha, ea⟩, -, n, h1, h9, en⟩ := hT.2.1 j hj
  unfold hoB
  by_cases c : cntB f (t.1 3) = 0
  · rw [if_pos c]; exact ⟨a, ha, ea⟩
  · rw [if_neg c]
    obtain ⟨S, h2, h3⟩ := sumB_rg f (t.2 4) (t.1 3) (fun i hi => (hT.2.2 i hi).1)
    have hl := cntB_le f (t.1 3)
    unfold TB at hB
    rw [h3, pk_div (by omega) (by omega) (by omega), ea, en]
    refine move_rg ha ?_ h1 h9
    have : S / cntB f (t.1 3) ≤ 99 := Nat.div_le_of_le_mul (by rw [Nat.mul_comm]; exact h2)
    exact this
theorem shape_tr {t : Tw} {l : Nat → Int32} (hT : TR t) (hB : TB t) (hl : LOK t l) : (∀ j, j < t.1 2 → RG ((shapeT t l).2 1 j)) ∧ ∀ i, i < t.1 3 → RG ((shapeT t l).2 4 i) := by
  refine ⟨fun j hj => hoB_rg hT hB hj, fun i hi => ?_⟩
  obtain ⟨⟨a, ha, ea⟩, ⟨n, h1, h9, en⟩, -⟩ := hT.2.2 i hi
  show RG (if l i = -1 then t.2 4 i else shB t i (l i).toNatClampNeg)
  rcases hl i hi with c | ⟨j, hj, e⟩
  · rw [if_pos c]; exact ⟨a, ha, ea⟩
  · unfold TB at hB
    rw [e, if_neg (neg1_ne (by omega)), nI_clamp (by omega)]
    obtain ⟨⟨b, hb, eb⟩, -⟩ := hT.2.1 j hj
    unfold shB
    rw [ea, eb, en]
    exact move_rg ha hb h1 h9
theorem TR.div {t : Tw} {l : Nat → Int32} (hT : TR t) (hB : TB t) : DivOK t l := by
  unfold TB at hB
  refine ⟨fun i hi => ?_, fun j hj => ⟨?_, ?_⟩⟩
  · obtain ⟨-, ⟨n, h1, h9, en⟩, -⟩ := hT.2.2 i hi
    rw [en]
    exact ⟨nI_nle (by omega) (by omega), nI_ne0 (by omega) (by omega)⟩
  · obtain ⟨-, -, n, h1, h9, en⟩ := hT.2.1 j hj
    rw [en]
    exact ⟨nI_nle (by omega) (by omega), nI_ne0 (by omega) (by omega)⟩
  · obtain ⟨S, h2, h3⟩ := sumB_rg (onT l j) (t.2 4) (t.1 3) (fun i hi => (hT.2.2 i hi).1)
    have hl := cntB_le (onT l j) (t.1 3)
    rw [h3]
    exact nI_pos' (by omega)
theorem TR.card {t : Tw} {l : Nat → Int32} (hT : TR t) (hB : TB t) (hl : LOK t l) : CardOK (shapeT t l) := by
  intro r j hr hj
  have hj : j < t.1 2 := hj
  rcases hr with rfl | rfl
  · obtain ⟨a, ha, ea⟩ := (shape_tr hT hB hl).1 j hj
    rw [ea, show (50 : Int32) = nI 50 from rfl, nI_add]
    exact nI_pos' (by omega)
  · obtain ⟨-, ⟨a, ha, ea⟩, -⟩ := hT.2.1 j hj
    show 0 ≤ t.2 2 j + 50
    rw [ea, show (50 : Int32) = nI 50 from rfl, nI_add]
    exact nI_pos' (by omega)
theorem half_rg {x : Int32} (h : RG x) : RG ((x + 50) / 2) := by
  obtain ⟨a, ha, ea⟩ := h
  rw [ea, show (50 : Int32) = nI 50 from rfl, nI_add, show (2 : Int32) = nI 2 from rfl, pk_div (by omega) (by omega) (by omega)]
  exact ⟨(a + 50) / 2, by omega, rfl⟩
theorem cardT_1 (t : Tw) : (cardT t).1 = t.1 := by
  unfold cardT
  by_cases c : dueT t
  · rw [if_pos c]; rfl
  · rw [if_neg c]
theorem cardT_y {t : Tw} {r j : Nat} (h : dueT t ∧ (r = 1 ∨ r = 2) ∧ j < t.1 2) : (cardT t).2 r j = (t.2 r j + 50) / 2 := by
  unfold cardT
  rw [if_pos h.1]
  exact if_pos h.2
theorem cardT_n {t : Tw} {r j : Nat} (h : ¬ (dueT t ∧ (r = 1 ∨ r = 2) ∧ j < t.1 2)) : (cardT t).2 r j = t.2 r j := by
  unfold cardT
  by_cases c : dueT t
  · rw [if_pos c]
    exact if_neg (fun q => h ⟨c, q⟩)
  · rw [if_neg c]
theorem night_1 (t : Tw) (ρ : Option Rl) (hd : Hd) (k : Nat) : (nightT t ρ hd).1 k = if k = 4 then t.1 4 + 1 else t.1 k := by
  show up1 (cardT (shapeT t _)).1 4 ((cardT (shapeT t _)).1 4 + 1) k = _
  rw [cardT_1]
  rfl
theorem night_2 (t : Tw) (ρ : Option Rl) (hd : Hd) (r j : Nat) : (nightT t ρ hd).2 r j = (cardT (shapeT t (lieS t ρ hd (t.1 3)).1)).2 r j := rfl
theorem night_o (t : Tw) (ρ : Option Rl) (hd : Hd) {r : Nat} (j : Nat) (hr : 3 ≤ r) : (nightT t ρ hd).2 r j = (shapeT t (lieS t ρ hd (t.1 3)).1).2 r j := by
  rw [night_2, cardT_n (by omega)]
theorem TB.night {t : Tw} {ρ : Option Rl} {hd : Hd} (hB : TB t) (h4 : t.1 4 + 1 ≤ 5000) : TB (nightT t ρ hd) := by
  unfold TB at hB ⊢
  simp only [night_1]
  simp
  omega
theorem TR.night {t : Tw} {ρ : Option Rl} {hd : Hd} (hT : TR t) (hB : TB t) : TR (nightT t ρ hd) := by
  have hl : LOK t (lieS t ρ hd (t.1 3)).1 := (lie_ok (by unfold TB at hB; omega) _).1
  have hs := shape_tr hT hB hl
  have e0 : (nightT t ρ hd).1 0 = t.1 0 := night_1 t ρ hd 0
  have e2 : (nightT t ρ hd).1 2 = t.1 2 := night_1 t ρ hd 2
  have e3 : (nightT t ρ hd).1 3 = t.1 3 := night_1 t ρ hd 3
  have e4 : (nightT t ρ hd).1 4 = t.1 4 + 1 := night_1 t ρ hd 4
  refine ⟨by rw [e0, e2, e3]; exact hT.1, fun j hj => ?_, fun i hi => ?_⟩
  · rw [e2] at hj
    refine ⟨?_, ?_, ?_⟩
    · rw [night_2]
      by_cases c : dueT (shapeT t (lieS t ρ hd (t.1 3)).1) ∧ ((1 : Nat) = 1 ∨ (1 : Nat) = 2) ∧ j < (shapeT t (lieS t ρ hd (t.1 3)).1).1 2
      · rw [cardT_y c]; exact half_rg (hs.1 j hj)
      · rw [cardT_n c]; exact hs.1 j hj
    · rw [night_2]
      by_cases c : dueT (shapeT t (lieS t ρ hd (t.1 3)).1) ∧ ((2 : Nat) = 1 ∨ (2 : Nat) = 2) ∧ j < (shapeT t (lieS t ρ hd (t.1 3)).1).1 2
      · rw [cardT_y c]; exact half_rg (hT.2.1 j hj).2.1
      · rw [cardT_n c]; exact (hT.2.1 j hj).2.1
    · rw [night_o _ _ _ _ (by omega)]
      exact (hT.2.1 j hj).2.2
  · rw [e3] at hi
    rw [night_o _ _ _ _ (by omega), night_o _ _ _ _ (by omega), night_o _ _ _ _ (by omega), night_o _ _ _ _ (by omega), night_o _ _ _ _ (by omega), e2, e4]
    refine ⟨hs.2 i hi, (hT.2.2 i hi).2.1, (hT.2.2 i hi).2.2.1, hl i hi, ?_⟩
    obtain ⟨n, h1, h2⟩ := (hT.2.2 i hi).2.2.2.2
    show ∃ n, n ≤ t.1 4 + 1 ∧ (if (lieS t ρ hd (t.1 3)).1 i = -1 then t.2 8 i else t.2 8 i + 1) = nI n
    split
    · exact ⟨n, by omega, h2⟩
    · exact ⟨n + 1, by omega, by rw [h2, nI_1]⟩
/-- the pass of a NIGHT, over a TOWN in range -/
theorem c_night {g : GT} {d a n : Nat} {h : HP} {t : Tw} {ρ : Option Rl} {hd : Hd} {Q : Int32 → HP → Prop} {r2 r3 : Option Nat} (hG : NgS h n) (hT : TownIs h a t) (hR : TR t) (hda : n + 6 ≤ a ∨ a + 9 ≤ n) (hh : HdIs h r3 n a hd) (hr : RlIs g (d + 1) n a t h r2 ρ) (hb : t.1 4 + 1 ≤ 5000) (hQ : ∀ h', Fr (fun x => (n ≤ x ∧ x < n + 6) ∨ (a ≤ x ∧ x < a + 9)) h h' → TownIs h' a (nightT t ρ hd) → Q (nI (cntL (lieS t ρ hd (t.1 3)).1 (t.1 3))) h') : CallI g mX4_pass (d + 3) [.ref n, .ref a, ov r2, ov r3] h Q :=
  c_pass hG hT hda hh hr (hR.div hT.2.1) (hR.card hT.2.1 (lie_ok (by have := hT.2.1; unfold TB at this; omega) _).1) hb hQ
