/-! the instructions as steps of the judgement: returns, calls -/
def o_ret (Q : Option Value → HP → Prop) : KT := fun _ st h => match st with
  | [] => Q none h
  | _ => False
def o_iret (Q : Option Value → HP → Prop) : KT := fun _ st h => match st with
  | [.int x] => Q (some (.int x)) h
  | _ => False
def o_zret (Q : Option Value → HP → Prop) : KT := fun _ st h => match st with
  | [.int x] => vp_nar .boolean x = x ∧ Q (some (.int x)) h
  | _ => False
def o_lret (Q : Option Value → HP → Prop) : KT := fun _ st h => match st with
  | [.long x] => Q (some (.long x)) h
  | _ => False
def o_aret (Q : Option Value → HP → Prop) : KT := fun _ st h => match st with
  | [.ref x] => Q (some (.ref x)) h
  | [.float x] => Q (some (.float x)) h
  | [.null] => Q (some .null) h
  | _ => False
def CallV (g : GT) (M : MD) (d : Nat) (b : Nat × Nat) (av : List Value) (h : HP) (Q : HP → Prop) : Prop := Sat g M d b (fun r h' => match r with
  | none => Q h'
  | _ => False) 0 (entL M.2.2.1 av) [] h
def CallI (g : GT) (M : MD) (d : Nat) (av : List Value) (h : HP) (Q : Int32 → HP → Prop) : Prop := Sat g M d (0, 0) (fun r h' => match r with
  | some (.int x) => Q x h'
  | _ => False) 0 (entL M.2.2.1 av) [] h
def CallJ (g : GT) (M : MD) (d : Nat) (av : List Value) (h : HP) (Q : Int64 → HP → Prop) : Prop := Sat g M d (0, 0) (fun r h' => match r with
  | some (.long x) => Q x h'
  | _ => False) 0 (entL M.2.2.1 av) [] h
/-- an object -/
def CallR (g : GT) (M : MD) (d : Nat) (av : List Value) (h : HP) (Q : Nat → HP → Prop) : Prop := Sat g M d (0, 0) (fun r h' => match r with
  | some (.ref x) => Q x h'
  | _ => False) 0 (entL M.2.2.1 av) [] h
/-- a constant text -/
def CallT (g : GT) (M : MD) (d : Nat) (av : List Value) (h : HP) (Q : UInt32 → HP → Prop) : Prop := Sat g M d (0, 0) (fun r h' => match r with
  | some (.float x) => Q x h'
  | _ => False) 0 (entL M.2.2.1 av) [] h
/-- an object or null -/
def CallO (g : GT) (M : MD) (d : Nat) (av : List Value) (h : HP) (Q0 : HP → Prop) (Q : Nat → HP → Prop) : Prop := Sat g M d (0, 0) (fun r h' => match r with
  | some (.ref x) => Q x h'
  | some .null => Q0 h'
  | _ => False) 0 (entL M.2.2.1 av) [] h
def ov : Option Nat → Value
  | none => .null
  | some x => .ref x
def okA (M : MD) (n : Nat) (st : List Value) : Bool := ((st.take n).all (fun x => !isPad x)) && (Nat.beq (st.take n).length n) && Nat.ble (st.drop n).length 4 && Nat.ble (entF (st.take n).reverse).length M.2.2.1
def gd (x : Bool) (P : Prop) : Prop := match x with
  | true => P
  | false => False
def rcv (c : Nat) (h : HP) (av : List Value) (P : Prop) : Prop := match av with
  | .ref a :: _ => hK h a = c + 1 ∧ P
  | _ => False
def o_callV (g : GT) (M : MD) (c n d : Nat) (K : KT) : KT := fun L st h => gd (okA M n st) (rcv c h (st.take n).reverse (CallV g M d (0, 0) (st.take n).reverse h (fun h' => K L (st.drop n) h')))
def o_callI (g : GT) (M : MD) (c n d : Nat) (K : KT) : KT := fun L st h => gd (okA M n st) (rcv c h (st.take n).reverse (CallI g M d (st.take n).reverse h (fun x h' => K L (.int x :: st.drop n) h')))
def o_callJ (g : GT) (M : MD) (c n d : Nat) (K : KT) : KT := fun L st h => gd (okA M n st) (rcv c h (st.take n).reverse (CallJ g M d (st.take n).reverse h (fun x h' => K L (.long x :: st.drop n) h')))
def o_callR (g : GT) (M : MD) (c n d : Nat) (K : KT) : KT := fun L st h => gd (okA M n st) (rcv c h (st.take n).reverse (CallR g M d (st.take n).reverse h (fun x h' => K L (.ref x :: st.drop n) h')))
def o_callO (g : GT) (M : MD) (c n d : Nat) (K : KT) : KT := fun L st h => gd (okA M n st) (rcv c h (st.take n).reverse (CallO g M d (st.take n).reverse h (fun h' => K L (.null :: st.drop n) h') (fun x h' => K L (.ref x :: st.drop n) h')))
def o_callSV (g : GT) (M : MD) (n d : Nat) (K : KT) : KT := fun L st h => gd (okA M n st) (CallV g M d (0, 0) (st.take n).reverse h (fun h' => K L (st.drop n) h'))
def o_callSI (g : GT) (M : MD) (n d : Nat) (K : KT) : KT := fun L st h => gd (okA M n st) (CallI g M d (st.take n).reverse h (fun x h' => K L (.int x :: st.drop n) h'))
def o_callSJ (g : GT) (M : MD) (n d : Nat) (K : KT) : KT := fun L st h => gd (okA M n st) (CallJ g M d (st.take n).reverse h (fun x h' => K L (.long x :: st.drop n) h'))
def o_callST (g : GT) (M : MD) (n d : Nat) (K : KT) : KT := fun L st h => gd (okA M n st) (CallT g M d (st.take n).reverse h (fun x h' => K L (.float x :: st.drop n) h'))
def o_callN (g : GT) (M : MD) (c n d mc ms : Nat) (K : KT) : KT := fun L st h => gd (okA M n st) (rcv c h (st.take n).reverse (CallV g M d (mc, ms) (st.take n).reverse h (fun h' => K L (st.drop n) h')))
def o_objInit (K : KT) : KT := fun L st h => match st with
  | .ref _ :: st => gd (Nat.ble st.length 4) (K L st h)
  | _ => False
/-- of a method: its words, its name, its room; n arguments beside the object -/
def MB (M : MD) (n : Nat) : Prop := Cond.code M.1 M.2.1 M.2.2.1 M.2.2.2 ∈ lw_good ∧ Cond.initialized M.1.cls ∈ lw_good ∧ (M.1.cls ≠ "java/lang/invoke/MethodHandle" ∧ M.1.cls ≠ "java/lang/invoke/VarHandle" ∧ (parseMethodDescriptor M.1.desc).map (fun d => d.parameters.length) = some n) ∧ plainFor M.1 = true ∧ M.2.2.1 ≤ 45
def MO (M : MD) (c : Nat) : Prop := Cond.instanceMethod M.1 ∈ lw_good ∧ Cond.selects M.1.cls M.1 M.1 ∈ lw_good ∧ c < 11 ∧ cC c = M.1.cls
theorem gd_t {x : Bool} {P : Prop} (h : gd x P) : x = true ∧ P := by
  cases x
  · exact absurd h id
  · exact ⟨rfl, h⟩
theorem okA_t {M : MD} {n : Nat} {st : List Value} (h : okA M n st = true) : (∀ x ∈ (st.take n).reverse, isPad x = false) ∧ (st.take n).reverse.length = n ∧ (st.drop n).length ≤ 4 ∧ (entF (st.take n).reverse).length ≤ M.2.2.1 := by
  unfold okA at h
  simp only [Bool.and_eq_true] at h
  obtain ⟨⟨⟨h1, h2⟩, h3⟩, h4⟩ := h
  refine ⟨fun x hx => ?_, by rw [List.length_reverse]; exact Nat.eq_of_beq_eq_true h2, Nat.le_of_ble_eq_true h3, Nat.le_of_ble_eq_true h4⟩
  have := List.all_eq_true.mp h1 x (List.mem_reverse.mp hx)
  simpa using this
theorem cat_le (v : Value) : v.category ≤ 2 := by cases v <;> simp [Value.category]
theorem cat_sum (g : GT) : ∀ (st : List Value), ((st.map (trv g)).map fun v => v.category).sum ≤ 2 * st.length
  | [] => by simp
  | v :: st => by
    have h := cat_sum g st
    have := cat_le (trv g v)
    simp only [List.map_cons, List.sum_cons, List.length_cons]
    omega
theorem rcv_t {c : Nat} {h : HP} {av : List Value} {P : Prop} (hr : rcv c h av P) : ∃ a As, av = .ref a :: As ∧ hK h a = c + 1 ∧ P := by
  unfold rcv at hr
  split at hr
  · exact ⟨_, _, rfl, hr⟩
  · exact absurd hr id
theorem st_split {n a : Nat} {st As : List Value} (h : (st.take n).reverse = .ref a :: As) : st = As.reverse ++ .ref a :: st.drop n := by
  have e : st.take n = As.reverse ++ [.ref a] := by
    have := congrArg List.reverse h
    simpa using this
  have e2 := List.take_append_drop n st
  rw [e] at e2
  rw [List.append_assoc] at e2
  exact e2.symm
section RUN
variable {p : Program} {e : Env} {R : Room} {s : State} {m : MethodId} {args : Array Value} {below : List Frame} {meth : Method} {c : Code} {H : Heap} {locs : List Loc} {cells slots : Nat} {Z : State → Prop}
theorem run_cont {g : GT} {Q : Option Value → HP → Prop} {h : HP} {mc ms pc : Nat} {ls : Array Slot} {st0 rest : List Value} {a : Array Value} (hr : va_Run p (gl g) e R s m args below meth c H locs cells slots mc ms (F0 m pc ls st0) rest (Q_of g Q a) (fun q => gz g ≤ q)) (hH : Hp g h s H locs)
    (kk : ∀ (r : Option Value) (h' : HP) (H1 : Heap) (locs1 : List Loc), Q r h' → Hp g h' s H1 locs1 → W p (gl g) e R s m args below meth c H1 locs1 (cells + mc) (slots + ms) Z (F0 m (pc + 3) ls ((r.map (trv g)).toList ++ rest))) : W p (gl g) e R s m args below meth c H locs cells slots Z (F0 m pc ls st0) := by
  intro T hT X
  obtain ⟨v, st₀, t, T', L, h0, X', hL, e1, e2, ⟨r, h', hv, hq, hz, hlow, hC⟩, st⟩ := hr T hT X
  have hv2 : v = r.map (trv g) := Outcome.returned.inj hv
  subst hv2
  rw [h0] at hz hlow
  obtain ⟨t2, a1, b1⟩ := kk r h' T'.heap (locs ++ L) hq ⟨Nat.le_trans hH.1 (by rw [e1]; exact hz), fun q hq2 => by rw [e1, hlow q hq2]; exact hH.2.1 q hq2, fun x hx => by
      rcases List.mem_append.mp hx with q | q
      · exact hH.2.2.1 x q
      · exact hL x q, by rw [e1]; exact hC⟩ T' rfl X'
  exact ⟨t2, st t2 a1, b1⟩
theorem P_pre {g : GT} {h : HP} {av : List Value} {M : MD} {d : Nat} (C : Ctx g M d p R s m args meth c) (hH : Hp g h s H locs) : ∀ U : State, U.heap = H → s.WarmedH U.vm → P_of g h av ((av.map (trv g)).toArray) U := by
  intro U hU hW
  have hG := C.2.2.2.2.2.2.2.2.2.2.1
  have hz := C.2.2.2.2.2.2.2.2.2.2.2
  refine ⟨rfl, hG.warm hW (fun q hq => by rw [hU]; exact hH.2.1 q hq), by rw [hU]; exact Nat.le_trans hz hH.1, by rw [hU]; exact hH.2.2.2⟩
end RUN
section OPS
variable {g : GT} {M : MD} {d : Nat} {b : Nat × Nat} {Q : Option Value → HP → Prop} {pc : Nat} {K K1 K2 : KT} {L st : List Value} {h : HP}
theorem k_return (hd : decode M.2.1 pc = .ok (.return_, 1)) (hr : M.2.2.2 = none) : o_ret Q L st h → Sat g M d b Q pc L st h := by
  intro ho p e R s m args below meth c H locs cells slots Z ls C hH hL hc hs hF
  unfold o_ret at ho
  split at ho
  · exact hF _ h H locs cells slots pc ls ho hH (Nat.le_trans (Nat.le_add_right _ _) hc) (Nat.le_trans (Nat.le_add_right _ _) hs) ⟨hd, hr⟩
  · exact absurd ho id
theorem k_ireturn (hd : decode M.2.1 pc = .ok (.ireturn, 1)) (hr : M.2.2.2 = some .int) : o_iret Q L st h → Sat g M d b Q pc L st h := by
  intro ho p e R s m args below meth c H locs cells slots Z ls C hH hL hc hs hF
  unfold o_iret at ho
  split at ho
  · exact hF _ h H locs cells slots pc ls ho hH (Nat.le_trans (Nat.le_add_right _ _) hc) (Nat.le_trans (Nat.le_add_right _ _) hs) ⟨hd, _, hr, rfl⟩
  · exact absurd ho id
theorem k_zreturn (hd : decode M.2.1 pc = .ok (.ireturn, 1)) (hr : M.2.2.2 = some .boolean) : o_zret Q L st h → Sat g M d b Q pc L st h := by
  intro ho p e R s m args below meth c H locs cells slots Z ls C hH hL hc hs hF
  unfold o_zret at ho
  split at ho
  · exact hF _ h H locs cells slots pc ls ho.2 hH (Nat.le_trans (Nat.le_add_right _ _) hc) (Nat.le_trans (Nat.le_add_right _ _) hs) ⟨hd, _, hr, bool_nar ho.1⟩
  · exact absurd ho id
theorem k_lreturn (hd : decode M.2.1 pc = .ok (.lreturn, 1)) (hr : M.2.2.2 = some .long) : o_lret Q L st h → Sat g M d b Q pc L st h := by
  intro ho p e R s m args below meth c H locs cells slots Z ls C hH hL hc hs hF
  unfold o_lret at ho
  split at ho
  · exact hF _ h H locs cells slots pc ls ho hH (Nat.le_trans (Nat.le_add_right _ _) hc) (Nat.le_trans (Nat.le_add_right _ _) hs) ⟨hd, hr⟩
  · exact absurd ho id
theorem k_areturn (hd : decode M.2.1 pc = .ok (.areturn, 1)) (hr : ∃ x, M.2.2.2 = some (.object x)) : o_aret Q L st h → Sat g M d b Q pc L st h := by
  intro ho p e R s m args below meth c H locs cells slots Z ls C hH hL hc hs hF
  unfold o_aret at ho
  split at ho
  · exact hF _ h H locs cells slots pc ls ho hH (Nat.le_trans (Nat.le_add_right _ _) hc) (Nat.le_trans (Nat.le_add_right _ _) hs) ⟨hd, hr⟩
  · exact hF _ h H locs cells slots pc ls ho hH (Nat.le_trans (Nat.le_add_right _ _) hc) (Nat.le_trans (Nat.le_add_right _ _) hs) ⟨hd, hr⟩
  · exact hF _ h H locs cells slots pc ls ho hH (Nat.le_trans (Nat.le_add_right _ _) hc) (Nat.le_trans (Nat.le_add_right _ _) hs) ⟨hd, hr⟩
  · exact absurd ho id
set_option maxHeartbeats 4000000 in
theorem k_callV {M2 : MD} {cn np na idx : Nat} (hd : decode M.2.1 pc = .ok (.invokevirtual idx, 3)) (hl : Cond.methodLink M.1.cls idx M2.1 ∈ lw_good) (hm : MB M2 np) (hv : MO M2 cn) (hna : na = np + 1) (n : Nx g M (d + 1) b Q (pc + 3) K) : o_callV g M2 cn na d K L st h → Sat g M (d + 1) b Q pc L st h := by
  intro ho p e R s m args below meth c H locs cells slots Z ls C hH hL hc hs hF
  obtain ⟨hok, ho⟩ := gd_t ho
  obtain ⟨a, As, hav, hk, ho⟩ := rcv_t ho
  obtain ⟨hp, hlen, hrest, hent⟩ := okA_t hok
  obtain ⟨m1, m2, m3, m4, m5⟩ := hm
  obtain ⟨v1, v2, v3, v4⟩ := hv
  rw [hav] at hp hlen hent ho
  have hst := st_split hav
  have met := sat_met m4 hp hent ho
  have hts := C.2.2.2.2.2.2.1
  have hat := hH.2.2.2.at hk (by omega)
  rw [cellE_obj hk v3] at hat
  have hfr := C.2.2.2.2.2.2.2.2.1
  have hlo := C.2.2.2.2.2.2.2.2.2.1
  have hgood : GoodIn lw_good (wsV M.1.cls idx M2.1.cls M2.1 (ws_of M2)) := by
    intro w hw
    unfold wsV at hw
    rcases List.mem_append.mp hw with q | q
    · simp only [List.mem_cons, List.not_mem_nil, or_false] at q
      rcases q with rfl | rfl | rfl | rfl
      · exact ⟨hl, good_of_word (good_all hl)⟩
      · exact ⟨v1, good_of_word (good_all v1)⟩
      · exact ⟨v2, good_of_word (good_all v2)⟩
      · exact ⟨m2, good_of_word (good_all m2)⟩
    · exact good_ws m1 w q
  have hlen2 : (As.map (trv g)).length = np := by simp at hlen ⊢; omega
  have run := va_runV (p := p) (e := e) (R := R) (below := below) (meth := meth) (locs := locs) (cells := cells) (slots := slots) (As := As.map (trv g)) (rest := (st.drop na).map (trv g)) (b := gz g + a) (H := H) (g := F0 m pc ls (st.map (trv g))) ⟨C.1, C.2.1, C.2.2.2.1, C.2.2.2.2.1, hts⟩ met (cwV np hts hgood rfl rfl rfl ⟨rfl, m3⟩ ⟨by show d + 1 ≤ _; omega, by show 8 + (M2.2.2.1 + 11) + 64 * d ≤ _; omega⟩) ⟨P_blind g h _, by have q := va_recv C.2.2.2.2.2.2.2.2.2.2.1.1 (va_P1 hat) (ck_cl v3) (q0 := 0) rfl; rw [v4] at q; exact q, P_pre C hH⟩ rfl hlen2 hL.1 (by show st.map (trv g) = _; have q := congrArg (List.map (trv g)) hst; rw [List.map_append, List.map_cons, List.map_reverse] at q; exact q) (by have := cat_sum g (st.drop na); have q := lv_room (m := m) (pc := pc) (ls := ls) (rest := st.map (trv g)) (st := (st.drop na).map (trv g)) (by omega); exact q) hd ⟨by omega, by omega⟩
  refine run_cont run hH (fun r h' H1 locs1 hq hH1 => ?_)
  · dsimp only at hq
    match r, hq with
    | none, hq => exact n _ _ _ hq p e R s m args below meth c H1 locs1 _ _ Z ls C hH1 hL (by omega) (by omega) hF
set_option maxHeartbeats 4000000 in
theorem k_callSV {M2 : MD} {na idx : Nat} (hd : decode M.2.1 pc = .ok (.invokestatic idx, 3)) (hl : Cond.methodLink M.1.cls idx M2.1 ∈ lw_good) (hm : MB M2 na) (hv : Cond.static M2.1 ∈ lw_good) (n : Nx g M (d + 1) b Q (pc + 3) K) : o_callSV g M2 na d K L st h → Sat g M (d + 1) b Q pc L st h := by
  intro ho p e R s m args below meth c H locs cells slots Z ls C hH hL hc hs hF
  obtain ⟨hok, ho⟩ := gd_t ho
  obtain ⟨hp, hlen, hrest, hent⟩ := okA_t hok
  obtain ⟨m1, m2, m3, m4, m5⟩ := hm
  have met := sat_met m4 hp hent ho
  have hts := C.2.2.2.2.2.2.1
  have hfr := C.2.2.2.2.2.2.2.2.1
  have hlo := C.2.2.2.2.2.2.2.2.2.1
  have hlen2 : (((st.take na).reverse).map (trv g)).length = na := by rw [List.length_map]; exact hlen
  have hst : st.map (trv g) = (((st.take na).reverse).map (trv g)).reverse ++ (st.drop na).map (trv g) := by rw [← List.map_reverse, List.reverse_reverse, ← List.map_append, List.take_append_drop]
  have run := va_runS (p := p) (e := e) (R := R) (below := below) (meth := meth) (locs := locs) (cells := cells) (slots := slots) (As := ((st.take na).reverse).map (trv g)) (rest := (st.drop na).map (trv g)) (H := H) (g := F0 m pc ls (st.map (trv g))) ⟨C.1, C.2.1, C.2.2.2.1, C.2.2.2.2.1, hts⟩ met ⟨callB_of na hts (good_ws m1) rfl rfl rfl (hts _ m2) (hts _ hl) m3 ⟨by show d + 1 ≤ _; omega, by show 8 + (M2.2.2.1 + 11) + 64 * d ≤ _; omega⟩, hts _ hv⟩ ⟨P_blind g h _, P_pre C hH⟩ rfl hlen2 hL.1 hst (by have := cat_sum g (st.drop na); have q := lv_room (m := m) (pc := pc) (ls := ls) (rest := st.map (trv g)) (st := (st.drop na).map (trv g)) (by omega); exact q) hd ⟨by omega, by omega⟩
  refine run_cont run hH (fun r h' H1 locs1 hq hH1 => ?_)
  · dsimp only at hq
    match r, hq with
    | none, hq => exact n _ _ _ hq p e R s m args below meth c H1 locs1 _ _ Z ls C hH1 hL (by omega) (by omega) hF
set_option maxHeartbeats 4000000 in
theorem k_callI {M2 : MD} {cn np na idx : Nat} (hd : decode M.2.1 pc = .ok (.invokevirtual idx, 3)) (hl : Cond.methodLink M.1.cls idx M2.1 ∈ lw_good) (hm : MB M2 np) (hv : MO M2 cn) (hna : na = np + 1) (n : Nx g M (d + 1) b Q (pc + 3) K) : o_callI g M2 cn na d K L st h → Sat g M (d + 1) b Q pc L st h := by
  intro ho p e R s m args below meth c H locs cells slots Z ls C hH hL hc hs hF
  obtain ⟨hok, ho⟩ := gd_t ho
  obtain ⟨a, As, hav, hk, ho⟩ := rcv_t ho
  obtain ⟨hp, hlen, hrest, hent⟩ := okA_t hok
  obtain ⟨m1, m2, m3, m4, m5⟩ := hm
  obtain ⟨v1, v2, v3, v4⟩ := hv
  rw [hav] at hp hlen hent ho
  have hst := st_split hav
  have met := sat_met m4 hp hent ho
  have hts := C.2.2.2.2.2.2.1
  have hat := hH.2.2.2.at hk (by omega)
  rw [cellE_obj hk v3] at hat
  have hfr := C.2.2.2.2.2.2.2.2.1
  have hlo := C.2.2.2.2.2.2.2.2.2.1
  have hgood : GoodIn lw_good (wsV M.1.cls idx M2.1.cls M2.1 (ws_of M2)) := by
    intro w hw
    unfold wsV at hw
    rcases List.mem_append.mp hw with q | q
    · simp only [List.mem_cons, List.not_mem_nil, or_false] at q
      rcases q with rfl | rfl | rfl | rfl
      · exact ⟨hl, good_of_word (good_all hl)⟩
      · exact ⟨v1, good_of_word (good_all v1)⟩
      · exact ⟨v2, good_of_word (good_all v2)⟩
      · exact ⟨m2, good_of_word (good_all m2)⟩
    · exact good_ws m1 w q
  have hlen2 : (As.map (trv g)).length = np := by simp at hlen ⊢; omega
  have run := va_runV (p := p) (e := e) (R := R) (below := below) (meth := meth) (locs := locs) (cells := cells) (slots := slots) (As := As.map (trv g)) (rest := (st.drop na).map (trv g)) (b := gz g + a) (H := H) (g := F0 m pc ls (st.map (trv g))) ⟨C.1, C.2.1, C.2.2.2.1, C.2.2.2.2.1, hts⟩ met (cwV np hts hgood rfl rfl rfl ⟨rfl, m3⟩ ⟨by show d + 1 ≤ _; omega, by show 8 + (M2.2.2.1 + 11) + 64 * d ≤ _; omega⟩) ⟨P_blind g h _, by have q := va_recv C.2.2.2.2.2.2.2.2.2.2.1.1 (va_P1 hat) (ck_cl v3) (q0 := 0) rfl; rw [v4] at q; exact q, P_pre C hH⟩ rfl hlen2 hL.1 (by show st.map (trv g) = _; have q := congrArg (List.map (trv g)) hst; rw [List.map_append, List.map_cons, List.map_reverse] at q; exact q) (by have := cat_sum g (st.drop na); have q := lv_room (m := m) (pc := pc) (ls := ls) (rest := st.map (trv g)) (st := (st.drop na).map (trv g)) (by omega); exact q) hd ⟨by omega, by omega⟩
  refine run_cont run hH (fun r h' H1 locs1 hq hH1 => ?_)
  · dsimp only at hq
    match r, hq with
    | some (.int x), hq => exact n _ _ _ hq p e R s m args below meth c H1 locs1 _ _ Z ls C hH1 hL (by omega) (by omega) hF
set_option maxHeartbeats 4000000 in
theorem k_callSI {M2 : MD} {na idx : Nat} (hd : decode M.2.1 pc = .ok (.invokestatic idx, 3)) (hl : Cond.methodLink M.1.cls idx M2.1 ∈ lw_good) (hm : MB M2 na) (hv : Cond.static M2.1 ∈ lw_good) (n : Nx g M (d + 1) b Q (pc + 3) K) : o_callSI g M2 na d K L st h → Sat g M (d + 1) b Q pc L st h := by
  intro ho p e R s m args below meth c H locs cells slots Z ls C hH hL hc hs hF
  obtain ⟨hok, ho⟩ := gd_t ho
  obtain ⟨hp, hlen, hrest, hent⟩ := okA_t hok
  obtain ⟨m1, m2, m3, m4, m5⟩ := hm
  have met := sat_met m4 hp hent ho
  have hts := C.2.2.2.2.2.2.1
  have hfr := C.2.2.2.2.2.2.2.2.1
  have hlo := C.2.2.2.2.2.2.2.2.2.1
  have hlen2 : (((st.take na).reverse).map (trv g)).length = na := by rw [List.length_map]; exact hlen
  have hst : st.map (trv g) = (((st.take na).reverse).map (trv g)).reverse ++ (st.drop na).map (trv g) := by rw [← List.map_reverse, List.reverse_reverse, ← List.map_append, List.take_append_drop]
  have run := va_runS (p := p) (e := e) (R := R) (below := below) (meth := meth) (locs := locs) (cells := cells) (slots := slots) (As := ((st.take na).reverse).map (trv g)) (rest := (st.drop na).map (trv g)) (H := H) (g := F0 m pc ls (st.map (trv g))) ⟨C.1, C.2.1, C.2.2.2.1, C.2.2.2.2.1, hts⟩ met ⟨callB_of na hts (good_ws m1) rfl rfl rfl (hts _ m2) (hts _ hl) m3 ⟨by show d + 1 ≤ _; omega, by show 8 + (M2.2.2.1 + 11) + 64 * d ≤ _; omega⟩, hts _ hv⟩ ⟨P_blind g h _, P_pre C hH⟩ rfl hlen2 hL.1 hst (by have := cat_sum g (st.drop na); have q := lv_room (m := m) (pc := pc) (ls := ls) (rest := st.map (trv g)) (st := (st.drop na).map (trv g)) (by omega); exact q) hd ⟨by omega, by omega⟩
  refine run_cont run hH (fun r h' H1 locs1 hq hH1 => ?_)
  · dsimp only at hq
    match r, hq with
    | some (.int x), hq => exact n _ _ _ hq p e R s m args below meth c H1 locs1 _ _ Z ls C hH1 hL (by omega) (by omega) hF
set_option maxHeartbeats 4000000 in
theorem k_callJ {M2 : MD} {cn np na idx : Nat} (hd : decode M.2.1 pc = .ok (.invokevirtual idx, 3)) (hl : Cond.methodLink M.1.cls idx M2.1 ∈ lw_good) (hm : MB M2 np) (hv : MO M2 cn) (hna : na = np + 1) (n : Nx g M (d + 1) b Q (pc + 3) K) : o_callJ g M2 cn na d K L st h → Sat g M (d + 1) b Q pc L st h := by
  intro ho p e R s m args below meth c H locs cells slots Z ls C hH hL hc hs hF
  obtain ⟨hok, ho⟩ := gd_t ho
  obtain ⟨a, As, hav, hk, ho⟩ := rcv_t ho
  obtain ⟨hp, hlen, hrest, hent⟩ := okA_t hok
  obtain ⟨m1, m2, m3, m4, m5⟩ := hm
  obtain ⟨v1, v2, v3, v4⟩ := hv
  rw [hav] at hp hlen hent ho
  have hst := st_split hav
  have met := sat_met m4 hp hent ho
  have hts := C.2.2.2.2.2.2.1
  have hat := hH.2.2.2.at hk (by omega)
  rw [cellE_obj hk v3] at hat
  have hfr := C.2.2.2.2.2.2.2.2.1
  have hlo := C.2.2.2.2.2.2.2.2.2.1
  have hgood : GoodIn lw_good (wsV M.1.cls idx M2.1.cls M2.1 (ws_of M2)) := by
    intro w hw
    unfold wsV at hw
    rcases List.mem_append.mp hw with q | q
    · simp only [List.mem_cons, List.not_mem_nil, or_false] at q
      rcases q with rfl | rfl | rfl | rfl
      · exact ⟨hl, good_of_word (good_all hl)⟩
      · exact ⟨v1, good_of_word (good_all v1)⟩
      · exact ⟨v2, good_of_word (good_all v2)⟩
      · exact ⟨m2, good_of_word (good_all m2)⟩
    · exact good_ws m1 w q
  have hlen2 : (As.map (trv g)).length = np := by simp at hlen ⊢; omega
  have run := va_runV (p := p) (e := e) (R := R) (below := below) (meth := meth) (locs := locs) (cells := cells) (slots := slots) (As := As.map (trv g)) (rest := (st.drop na).map (trv g)) (b := gz g + a) (H := H) (g := F0 m pc ls (st.map (trv g))) ⟨C.1, C.2.1, C.2.2.2.1, C.2.2.2.2.1, hts⟩ met (cwV np hts hgood rfl rfl rfl ⟨rfl, m3⟩ ⟨by show d + 1 ≤ _; omega, by show 8 + (M2.2.2.1 + 11) + 64 * d ≤ _; omega⟩) ⟨P_blind g h _, by have q := va_recv C.2.2.2.2.2.2.2.2.2.2.1.1 (va_P1 hat) (ck_cl v3) (q0 := 0) rfl; rw [v4] at q; exact q, P_pre C hH⟩ rfl hlen2 hL.1 (by show st.map (trv g) = _; have q := congrArg (List.map (trv g)) hst; rw [List.map_append, List.map_cons, List.map_reverse] at q; exact q) (by have := cat_sum g (st.drop na); have q := lv_room (m := m) (pc := pc) (ls := ls) (rest := st.map (trv g)) (st := (st.drop na).map (trv g)) (by omega); exact q) hd ⟨by omega, by omega⟩
  refine run_cont run hH (fun r h' H1 locs1 hq hH1 => ?_)
  · dsimp only at hq
    match r, hq with
    | some (.long x), hq => exact n _ _ _ hq p e R s m args below meth c H1 locs1 _ _ Z ls C hH1 hL (by omega) (by omega) hF
set_option maxHeartbeats 4000000 in
theorem k_callSJ {M2 : MD} {na idx : Nat} (hd : decode M.2.1 pc = .ok (.invokestatic idx, 3)) (hl : Cond.methodLink M.1.cls idx M2.1 ∈ lw_good) (hm : MB M2 na) (hv : Cond.static M2.1 ∈ lw_good) (n : Nx g M (d + 1) b Q (pc + 3) K) : o_callSJ g M2 na d K L st h → Sat g M (d + 1) b Q pc L st h := by
  intro ho p e R s m args below meth c H locs cells slots Z ls C hH hL hc hs hF
  obtain ⟨hok, ho⟩ := gd_t ho
  obtain ⟨hp, hlen, hrest, hent⟩ := okA_t hok
  obtain ⟨m1, m2, m3, m4, m5⟩ := hm
  have met := sat_met m4 hp hent ho
  have hts := C.2.2.2.2.2.2.1
  have hfr := C.2.2.2.2.2.2.2.2.1
  have hlo := C.2.2.2.2.2.2.2.2.2.1
  have hlen2 : (((st.take na).reverse).map (trv g)).length = na := by rw [List.length_map]; exact hlen
  have hst : st.map (trv g) = (((st.take na).reverse).map (trv g)).reverse ++ (st.drop na).map (trv g) := by rw [← List.map_reverse, List.reverse_reverse, ← List.map_append, List.take_append_drop]
  have run := va_runS (p := p) (e := e) (R := R) (below := below) (meth := meth) (locs := locs) (cells := cells) (slots := slots) (As := ((st.take na).reverse).map (trv g)) (rest := (st.drop na).map (trv g)) (H := H) (g := F0 m pc ls (st.map (trv g))) ⟨C.1, C.2.1, C.2.2.2.1, C.2.2.2.2.1, hts⟩ met ⟨callB_of na hts (good_ws m1) rfl rfl rfl (hts _ m2) (hts _ hl) m3 ⟨by show d + 1 ≤ _; omega, by show 8 + (M2.2.2.1 + 11) + 64 * d ≤ _; omega⟩, hts _ hv⟩ ⟨P_blind g h _, P_pre C hH⟩ rfl hlen2 hL.1 hst (by have := cat_sum g (st.drop na); have q := lv_room (m := m) (pc := pc) (ls := ls) (rest := st.map (trv g)) (st := (st.drop na).map (trv g)) (by omega); exact q) hd ⟨by omega, by omega⟩
  refine run_cont run hH (fun r h' H1 locs1 hq hH1 => ?_)
  · dsimp only at hq
    match r, hq with
    | some (.long x), hq => exact n _ _ _ hq p e R s m args below meth c H1 locs1 _ _ Z ls C hH1 hL (by omega) (by omega) hF
set_option maxHeartbeats 4000000 in
theorem k_callR {M2 : MD} {cn np na idx : Nat} (hd : decode M.2.1 pc = .ok (.invokevirtual idx, 3)) (hl : Cond.methodLink M.1.cls idx M2.1 ∈ lw_good) (hm : MB M2 np) (hv : MO M2 cn) (hna : na = np + 1) (n : Nx g M (d + 1) b Q (pc + 3) K) : o_callR g M2 cn na d K L st h → Sat g M (d + 1) b Q pc L st h := by
  intro ho p e R s m args below meth c H locs cells slots Z ls C hH hL hc hs hF
  obtain ⟨hok, ho⟩ := gd_t ho
  obtain ⟨a, As, hav, hk, ho⟩ := rcv_t ho
  obtain ⟨hp, hlen, hrest, hent⟩ := okA_t hok
  obtain ⟨m1, m2, m3, m4, m5⟩ := hm
  obtain ⟨v1, v2, v3, v4⟩ := hv
  rw [hav] at hp hlen hent ho
  have hst := st_split hav
  have met := sat_met m4 hp hent ho
  have hts := C.2.2.2.2.2.2.1
  have hat := hH.2.2.2.at hk (by omega)
  rw [cellE_obj hk v3] at hat
  have hfr := C.2.2.2.2.2.2.2.2.1
  have hlo := C.2.2.2.2.2.2.2.2.2.1
  have hgood : GoodIn lw_good (wsV M.1.cls idx M2.1.cls M2.1 (ws_of M2)) := by
    intro w hw
    unfold wsV at hw
    rcases List.mem_append.mp hw with q | q
    · simp only [List.mem_cons, List.not_mem_nil, or_false] at q
      rcases q with rfl | rfl | rfl | rfl
      · exact ⟨hl, good_of_word (good_all hl)⟩
      · exact ⟨v1, good_of_word (good_all v1)⟩
      · exact ⟨v2, good_of_word (good_all v2)⟩
      · exact ⟨m2, good_of_word (good_all m2)⟩
    · exact good_ws m1 w q
  have hlen2 : (As.map (trv g)).length = np := by simp at hlen ⊢; omega
  have run := va_runV (p := p) (e := e) (R := R) (below := below) (meth := meth) (locs := locs) (cells := cells) (slots := slots) (As := As.map (trv g)) (rest := (st.drop na).map (trv g)) (b := gz g + a) (H := H) (g := F0 m pc ls (st.map (trv g))) ⟨C.1, C.2.1, C.2.2.2.1, C.2.2.2.2.1, hts⟩ met (cwV np hts hgood rfl rfl rfl ⟨rfl, m3⟩ ⟨by show d + 1 ≤ _; omega, by show 8 + (M2.2.2.1 + 11) + 64 * d ≤ _; omega⟩) ⟨P_blind g h _, by have q := va_recv C.2.2.2.2.2.2.2.2.2.2.1.1 (va_P1 hat) (ck_cl v3) (q0 := 0) rfl; rw [v4] at q; exact q, P_pre C hH⟩ rfl hlen2 hL.1 (by show st.map (trv g) = _; have q := congrArg (List.map (trv g)) hst; rw [List.map_append, List.map_cons, List.map_reverse] at q; exact q) (by have := cat_sum g (st.drop na); have q := lv_room (m := m) (pc := pc) (ls := ls) (rest := st.map (trv g)) (st := (st.drop na).map (trv g)) (by omega); exact q) hd ⟨by omega, by omega⟩
  refine run_cont run hH (fun r h' H1 locs1 hq hH1 => ?_)
  · dsimp only at hq
    match r, hq with
    | some (.ref x), hq => exact n _ _ _ hq p e R s m args below meth c H1 locs1 _ _ Z ls C hH1 hL (by omega) (by omega) hF
set_option maxHeartbeats 4000000 in
theorem k_callO {M2 : MD} {cn np na idx : Nat} (hd : decode M.2.1 pc = .ok (.invokevirtual idx, 3)) (hl : Cond.methodLink M.1.cls idx M2.1 ∈ lw_good) (hm : MB M2 np) (hv : MO M2 cn) (hna : na = np + 1) (n : Nx g M (d + 1) b Q (pc + 3) K) : o_callO g M2 cn na d K L st h → Sat g M (d + 1) b Q pc L st h := by
  intro ho p e R s m args below meth c H locs cells slots Z ls C hH hL hc hs hF
  obtain ⟨hok, ho⟩ := gd_t ho
  obtain ⟨a, As, hav, hk, ho⟩ := rcv_t ho
  obtain ⟨hp, hlen, hrest, hent⟩ := okA_t hok
  obtain ⟨m1, m2, m3, m4, m5⟩ := hm
  obtain ⟨v1, v2, v3, v4⟩ := hv
  rw [hav] at hp hlen hent ho
  have hst := st_split hav
  have met := sat_met m4 hp hent ho
  have hts := C.2.2.2.2.2.2.1
  have hat := hH.2.2.2.at hk (by omega)
  rw [cellE_obj hk v3] at hat
  have hfr := C.2.2.2.2.2.2.2.2.1
  have hlo := C.2.2.2.2.2.2.2.2.2.1
  have hgood : GoodIn lw_good (wsV M.1.cls idx M2.1.cls M2.1 (ws_of M2)) := by
    intro w hw
    unfold wsV at hw
    rcases List.mem_append.mp hw with q | q
    · simp only [List.mem_cons, List.not_mem_nil, or_false] at q
      rcases q with rfl | rfl | rfl | rfl
      · exact ⟨hl, good_of_word (good_all hl)⟩
      · exact ⟨v1, good_of_word (good_all v1)⟩
      · exact ⟨v2, good_of_word (good_all v2)⟩
      · exact ⟨m2, good_of_word (good_all m2)⟩
    · exact good_ws m1 w q
  have hlen2 : (As.map (trv g)).length = np := by simp at hlen ⊢; omega
  have run := va_runV (p := p) (e := e) (R := R) (below := below) (meth := meth) (locs := locs) (cells := cells) (slots := slots) (As := As.map (trv g)) (rest := (st.drop na).map (trv g)) (b := gz g + a) (H := H) (g := F0 m pc ls (st.map (trv g))) ⟨C.1, C.2.1, C.2.2.2.1, C.2.2.2.2.1, hts⟩ met (cwV np hts hgood rfl rfl rfl ⟨rfl, m3⟩ ⟨by show d + 1 ≤ _; omega, by show 8 + (M2.2.2.1 + 11) + 64 * d ≤ _; omega⟩) ⟨P_blind g h _, by have q := va_recv C.2.2.2.2.2.2.2.2.2.2.1.1 (va_P1 hat) (ck_cl v3) (q0 := 0) rfl; rw [v4] at q; exact q, P_pre C hH⟩ rfl hlen2 hL.1 (by show st.map (trv g) = _; have q := congrArg (List.map (trv g)) hst; rw [List.map_append, List.map_cons, List.map_reverse] at q; exact q) (by have := cat_sum g (st.drop na); have q := lv_room (m := m) (pc := pc) (ls := ls) (rest := st.map (trv g)) (st := (st.drop na).map (trv g)) (by omega); exact q) hd ⟨by omega, by omega⟩
  refine run_cont run hH (fun r h' H1 locs1 hq hH1 => ?_)
  · dsimp only at hq
    match r, hq with
    | some (.ref x), hq => exact n _ _ _ hq p e R s m args below meth c H1 locs1 _ _ Z ls C hH1 hL (by omega) (by omega) hF
    | some .null, hq => exact n _ _ _ hq p e R s m args below meth c H1 locs1 _ _ Z ls C hH1 hL (by omega) (by omega) hF
set_option maxHeartbeats 4000000 in
theorem k_callST {M2 : MD} {na idx : Nat} (hd : decode M.2.1 pc = .ok (.invokestatic idx, 3)) (hl : Cond.methodLink M.1.cls idx M2.1 ∈ lw_good) (hm : MB M2 na) (hv : Cond.static M2.1 ∈ lw_good) (n : Nx g M (d + 1) b Q (pc + 3) K) : o_callST g M2 na d K L st h → Sat g M (d + 1) b Q pc L st h := by
  intro ho p e R s m args below meth c H locs cells slots Z ls C hH hL hc hs hF
  obtain ⟨hok, ho⟩ := gd_t ho
  obtain ⟨hp, hlen, hrest, hent⟩ := okA_t hok
  obtain ⟨m1, m2, m3, m4, m5⟩ := hm
  have met := sat_met m4 hp hent ho
  have hts := C.2.2.2.2.2.2.1
  have hfr := C.2.2.2.2.2.2.2.2.1
  have hlo := C.2.2.2.2.2.2.2.2.2.1
  have hlen2 : (((st.take na).reverse).map (trv g)).length = na := by rw [List.length_map]; exact hlen
  have hst : st.map (trv g) = (((st.take na).reverse).map (trv g)).reverse ++ (st.drop na).map (trv g) := by rw [← List.map_reverse, List.reverse_reverse, ← List.map_append, List.take_append_drop]
  have run := va_runS (p := p) (e := e) (R := R) (below := below) (meth := meth) (locs := locs) (cells := cells) (slots := slots) (As := ((st.take na).reverse).map (trv g)) (rest := (st.drop na).map (trv g)) (H := H) (g := F0 m pc ls (st.map (trv g))) ⟨C.1, C.2.1, C.2.2.2.1, C.2.2.2.2.1, hts⟩ met ⟨callB_of na hts (good_ws m1) rfl rfl rfl (hts _ m2) (hts _ hl) m3 ⟨by show d + 1 ≤ _; omega, by show 8 + (M2.2.2.1 + 11) + 64 * d ≤ _; omega⟩, hts _ hv⟩ ⟨P_blind g h _, P_pre C hH⟩ rfl hlen2 hL.1 hst (by have := cat_sum g (st.drop na); have q := lv_room (m := m) (pc := pc) (ls := ls) (rest := st.map (trv g)) (st := (st.drop na).map (trv g)) (by omega); exact q) hd ⟨by omega, by omega⟩
  refine run_cont run hH (fun r h' H1 locs1 hq hH1 => ?_)
  · dsimp only at hq
    match r, hq with
    | some (.float x), hq => exact n _ _ _ hq p e R s m args below meth c H1 locs1 _ _ Z ls C hH1 hL (by omega) (by omega) hF
set_option maxHeartbeats 4000000 in
theorem k_callN {M2 : MD} {cn np na idx mc ms : Nat} (hd : decode M.2.1 pc = .ok (.invokespecial idx, 3)) (hl : Cond.methodLink M.1.cls idx M2.1 ∈ lw_good) (hm : MB M2 np) (hv : Cond.instanceMethod M2.1 ∈ lw_good ∧ M2.1.name = "<init>" ∧ M2.2.2.2 = none) (hna : na = np + 1) (hb1 : mc ≤ b.1) (hb2 : ms ≤ b.2) (n : Nx g M (d + 1) (b.1 - mc, b.2 - ms) Q (pc + 3) K) : o_callN g M2 cn na d mc ms K L st h → Sat g M (d + 1) b Q pc L st h := by
  intro ho p e R s m args below meth c H locs cells slots Z ls C hH hL hc hs hF
  obtain ⟨hok, ho⟩ := gd_t ho
  obtain ⟨a, As, hav, hk, ho⟩ := rcv_t ho
  obtain ⟨hp, hlen, hrest, hent⟩ := okA_t hok
  obtain ⟨m1, m2, m3, m4, m5⟩ := hm
  rw [hav] at hp hlen hent ho
  have hst := st_split hav
  have met := sat_met m4 hp hent ho
  have hts := C.2.2.2.2.2.2.1
  have hfr := C.2.2.2.2.2.2.2.2.1
  have hlo := C.2.2.2.2.2.2.2.2.2.1
  have hlen2 : (As.map (trv g)).length = np := by simp at hlen ⊢; omega
  have cw := callB_of (R := R) (bytes := M2.2.1) (maxL := M2.2.2.1) (ret := none) (rm := rm_of d mc ms) (ws := ws_of M2) (ws' := lw_good) np hts (good_ws m1) (by rw [← hv.2.2]; rfl) rfl rfl (hts _ m2) (hts _ hl) m3 ⟨by show d + 1 ≤ _; omega, by show 8 + (M2.2.2.1 + 11) + 64 * d ≤ _; omega⟩
  have run := va_runI (p := p) (e := e) (R := R) (below := below) (meth := meth) (locs := locs) (cells := cells) (slots := slots) (As := As.map (trv g)) (rest := (st.drop na).map (trv g)) (b := gz g + a) (H := H) (g := F0 m pc ls (st.map (trv g))) ⟨C.1, C.2.1, C.2.2.2.1, C.2.2.2.2.1, hts⟩ met ⟨cw, hv.2.1, hts _ hv.1⟩ ⟨P_blind g h _, P_pre C hH⟩ rfl hlen2 hL.1 (by show st.map (trv g) = _; have q := congrArg (List.map (trv g)) hst; rw [List.map_append, List.map_cons, List.map_reverse] at q; exact q) (by have := cat_sum g (st.drop na); have q := lv_room (m := m) (pc := pc) (ls := ls) (rest := st.map (trv g)) (st := (st.drop na).map (trv g)) (by omega); exact q) hd ⟨by omega, by omega⟩
  refine run_cont run hH (fun r h' H1 locs1 hq hH1 => ?_)
  · dsimp only at hq
    match r, hq with
    | none, hq => exact n _ _ _ hq p e R s m args below meth c H1 locs1 _ _ Z ls C hH1 hL (by show _ + (b.1 - mc) ≤ _; omega) (by show _ + (b.2 - ms) ≤ _; omega) hF
set_option maxHeartbeats 4000000 in
theorem k_callNx {M2 : MD} {cn np na idx mc ms : Nat} (hd : decode M.2.1 pc = .ok (.invokespecial idx, 3)) (hl : Cond.methodLinkNest M.1.cls idx M2.1 RX9 ∈ lw_nest) (hm : MB M2 np) (hv : Cond.instanceMethod M2.1 ∈ lw_good ∧ M2.1.name = "<init>" ∧ M2.2.2.2 = none) (hna : na = np + 1) (hb1 : mc ≤ b.1) (hb2 : ms ≤ b.2) (n : Nx g M (d + 1) (b.1 - mc, b.2 - ms) Q (pc + 3) K) : o_callN g M2 cn na d mc ms K L st h → Sat g M (d + 1) b Q pc L st h := by
  intro ho p e R s m args below meth c H locs cells slots Z ls C hH hL hc hs hF
  obtain ⟨hok, ho⟩ := gd_t ho
  obtain ⟨a, As, hav, hk, ho⟩ := rcv_t ho
  obtain ⟨hp, hlen, hrest, hent⟩ := okA_t hok
  obtain ⟨m1, m2, m3, m4, m5⟩ := hm
  rw [hav] at hp hlen hent ho
  have hst := st_split hav
  have met := sat_met m4 hp hent ho
  have hts := C.2.2.2.2.2.2.1
  have hfr := C.2.2.2.2.2.2.2.2.1
  have hlo := C.2.2.2.2.2.2.2.2.2.1
  have hlen2 : (As.map (trv g)).length = np := by simp at hlen ⊢; omega
  have cw := va_cnB (R := R) (bytes := M2.2.1) (maxL := M2.2.2.1) (ret := none) (rm := rm_of d mc ms) (ws := ws_of M2) (ws' := lw_good) np hts (good_ws m1) (by rw [← hv.2.2]; rfl) rfl rfl (C.2.2.2.2.2.2.2.2.2.2.1.2.1 _ hl) (hts _ m2) m3 ⟨by show d + 1 ≤ _; omega, by show 8 + (M2.2.2.1 + 11) + 64 * d ≤ _; omega⟩
  have run := va_runIN (p := p) (e := e) (R := R) (below := below) (meth := meth) (locs := locs) (cells := cells) (slots := slots) (As := As.map (trv g)) (rest := (st.drop na).map (trv g)) (b := gz g + a) (H := H) (g := F0 m pc ls (st.map (trv g))) ⟨C.1, C.2.1, C.2.2.2.1, C.2.2.2.2.1, hts⟩ met ⟨cw, hv.2.1, hts _ hv.1⟩ ⟨P_blind g h _, P_pre C hH⟩ rfl hlen2 hL.1 (by show st.map (trv g) = _; have q := congrArg (List.map (trv g)) hst; rw [List.map_append, List.map_cons, List.map_reverse] at q; exact q) (by have := cat_sum g (st.drop na); have q := lv_room (m := m) (pc := pc) (ls := ls) (rest := st.map (trv g)) (st := (st.drop na).map (trv g)) (by omega); exact q) hd ⟨by omega, by omega⟩
  refine run_cont run hH (fun r h' H1 locs1 hq hH1 => ?_)
  · dsimp only at hq
    match r, hq with
    | none, hq => exact n _ _ _ hq p e R s m args below meth c H1 locs1 _ _ Z ls C hH1 hL (by show _ + (b.1 - mc) ≤ _; omega) (by show _ + (b.2 - ms) ≤ _; omega) hF
def fgt : List Nat → List Value → List Value
  | [], L => L
  | i :: is, L => fgt is (L.set i (.double 0))
def o_fgt (is : List Nat) (K : KT) : KT := fun L st h => K (fgt is L) st h
theorem LH.fgt {g : GT} {ls : Array Slot} {n : Nat} : ∀ (is : List Nat) (L : List Value), LH g ls n L → LH g ls n (fgt is L)
  | [], _, h => h
  | i :: is, L, h => LH.fgt is _ ⟨h.1, h.2.1, fun j v hv hp => by
    by_cases hj : i = j
    · subst hj
      by_cases hl : i < L.length
      · rw [List.getElem?_set_self hl] at hv
        cases hv
        simp [isPad] at hp
      · rw [List.getElem?_eq_none (by simpa using Nat.le_of_not_lt hl)] at hv
        cases hv
    · rw [List.getElem?_set_ne hj] at hv
      exact h.2.2 j v hv hp⟩
/-- some locals are not needed any more -/
theorem k_fgt {is : List Nat} (n : Nx g M d b Q pc K) : o_fgt is K L st h → Sat g M d b Q pc L st h := by
  intro ho p e R s m args below meth c H locs cells slots Z ls C hH hL hc hs hF
  exact n _ _ _ ho p e R s m args below meth c H locs cells slots Z ls C hH (hL.fgt is _) hc hs hF
theorem k_ldcwS (q : UInt32) (hq : q.toNat < 24) (hd : decode M.2.1 pc = .ok (.ldc_w (stK.getD q.toNat 0), 3)) (hw : M.1.cls = stO.getD q.toNat "") (n : Nx g M d b Q (pc + 3) K) : o_push (.float q) K L st h → Sat g M d b Q pc L st h := by
  intro ho p e R s m args below meth c H locs cells slots Z ls C hH hL hc hs hF
  have hZ := C.2.2.2.2.2.2.2.2.2.2.1.2.2.2.1 _ hq
  have k := n _ _ _ ho p e R s m args below meth c H locs cells slots Z ls C hH hL hc hs hF
  intro T hT X
  obtain ⟨t, a1, b1⟩ := k T hT X
  exact ⟨t, X.ldcStringW C.1 (by rw [← hw]; exact C.2.2.2.2.1) (text := stX.getD q.toNat "") (a := gS g q.toNat) hZ.1 hZ.2 (g := F0 m pc ls (st.map (trv g))) rfl (by rw [C.2.1]; exact hd) t a1, b1⟩
theorem k_objInit {idx : Nat} (hd : decode M.2.1 pc = .ok (.invokespecial idx, 3)) (hl : Cond.methodLink M.1.cls idx Lib.objectInit ∈ lw_good) (h1 : Cond.instanceMethod Lib.objectInit ∈ lw_good) (h2 : Cond.code Lib.objectInit ⟨#[0xb1]⟩ 1 none ∈ lw_good) (n : Nx g M (d + 1) b Q (pc + 3) K) : o_objInit K L st h → Sat g M (d + 1) b Q pc L st h := by
  intro ho p e R s m args below meth c H locs cells slots Z ls C hH hL hc hs hF
  unfold o_objInit at ho
  split at ho
  · next a st2 =>
    obtain ⟨hok, ho⟩ := gd_t ho
    have hfr := C.2.2.2.2.2.2.2.2.1
    have hlo := C.2.2.2.2.2.2.2.2.2.1
    have hlen := Nat.le_of_ble_eq_true hok
    have hts := C.2.2.2.2.2.2.1
    exact W.objInit C.1 C.2.1 C.2.2.2.2.1 (hts _ hl) (hts _ h1) (hts _ h2) rfl (hL.1.trans C.2.2.2.1.symm) rfl hd (by omega) (by have := cat_sum g st2; have q := lv_room (m := m) (pc := pc) (ls := ls) (rest := (Value.ref a :: st2).map (trv g)) (st := st2.map (trv g)) (by omega); omega) (n _ _ _ ho p e R s m args below meth c H locs cells slots Z ls C hH hL hc hs hF)
  · exact absurd ho id
end OPS
