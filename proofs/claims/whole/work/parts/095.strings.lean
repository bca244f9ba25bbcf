/-! constant texts: their cells lie below the first address -/
def strn (t : UInt32) : Nat := stLen.getD t.toNat 0
def strb (t : UInt32) (i : Nat) : Int32 := (stByt.getD t.toNat []).getD i 0
def o_sgV (K : KT) : KT := fun L st h => match st with
  | .float t :: st => t.toNat < 24 ∧ K L (.float (t + 100) :: st) h
  | _ => False
def o_sgC (K : KT) : KT := fun L st h => match st with
  | .float t :: st => t.toNat < 24 ∧ K L (.int 0 :: st) h
  | _ => False
def o_slA (K : KT) : KT := fun L st h => match st with
  | .float u :: st => ∃ t : UInt32, u = t + 100 ∧ t.toNat < 24 ∧ K L (.int (Int32.ofNat (strn t)) :: st) h
  | _ => False
def o_sbl (K : KT) : KT := fun L st h => match st with
  | .int i :: .float u :: st => ∃ t : UInt32, u = t + 100 ∧ t.toNat < 24 ∧ vp_in i (strn t) ∧ K L (.int (strb t i.toNatClampNeg) :: st) h
  | _ => False
/-- a constant that is a reference or null -/
def o_fmt (K : KT) : KT := fun L st h => K L (.float 200 :: st) h ∧ K L (.null :: st) h
def o_nret (ty : FieldType) (Q : Option Value → HP → Prop) : KT := fun _ st h => match st with
  | [.int x] => narrow ty (.int x) = .int x ∧ Q (some (.int x)) h
  | _ => False
def rcs (av : List Value) (P : Prop) : Prop := match av with
  | .float t :: _ => t.toNat < 24 ∧ P
  | _ => False
def o_callIs (g : GT) (M : MD) (n d : Nat) (K : KT) : KT := fun L st h => gd (okA M n st) (rcs (st.take n).reverse (CallI g M d (st.take n).reverse h (fun x h' => K L (.int x :: st.drop n) h')))
def MOs (M : MD) : Prop := Cond.instanceMethod M.1 ∈ lw_good ∧ Cond.selects M.1.cls M.1 M.1 ∈ lw_good ∧ M.1.cls = "java/lang/String"
theorem u100 {t : UInt32} (h : t.toNat < 24) : (t + 100).toNat = 100 + t.toNat := by
  rw [UInt32.toNat_add]
  have : (100 : UInt32).toNat = 100 := rfl
  rw [this]
  omega
theorem rcs_t {av : List Value} {P : Prop} (hr : rcs av P) : ∃ a As, av = .float a :: As ∧ a.toNat < 24 ∧ P := by
  unfold rcs at hr
  split at hr
  · exact ⟨_, _, rfl, hr⟩
  · exact absurd hr id
theorem st_splitF {n : Nat} {a : UInt32} {st As : List Value} (h : (st.take n).reverse = .float a :: As) : st = As.reverse ++ .float a :: st.drop n := by
  have e : st.take n = As.reverse ++ [.float a] := by
    have := congrArg List.reverse h
    simpa using this
  have e2 := List.take_append_drop n st
  rw [e] at e2
  rw [List.append_assoc] at e2
  exact e2.symm
theorem GS.str {g : GT} {s : State} (hG : GS g s) : vk_S 24 stLen stByt (gS g) (fun i => gS g (100 + i)) (fun q => gz g ≤ q) s s.heap := hG.2.2.2.2.1.kept (fun a _ hA => hG.2.2.2.2.2.2.2 a (Nat.not_le.mp hA))
theorem Hp.S {g : GT} {h : HP} {s : State} {H : Heap} {locs : List Loc} (hH : Hp g h s H locs) : va_S (fun q => gz g ≤ q) s.heap H locs := ⟨hH.1, fun q _ h2 => hH.2.1 q (Nat.not_le.mp h2), hH.2.2.1⟩
section OPS
variable {g : GT} {M : MD} {d : Nat} {b : Nat × Nat} {Q : Option Value → HP → Prop} {pc : Nat} {K K1 K2 : KT} {L st : List Value} {h : HP}
theorem k_sgV {idx : Nat} (hd : decode M.2.1 pc = .ok (.getfield idx, 3)) (hl : Cond.fieldLink M.1.cls idx "java/lang/String" "value" "[B" ∈ lw_good) (n : Nx g M d b Q (pc + 3) K) : o_sgV K L st h → Sat g M d b Q pc L st h := by
  intro ho p e R s m args below meth c H locs cells slots Z ls C hH hL hc hs hF
  unfold o_sgV at ho
  split at ho
  · next t st2 =>
    obtain ⟨ht, ho⟩ := ho
    have hG := C.2.2.2.2.2.2.2.2.2.2.1
    have key := n _ _ _ ho p e R s m args below meth c H locs cells slots Z ls C hH hL hc hs hF
    have e1 : trv g (.float (t + 100)) = .ref (gS g (100 + t.toNat)) := by show Value.ref (gS g (t + 100).toNat) = _; rw [u100 ht]
    rw [List.map_cons, e1] at key
    exact vk_getf C.1 C.2.1 (hG.str.1 t.toNat ht).2.2.1 hH.S C.2.2.2.2.1 (C.2.2.2.2.2.2.1 _ hl) (fun _ q => q) hd key
  · exact absurd ho id
theorem k_sgC {idx : Nat} (hd : decode M.2.1 pc = .ok (.getfield idx, 3)) (hl : Cond.fieldLink M.1.cls idx "java/lang/String" "coder" "B" ∈ lw_good) (n : Nx g M d b Q (pc + 3) K) : o_sgC K L st h → Sat g M d b Q pc L st h := by
  intro ho p e R s m args below meth c H locs cells slots Z ls C hH hL hc hs hF
  unfold o_sgC at ho
  split at ho
  · next t st2 =>
    obtain ⟨ht, ho⟩ := ho
    have hG := C.2.2.2.2.2.2.2.2.2.2.1
    exact vk_getf C.1 C.2.1 (hG.str.1 t.toNat ht).2.1 hH.S C.2.2.2.2.1 (C.2.2.2.2.2.2.1 _ hl) (fun _ q => q) hd (n _ _ _ ho p e R s m args below meth c H locs cells slots Z ls C hH hL hc hs hF)
  · exact absurd ho id
theorem k_slA (hd : decode M.2.1 pc = .ok (.arraylength, 1)) (n : Nx g M d b Q (pc + 1) K) : o_slA K L st h → Sat g M d b Q pc L st h := by
  intro ho p e R s m args below meth c H locs cells slots Z ls C hH hL hc hs hF
  unfold o_slA at ho
  split at ho
  · next u st2 =>
    obtain ⟨t, rfl, ht, ho⟩ := ho
    have hG := C.2.2.2.2.2.2.2.2.2.2.1
    have e1 : trv g (.float (t + 100)) = .ref (gS g (100 + t.toNat)) := by show Value.ref (gS g (t + 100).toNat) = _; rw [u100 ht]
    rw [List.map_cons, e1]
    exact va_tlen C.1 C.2.1 (hG.str.1 t.toNat ht).2.2.2 hH.S rfl hd (n _ _ _ ho p e R s m args below meth c H locs cells slots Z ls C hH hL hc hs hF)
  · exact absurd ho id
theorem k_sbl (hd : decode M.2.1 pc = .ok (.baload, 1)) (n : Nx g M d b Q (pc + 1) K) : o_sbl K L st h → Sat g M d b Q pc L st h := by
  intro ho p e R s m args below meth c H locs cells slots Z ls C hH hL hc hs hF
  unfold o_sbl at ho
  split at ho
  · next i u st2 =>
    obtain ⟨t, rfl, ht, hi, ho⟩ := ho
    have hG := C.2.2.2.2.2.2.2.2.2.2.1
    have e1 : trv g (.float (t + 100)) = .ref (gS g (100 + t.toNat)) := by show Value.ref (gS g (t + 100).toNat) = _; rw [u100 ht]
    rw [List.map_cons, List.map_cons, e1]
    exact va_tb C.1 C.2.1 (hG.str.1 t.toNat ht).2.2.2 hH.S hi rfl hd (n _ _ _ ho p e R s m args below meth c H locs cells slots Z ls C hH hL hc hs hF)
  · exact absurd ho id
theorem k_gsC {idx : Nat} (hd : decode M.2.1 pc = .ok (.getstatic idx, 3)) (hl : Cond.fieldLink M.1.cls idx "java/lang/String" "COMPACT_STRINGS" "Z" ∈ lw_good) (n : Nx g M d b Q (pc + 3) K) : o_push (.int 1) K L st h → Sat g M d b Q pc L st h := by
  intro ho p e R s m args below meth c H locs cells slots Z ls C hH hL hc hs hF
  have hG := C.2.2.2.2.2.2.2.2.2.2.1
  exact va_gets C.1 C.2.1 (hG.2.2.2.2.2.1.1.kept (fun a _ hA => hG.2.2.2.2.2.2.2 a (Nat.not_le.mp hA))) hH.S C.2.2.2.2.1 (C.2.2.2.2.2.2.1 _ hl) (fun _ q => q) hd (n _ _ _ ho p e R s m args below meth c H locs cells slots Z ls C hH hL hc hs hF)
theorem k_gsF {idx : Nat} (hd : decode M.2.1 pc = .ok (.getstatic idx, 3)) (hl : Cond.fieldLink M.1.cls idx "jdk/internal/util/Preconditions" "SIOOBE_FORMATTER" "Ljava/util/function/BiFunction;" ∈ lw_good) (n : Nx g M d b Q (pc + 3) K) : o_fmt K L st h → Sat g M d b Q pc L st h := by
  intro ho p e R s m args below meth c H locs cells slots Z ls C hH hL hc hs hF
  have hG := C.2.2.2.2.2.2.2.2.2.2.1
  rcases hG.2.2.2.2.2.1.2 with q | q
  · exact va_gets C.1 C.2.1 (q.kept (fun a _ hA => hG.2.2.2.2.2.2.2 a (Nat.not_le.mp hA))) hH.S C.2.2.2.2.1 (C.2.2.2.2.2.2.1 _ hl) (fun _ q => q) hd (n _ _ _ ho.1 p e R s m args below meth c H locs cells slots Z ls C hH hL hc hs hF)
  · exact va_gets C.1 C.2.1 (q.kept (fun a _ hA => hG.2.2.2.2.2.2.2 a (Nat.not_le.mp hA))) hH.S C.2.2.2.2.1 (C.2.2.2.2.2.2.1 _ hl) (fun _ q => q) hd (n _ _ _ ho.2 p e R s m args below meth c H locs cells slots Z ls C hH hL hc hs hF)
theorem k_nreturn {ty : FieldType} (hd : decode M.2.1 pc = .ok (.ireturn, 1)) (hr : M.2.2.2 = some ty) : o_nret ty Q L st h → Sat g M d b Q pc L st h := by
  intro ho p e R s m args below meth c H locs cells slots Z ls C hH hL hc hs hF
  unfold o_nret at ho
  split at ho
  · exact hF _ h H locs cells slots pc ls ho.2 hH (Nat.le_trans (Nat.le_add_right _ _) hc) (Nat.le_trans (Nat.le_add_right _ _) hs) ⟨hd, _, hr, ho.1⟩
  · exact absurd ho id
set_option maxHeartbeats 4000000 in
theorem k_callIs {M2 : MD} {np na idx : Nat} (hd : decode M.2.1 pc = .ok (.invokevirtual idx, 3)) (hl : Cond.methodLink M.1.cls idx M2.1 ∈ lw_good) (hm : MB M2 np) (hv : MOs M2) (hna : na = np + 1) (n : Nx g M (d + 1) b Q (pc + 3) K) : o_callIs g M2 na d K L st h → Sat g M (d + 1) b Q pc L st h := by
  intro ho p e R s m args below meth c H locs cells slots Z ls C hH hL hc hs hF
  obtain ⟨hok, ho⟩ := gd_t ho
  obtain ⟨a, As, hav, hk, ho⟩ := rcs_t ho
  obtain ⟨hp, hlen, hrest, hent⟩ := okA_t hok
  obtain ⟨m1, m2, m3, m4, m5⟩ := hm
  obtain ⟨v1, v2, v4⟩ := hv
  rw [hav] at hp hlen hent ho
  have hst := st_splitF hav
  have met := sat_met m4 hp hent ho
  have hts := C.2.2.2.2.2.2.1
  have hG := C.2.2.2.2.2.2.2.2.2.2.1
  have hfr := C.2.2.2.2.2.2.2.2.1
  have hlo := C.2.2.2.2.2.2.2.2.2.1
  have hgood : GoodIn lw_good (wsV M.1.cls idx M2.1.cls M2.1 (ws_of M2)) := by
    intro w hw
    unfold wsV at hw
    rcases List.mem_append.mp hw with q | q
    · simp only [List.mem_cons, List.not_mem_nil, or_false] at q
      rcases q with rfl | rfl | rfl | rfl
      · exact ⟨hl, good_of_word (good_all hl)⟩
      · exact ⟨v1, good_of_word (good_all v1)⟩
      · exact ⟨v2, good_of_word (good_all v2)⟩
      · exact ⟨m2, good_of_word (good_all m2)⟩
    · exact good_ws m1 w q
  have hlen2 : (As.map (trv g)).length = np := by simp at hlen ⊢; omega
  have run := va_runV (p := p) (e := e) (R := R) (below := below) (meth := meth) (locs := locs) (cells := cells) (slots := slots) (As := As.map (trv g)) (rest := (st.drop na).map (trv g)) (b := gS g a.toNat) (H := H) (g := F0 m pc ls (st.map (trv g))) ⟨C.1, C.2.1, C.2.2.2.1, C.2.2.2.2.1, hts⟩ met (cwV np hts hgood rfl rfl rfl ⟨rfl, m3⟩ ⟨by show d + 1 ≤ _; omega, by show 8 + (M2.2.2.1 + 11) + 64 * d ≤ _; omega⟩) ⟨P_blind g h _, by have q := vk_recv hG.str hk hH.S; rw [v4]; exact q, P_pre C hH⟩ rfl hlen2 hL.1 (by show st.map (trv g) = _; have q := congrArg (List.map (trv g)) hst; rw [List.map_append, List.map_cons, List.map_reverse] at q; exact q) (by have := cat_sum g (st.drop na); have q := lv_room (m := m) (pc := pc) (ls := ls) (rest := st.map (trv g)) (st := (st.drop na).map (trv g)) (by omega); exact q) hd ⟨by omega, by omega⟩
  refine run_cont run hH (fun r h' H1 locs1 hq hH1 => ?_)
  · dsimp only at hq
    match r, hq with
    | some (.int x), hq => exact n _ _ _ hq p e R s m args below meth c H1 locs1 _ _ Z ls C hH1 hL (by omega) (by omega) hF
end OPS
