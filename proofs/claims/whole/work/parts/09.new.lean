/-! the instructions as steps of the judgement: switches, new cells -/
def swp (x : Int32) (L st : List Value) (h : HP) : List Int32 → List KT → KT → Prop
  | v :: vs, K :: Ks, Kd => (x = v → K L st h) ∧ (¬ x = v → swp x L st h vs Ks Kd)
  | _, _, Kd => Kd L st h
def o_sw (vs : List Int32) (Ks : List KT) (Kd : KT) : KT := fun L st h => match st with
  | .int x :: st => swp x L st h vs Ks Kd
  | _ => False
theorem swp_get {x : Int32} {L st : List Value} {h : HP} {K Kd : KT} : ∀ (vs : List Int32) (Ks : List KT) (i : Nat), swp x L st h vs Ks Kd → (∀ j, j < i → vs[j]? ≠ some x) → vs[i]? = some x → Ks[i]? = some K → K L st h
  | [], _, i, _, _, h1, _ => by simp at h1
  | _ :: _, [], i, _, _, _, h2 => by simp at h2
  | v :: vs, K' :: Ks, 0, hs, _, h1, h2 => by
    simp at h1 h2
    subst h1; subst h2
    exact hs.1 rfl
  | v :: vs, K' :: Ks, i + 1, hs, hj, h1, h2 => by
    have hv : ¬ x = v := fun q => hj 0 (by omega) (by simp [q])
    exact swp_get vs Ks i (hs.2 hv) (fun j hj2 q => hj (j + 1) (by omega) (by simpa using q)) (by simpa using h1) (by simpa using h2)
theorem swp_out {x : Int32} {L st : List Value} {h : HP} {Kd : KT} : ∀ (vs : List Int32) (Ks : List KT), swp x L st h vs Ks Kd → (∀ v ∈ vs, ¬ x = v) → Kd L st h
  | [], _, hs, _ => by cases ‹List KT› <;> exact hs
  | _ :: _, [], hs, _ => hs
  | v :: vs, K' :: Ks, hs, hv => swp_out vs Ks (hs.2 (hv v List.mem_cons_self)) (fun w hw => hv w (List.mem_cons_of_mem _ hw))
section OPS
variable {g : GT} {M : MD} {d : Nat} {b : Nat × Nat} {Q : Option Value → HP → Prop} {pc : Nat} {K K1 K2 Kd : KT} {L st : List Value} {h : HP}
def NxL (g : GT) (M : MD) (d : Nat) (b : Nat × Nat) (Q : Option Value → HP → Prop) : List Nat → List KT → Prop
  | t :: ts, K :: Ks => Nx g M d b Q t K ∧ NxL g M d b Q ts Ks
  | [], [] => True
  | _, _ => False
theorem NxL.get : ∀ (ts : List Nat) (Ks : List KT) (i t : Nat), NxL g M d b Q ts Ks → ts[i]? = some t → ∃ K, Ks[i]? = some K ∧ Nx g M d b Q t K
  | [], Ks, i, t, _, h1 => by simp at h1
  | _ :: _, [], i, t, hn, _ => absurd hn id
  | t' :: ts, K :: Ks, 0, t, hn, h1 => by
    simp at h1
    subst h1
    exact ⟨K, rfl, hn.1⟩
  | t' :: ts, K :: Ks, i + 1, t, hn, h1 => by
    obtain ⟨K2, q1, q2⟩ := NxL.get ts Ks i t hn.2 (by simpa using h1)
    exact ⟨K2, by simpa using q1, q2⟩
theorem k_tsw {dflt lo hi : Int} {offs : Array Int} {len : Nat} {vs : List Int32} {ts : List Nat} {td : Nat} {Ks : List KT} (hd : decode M.2.1 pc = .ok (.tableswitch dflt lo hi offs, len)) (h1 : vs.map Int32.toInt = (List.range vs.length).map (fun (i : Nat) => lo + (i : Int))) (h2 : hi = lo + (vs.length : Int) - 1) (h3 : offs.toList.map (fun o => (pc : Int) + o) = ts.map (fun (t : Nat) => (t : Int))) (h4 : ts.length = vs.length) (h5 : (pc : Int) + dflt = (td : Int)) (hn : NxL g M d b Q ts Ks) (nd : Nx g M d b Q td Kd) : o_sw vs Ks Kd L st h → Sat g M d b Q pc L st h := by
  intro ho p e R s m args below meth c H locs cells slots Z ls C hH hL hc hs hF
  unfold o_sw at ho
  split at ho
  · next x st2 =>
    have hval : ∀ (i : Nat) (v : Int32), vs[i]? = some v → v.toInt = lo + i := by
      intro i v hv
      have e1 : (vs.map Int32.toInt)[i]? = some v.toInt := by rw [List.getElem?_map, hv]; rfl
      rw [h1, List.getElem?_map, List.getElem?_range (List.getElem?_eq_some_iff.mp hv).1] at e1
      simpa using e1.symm
    by_cases hx : x.toInt < lo ∨ hi < x.toInt
    · refine lv_tableOut C.1 C.2.1 hd hx h5 (nd _ _ _ (swp_out vs Ks ho (fun v hv q => ?_)) p e R s m args below meth c H locs cells slots Z ls C hH hL hc hs hF)
      obtain ⟨i, hi2⟩ := List.getElem?_of_mem hv
      have e1 := hval i v hi2
      have e2 := (List.getElem?_eq_some_iff.mp hi2).1
      subst q
      omega
    · have hx1 : ¬ x.toInt < lo := fun q => hx (Or.inl q)
      have hx2 : ¬ hi < x.toInt := fun q => hx (Or.inr q)
      have hlt : (x.toInt - lo).toNat < vs.length := by omega
      obtain ⟨v, hv⟩ : ∃ v, vs[(x.toInt - lo).toNat]? = some v := ⟨_, List.getElem?_eq_getElem hlt⟩
      have e1 := hval _ v hv
      have hvx : v = x := Int32.toInt_inj.mp (by omega)
      subst hvx
      have hlt2 : (v.toInt - lo).toNat < ts.length := by omega
      obtain ⟨t, ht⟩ : ∃ t, ts[(v.toInt - lo).toNat]? = some t := ⟨_, List.getElem?_eq_getElem hlt2⟩
      obtain ⟨K, hK1, hK2⟩ := NxL.get ts Ks _ t hn ht
      have e3 : (offs.toList.map (fun o => (pc : Int) + o))[(v.toInt - lo).toNat]? = some (t : Int) := by rw [h3, List.getElem?_map, ht]; rfl
      rw [List.getElem?_map] at e3
      cases ho2 : offs.toList[(v.toInt - lo).toNat]? with
      | none => rw [ho2] at e3; cases e3
      | some off =>
        rw [ho2] at e3
        have e4 : (pc : Int) + off = (t : Int) := by simpa using e3
        refine lv_tableIn C.1 C.2.1 hd hx1 hx2 (off := off) (by rw [← Array.getElem?_toList]; exact ho2) e4 (hK2 _ _ _ (swp_get vs Ks _ ho (fun j hj q => ?_) hv hK1) p e R s m args below meth c H locs cells slots Z ls C hH hL hc hs hF)
        have := hval j v q
        omega
  · exact absurd ho id
theorem sw_off {x : Int32} {pc : Int} {dflt : Int} : ∀ (vs : List Int32) (ts : List Nat) (Ks : List KT), NxL g M d b Q ts Ks → ts.length = vs.length → swp x L st h vs Ks Kd → ∃ (t : Int) (K : KT), pc + Op.lookupswitch.offset ((vs.zip ts).map (fun q => (q.1.toInt, (q.2 : Int) - pc))) dflt x.toInt = t ∧ K L st h ∧ ((t = pc + dflt ∧ K = Kd) ∨ ∃ t2 : Nat, t = (t2 : Int) ∧ Nx g M d b Q t2 K)
  | [], ts, Ks, _, _, hs => ⟨_, Kd, rfl, by cases Ks <;> exact hs, Or.inl ⟨by simp [Op.lookupswitch.offset], rfl⟩⟩
  | _ :: _, [], _, _, hl, _ => by simp at hl
  | _ :: _, _ :: _, [], hn, _, _ => absurd hn id
  | v :: vs, t :: ts, K :: Ks, hn, hl, hs => by
    by_cases hx : x = v
    · refine ⟨t, K, ?_, hs.1 hx, Or.inr ⟨t, rfl, hn.1⟩⟩
      rw [List.zip_cons_cons, List.map_cons, Op.lookupswitch.offset_cons, if_pos (by rw [hx])]
      show pc + ((t : Int) - pc) = t
      omega
    · obtain ⟨t', K', q1, q2, q3⟩ := sw_off vs ts Ks hn.2 (by simpa using hl) (hs.2 hx)
      refine ⟨t', K', ?_, q2, q3⟩
      rw [List.zip_cons_cons, List.map_cons, lv_osw hx rfl]
      exact q1
theorem k_lsw {dflt : Int} {ps : Array (Int × Int)} {len : Nat} {vs : List Int32} {ts : List Nat} {td : Nat} {Ks : List KT} (hd : decode M.2.1 pc = .ok (.lookupswitch dflt ps, len)) (hp : (ps.toList.zip (ps.toList.drop 1)).all (fun (a, next) => a.1 < next.1) = true) (h1 : ps.toList = (vs.zip ts).map (fun q => (q.1.toInt, (q.2 : Int) - (pc : Int)))) (h4 : ts.length = vs.length) (h5 : (pc : Int) + dflt = (td : Int)) (hn : NxL g M d b Q ts Ks) (nd : Nx g M d b Q td Kd) : o_sw vs Ks Kd L st h → Sat g M d b Q pc L st h := by
  intro ho p e R s m args below meth c H locs cells slots Z ls C hH hL hc hs hF
  unfold o_sw at ho
  split at ho
  · next x st2 =>
    obtain ⟨t, K, q1, q2, q3⟩ := sw_off (x := x) (pc := (pc : Int)) (dflt := dflt) vs ts Ks hn h4 ho
    rw [← h1] at q1
    rcases q3 with ⟨e1, e2⟩ | ⟨t2, e1, e2⟩
    · subst e2
      exact lv_lookup C.1 C.2.1 hd hp rfl (by rw [q1, e1, h5]) (nd _ _ _ q2 p e R s m args below meth c H locs cells slots Z ls C hH hL hc hs hF)
    · exact lv_lookup C.1 C.2.1 hd hp rfl (by rw [q1, e1]) (e2 _ _ _ q2 p e R s m args below meth c H locs cells slots Z ls C hH hL hc hs hF)
  · exact absurd ho id
def o_new (c : Nat) (K : KT) : KT := fun L st h => K L (.ref (hn h) :: st) (newH h (c + 1) 0)
/-- an array of kind t and length N -/
def o_newa (t N : Nat) (K : KT) : KT := fun L st h => match st with
  | .int x :: st => x = Int32.ofNat N ∧ K L (.ref (hn h) :: st) (newH h t N)
  | _ => False
theorem Hp.new {g : GT} {h : HP} {s : State} {H H1 : Heap} {locs : List Loc} {kind len : Nat} (hH : Hp g h s H locs) (hk : kind ≠ 0) (hz : H1.size = H.size + 1) (oq : ∀ q : Nat, q < H.size → H1[q]? = H[q]?) (hat : va_at (gD g) vwCl (gz g + hn h, cellE g (newH h kind len) (hn h)) H1) : Hp g (newH h kind len) s H1 locs := by
  obtain ⟨q1, q2, q3, q4, q5, q6⟩ := hH
  refine ⟨by omega, fun q hq => by rw [oq q (by omega)]; exact q2 q hq, q3, by rw [hz, q4]; rfl, fun x hx => ?_, fun x hx => ?_⟩
  · have hx : x < hn h + 1 := hx
    by_cases hxa : x = hn h
    · subst hxa
      refine ⟨?_, hat⟩
      show up1 (hK h) (hn h) kind (hn h) ≠ 0
      simp [up1, hk]
    · have hx2 : x < hn h := by omega
      have e : cellE g (newH h kind len) x = cellE g h x := cellE_congr (by show up1 _ _ _ _ = _; simp [up1, hxa]) (by show up1 _ _ _ _ = _; simp [up1, hxa]) (by show up1 _ _ _ _ = _; simp [up1, hxa]) (by show up1 _ _ _ _ = _; simp [up1, hxa]) (by show up1 _ _ _ _ = _; simp [up1, hxa])
      refine ⟨?_, ?_⟩
      · show up1 (hK h) (hn h) kind x ≠ 0
        simp [up1, hxa]
        exact (q5 x hx2).1
      · rw [e]
        exact (q5 x hx2).2.kept (oq _ (by show gz g + x < H.size; omega))
  · have hx : hn h + 1 ≤ x := hx
    show up1 (hK h) (hn h) kind x = 0
    simp only [up1, if_neg (show ¬ x = hn h by omega)]
    exact q6 x (by omega)
def dv (t : Nat) : Value := match t with
  | 0 => .int 0
  | 1 => .long 0
  | _ => .null
theorem dv_ok {c : Nat} (hc : c < 11) : ∀ j, j < cN c → defaultValue (cty c j) = dv (ftag (cty c j)) := by
  rcases (show c = 0 ∨ c = 1 ∨ c = 2 ∨ c = 3 ∨ c = 4 ∨ c = 5 ∨ c = 6 ∨ c = 7 ∨ c = 8 ∨ c = 9 ∨ c = 10 by omega) with rfl | rfl | rfl | rfl | rfl | rfl | rfl | rfl | rfl | rfl | rfl <;> decide +kernel
theorem k_new {cn idx : Nat} (hd : decode M.2.1 pc = .ok (.new idx, 3)) (hc2 : cn < 11) (hl : Cond.classLink M.1.cls idx (cC cn) ∈ lw_good) (hi : Cond.instantiable (cC cn) (cN cn) ∈ lw_good) (hini : Cond.initialized (cC cn) ∈ lw_good) (hb1 : 1 ≤ b.1) (hb2 : cN cn ≤ b.2) (n : Nx g M d (b.1 - 1, b.2 - cN cn) Q (pc + 3) K) : o_new cn K L st h → Sat g M d b Q pc L st h := by
  intro ho p e R s m args below meth c H locs cells slots Z ls C hH hL hc hs hF
  have hts := C.2.2.2.2.2.2.1
  have hKn := C.2.2.2.2.2.2.2.2.2.2.1.1.1 cn _ (ck_cl hc2)
  refine W.newcK C.1 C.2.1 C.2.2.2.2.1 (hts _ hl) (hts _ hi) (hts _ hini) rfl hd (by omega) (by omega) hKn.2.1 rfl fun H1 kC hkC e1 z1 o1 => ?_
  have hsz : H.size = gz g + hn h := hH.2.2.2.1
  have key := n _ _ _ ho p e R s m args below meth c H1 locs (cells + 1) (slots + cN cn) Z ls C (hH.new (kind := cn + 1) (len := 0) (by omega) z1 o1 ?_) hL (by show _ + (b.1 - 1) ≤ _; omega) (by show _ + (b.2 - cN cn) ≤ _; omega) hF
  · rw [hsz]
    exact key
  · rw [cellE_obj (c := cn) (by show up1 _ _ _ _ = _; simp [up1]) hc2, ← hsz]
    refine ⟨_, ck_cl hc2, (u_born (cty cn) hts (in_good hc2) hKn hkC e1 (ck_ty hc2)).to (fun j hj => ?_)⟩
    rw [dv_ok hc2 j hj]
    show _ = vp_V (fl _ _ _ _) j
    unfold vp_V
    rw [List.getD_eq_getElem?_getD, fl_get hj]
    show _ = fv _ _ _ _ _
    unfold fv dv
    have e2 : hI (newH h (cn + 1) 0) (hn h) = fun _ => 0 := by show up1 _ _ _ _ = _; simp [up1]
    have e3 : hJ (newH h (cn + 1) 0) (hn h) = fun _ => 0 := by show up1 _ _ _ _ = _; simp [up1]
    have e4 : hR (newH h (cn + 1) 0) (hn h) = fun _ => none := by show up1 _ _ _ _ = _; simp [up1]
    rw [e2, e3, e4]
    rfl
theorem k_newa21 {N : Nat} (hd : decode M.2.1 pc = .ok (.newarray .int, 2)) (hl : Cond.arrayClass .int ∈ lw_good) (hN2 : N ≤ 65536) (hb1 : 1 ≤ b.1) (hb2 : N ≤ b.2) (n : Nx g M d (b.1 - 1, b.2 - N) Q (pc + 2) K) : o_newa 21 N K L st h → Sat g M d b Q pc L st h := by
  intro ho p e R s m args below meth c H locs cells slots Z ls C hH hL hc hs hF
  unfold o_newa at ho
  split at ho
  · next x st2 =>
    obtain ⟨hx, ho⟩ := ho
    have hts := C.2.2.2.2.2.2.1
    have hsz : H.size = gz g + hn h := hH.2.2.2.1
    subst hx
    refine va_newaK (atype := .int) C.1 C.2.1 (hts _ hl) rfl hd rfl (by exact nI_pos (by omega)) (N := N) (by exact nI_clamp (by omega)) (by show N * 4 ≤ _; omega) (by omega) (by omega) rfl fun H1 cA e1 z1 o1 hAr hNm => ?_
    have hcA : cA = gA g 21 := by
      have q := (C.2.2.2.2.2.2.2.2.2.2.1.1.2 0 _ rfl).2
      exact Option.some.inj (hNm.symm.trans q)
    subst hcA
    have key := n _ _ _ ho p e R s m args below meth c H1 locs (cells + 1) (slots + N) Z ls C (hH.new (kind := 21) (len := N) (by omega) z1 o1 ?_) hL (by show _ + (b.1 - 1) ≤ _; omega) (by show _ + (b.2 - N) ≤ _; omega) hF
    · rw [hsz]
      exact key
    · rw [cellE_int (by show up1 _ _ _ _ = _; simp [up1]), ← hsz]
      show H1[H.size]? = some (vp_cell _ _)
      rw [e1]
      have e2 : hN (newH h 21 N) (hn h) = N := by show up1 _ _ _ _ = _; simp [up1]
      have e3 : hI (newH h 21 N) (hn h) = fun _ => 0 := by show up1 _ _ _ _ = _; simp [up1]
      have e4 : hJ (newH h 21 N) (hn h) = fun _ => 0 := by show up1 _ _ _ _ = _; simp [up1]
      rw [e2]
      first | rw [e3] | rw [e4]
      rfl
  · exact absurd ho id
theorem k_newa22 {N : Nat} (hd : decode M.2.1 pc = .ok (.newarray .byte, 2)) (hl : Cond.arrayClass .byte ∈ lw_good) (hN2 : N ≤ 65536) (hb1 : 1 ≤ b.1) (hb2 : N ≤ b.2) (n : Nx g M d (b.1 - 1, b.2 - N) Q (pc + 2) K) : o_newa 22 N K L st h → Sat g M d b Q pc L st h := by
  intro ho p e R s m args below meth c H locs cells slots Z ls C hH hL hc hs hF
  unfold o_newa at ho
  split at ho
  · next x st2 =>
    obtain ⟨hx, ho⟩ := ho
    have hts := C.2.2.2.2.2.2.1
    have hsz : H.size = gz g + hn h := hH.2.2.2.1
    subst hx
    refine va_newaK (atype := .byte) C.1 C.2.1 (hts _ hl) rfl hd rfl (by exact nI_pos (by omega)) (N := N) (by exact nI_clamp (by omega)) (by show N * 1 ≤ _; omega) (by omega) (by omega) rfl fun H1 cA e1 z1 o1 hAr hNm => ?_
    have hcA : cA = gA g 22 := by
      have q := (C.2.2.2.2.2.2.2.2.2.2.1.1.2 1 _ rfl).2
      exact Option.some.inj (hNm.symm.trans q)
    subst hcA
    have key := n _ _ _ ho p e R s m args below meth c H1 locs (cells + 1) (slots + N) Z ls C (hH.new (kind := 22) (len := N) (by omega) z1 o1 ?_) hL (by show _ + (b.1 - 1) ≤ _; omega) (by show _ + (b.2 - N) ≤ _; omega) hF
    · rw [hsz]
      exact key
    · rw [cellE_byte (by show up1 _ _ _ _ = _; simp [up1]), ← hsz]
      show H1[H.size]? = some (vp_cell _ _)
      rw [e1]
      have e2 : hN (newH h 22 N) (hn h) = N := by show up1 _ _ _ _ = _; simp [up1]
      have e3 : hI (newH h 22 N) (hn h) = fun _ => 0 := by show up1 _ _ _ _ = _; simp [up1]
      have e4 : hJ (newH h 22 N) (hn h) = fun _ => 0 := by show up1 _ _ _ _ = _; simp [up1]
      rw [e2]
      first | rw [e3] | rw [e4]
      rfl
  · exact absurd ho id
theorem k_newa23 {N : Nat} (hd : decode M.2.1 pc = .ok (.newarray .boolean, 2)) (hl : Cond.arrayClass .boolean ∈ lw_good) (hN2 : N ≤ 65536) (hb1 : 1 ≤ b.1) (hb2 : N ≤ b.2) (n : Nx g M d (b.1 - 1, b.2 - N) Q (pc + 2) K) : o_newa 23 N K L st h → Sat g M d b Q pc L st h := by
  intro ho p e R s m args below meth c H locs cells slots Z ls C hH hL hc hs hF
  unfold o_newa at ho
  split at ho
  · next x st2 =>
    obtain ⟨hx, ho⟩ := ho
    have hts := C.2.2.2.2.2.2.1
    have hsz : H.size = gz g + hn h := hH.2.2.2.1
    subst hx
    refine va_newaK (atype := .boolean) C.1 C.2.1 (hts _ hl) rfl hd rfl (by exact nI_pos (by omega)) (N := N) (by exact nI_clamp (by omega)) (by show N * 1 ≤ _; omega) (by omega) (by omega) rfl fun H1 cA e1 z1 o1 hAr hNm => ?_
    have hcA : cA = gA g 23 := by
      have q := (C.2.2.2.2.2.2.2.2.2.2.1.1.2 2 _ rfl).2
      exact Option.some.inj (hNm.symm.trans q)
    subst hcA
    have key := n _ _ _ ho p e R s m args below meth c H1 locs (cells + 1) (slots + N) Z ls C (hH.new (kind := 23) (len := N) (by omega) z1 o1 ?_) hL (by show _ + (b.1 - 1) ≤ _; omega) (by show _ + (b.2 - N) ≤ _; omega) hF
    · rw [hsz]
      exact key
    · rw [cellE_bool (by show up1 _ _ _ _ = _; simp [up1]), ← hsz]
      show H1[H.size]? = some (vp_cell _ _)
      rw [e1]
      have e2 : hN (newH h 23 N) (hn h) = N := by show up1 _ _ _ _ = _; simp [up1]
      have e3 : hI (newH h 23 N) (hn h) = fun _ => 0 := by show up1 _ _ _ _ = _; simp [up1]
      have e4 : hJ (newH h 23 N) (hn h) = fun _ => 0 := by show up1 _ _ _ _ = _; simp [up1]
      rw [e2]
      first | rw [e3] | rw [e4]
      rfl
  · exact absurd ho id
theorem k_newa24 {N : Nat} (hd : decode M.2.1 pc = .ok (.newarray .long, 2)) (hl : Cond.arrayClass .long ∈ lw_good) (hN2 : N ≤ 65536) (hb1 : 1 ≤ b.1) (hb2 : N ≤ b.2) (n : Nx g M d (b.1 - 1, b.2 - N) Q (pc + 2) K) : o_newa 24 N K L st h → Sat g M d b Q pc L st h := by
  intro ho p e R s m args below meth c H locs cells slots Z ls C hH hL hc hs hF
  unfold o_newa at ho
  split at ho
  · next x st2 =>
    obtain ⟨hx, ho⟩ := ho
    have hts := C.2.2.2.2.2.2.1
    have hsz : H.size = gz g + hn h := hH.2.2.2.1
    subst hx
    refine va_newaK (atype := .long) C.1 C.2.1 (hts _ hl) rfl hd rfl (by exact nI_pos (by omega)) (N := N) (by exact nI_clamp (by omega)) (by show N * 8 ≤ _; omega) (by omega) (by omega) rfl fun H1 cA e1 z1 o1 hAr hNm => ?_
    have hcA : cA = gA g 24 := by
      have q := (C.2.2.2.2.2.2.2.2.2.2.1.1.2 3 _ rfl).2
      exact Option.some.inj (hNm.symm.trans q)
    subst hcA
    have key := n _ _ _ ho p e R s m args below meth c H1 locs (cells + 1) (slots + N) Z ls C (hH.new (kind := 24) (len := N) (by omega) z1 o1 ?_) hL (by show _ + (b.1 - 1) ≤ _; omega) (by show _ + (b.2 - N) ≤ _; omega) hF
    · rw [hsz]
      exact key
    · rw [cellE_long (by show up1 _ _ _ _ = _; simp [up1]), ← hsz]
      show H1[H.size]? = some (vp_cell _ _)
      rw [e1]
      have e2 : hN (newH h 24 N) (hn h) = N := by show up1 _ _ _ _ = _; simp [up1]
      have e3 : hI (newH h 24 N) (hn h) = fun _ => 0 := by show up1 _ _ _ _ = _; simp [up1]
      have e4 : hJ (newH h 24 N) (hn h) = fun _ => 0 := by show up1 _ _ _ _ = _; simp [up1]
      rw [e2]
      first | rw [e3] | rw [e4]
      rfl
  · exact absurd ho id
theorem k_anewa {t N idx : Nat} {X : String} (hd : decode M.2.1 pc = .ok (.anewarray idx, 3)) (hl : Cond.classLink M.1.cls idx X ∈ lw_good) (ht : 25 ≤ t) (hov : ∀ (g : GT) (U : State), GS g U → va_AO X U) (hX : ∀ g : GT, (gtys g)[t - 21]? = some (gA g t, .object X)) (hN2 : N ≤ 65536) (hb1 : 1 ≤ b.1) (hb2 : N ≤ b.2) (n : Nx g M d (b.1 - 1, b.2 - N) Q (pc + 3) K) : o_newa t N K L st h → Sat g M d b Q pc L st h := by
  intro ho p e R s m args below meth c H locs cells slots Z ls C hH hL hc hs hF
  unfold o_newa at ho
  split at ho
  · next x st2 =>
    obtain ⟨hx, ho⟩ := ho
    have hts := C.2.2.2.2.2.2.1
    have hsz : H.size = gz g + hn h := hH.2.2.2.1
    have hG := C.2.2.2.2.2.2.2.2.2.2.1
    subst hx
    have hcl : (Int32.ofNat N).toNatClampNeg = N := nI_clamp (by omega)
    refine W.anew C.1 C.2.1 C.2.2.2.2.1 (hts _ hl) (va_AO.use (hov g s hG)) rfl hd rfl (by exact nI_pos (by omega)) (by rw [hcl]; omega) (by omega) (by rw [hcl]; omega) fun cA kA comp f1 f2 f3 f4 => ?_
    have hcA : cA = gA g t := by
      obtain ⟨_, _, _, _, _, q⟩ := (hG.1.2 (t - 21) _ (hX g)).2
      exact Option.some.inj (f1.symm.trans q)
    subst hcA
    generalize hH1 : H.push ({ cls := gA g t, slots := Array.replicate (Int32.ofNat N).toNatClampNeg .null, vm := .none } : Cell) = H1
    have z1 : H1.size = H.size + 1 := by rw [← hH1, Array.size_push]
    have e1 : H1[H.size]? = some (arrV (gA g t) (Int32.ofNat N).toNatClampNeg (fun _ => .null)) := by rw [← hH1, Array.getElem?_push_size, ← arrV_new]
    have o1 : ∀ q : Nat, q < H.size → H1[q]? = H[q]? := fun q hq => by rw [← hH1, Array.getElem?_push, if_neg (Nat.ne_of_lt hq)]
    have key := n _ _ _ ho p e R s m args below meth c H1 locs (cells + 1) (slots + N) Z ls C (hH.new (kind := t) (len := N) (by omega) z1 o1 ?_) hL (by show _ + (b.1 - 1) ≤ _; omega) (by show _ + (b.2 - N) ≤ _; omega) hF
    · rw [hcl, hsz]
      exact key
    · rw [cellE_ref (t := t) (by show up1 _ _ _ _ = _; simp [up1]) ht, ← hsz]
      show H1[H.size]? = some (vp_cell _ _)
      rw [e1, hcl]
      have e2 : hN (newH h t N) (hn h) = N := by show up1 _ _ _ _ = _; simp [up1]
      have e4 : hR (newH h t N) (hn h) = fun _ => none := by show up1 _ _ _ _ = _; simp [up1]
      rw [e2, e4]
      rfl
  · exact absurd ho id
end OPS
