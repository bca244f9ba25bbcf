theorem trv_cat (g : GT) {v : Value} (h : ∀ x, v ≠ .float x) : (trv g v).category = v.category := by
  cases v <;> first | rfl | exact absurd rfl (h _)
theorem lv_args_map (g : GT) : ∀ (vs : List Value) (i j : Nat) (v : Value), (∀ x ∈ vs, isPad x = false) → (entF vs)[j]? = some v → isPad v = false → (i + j, trv g v) ∈ lv_args i (vs.map (trv g)) := by
  intro vs
  induction vs with
  | nil => intro i j v _ h; simp [entF] at h
  | cons x vs ih =>
    intro i j v hp h hv
    have hp2 : ∀ x ∈ vs, isPad x = false := fun y hy => hp y (List.mem_cons_of_mem _ hy)
    have hx := hp x List.mem_cons_self
    have simple : (trv g x).category = 1 → entF (x :: vs) = x :: entF vs → (i + j, trv g v) ∈ lv_args i ((x :: vs).map (trv g)) := by
      intro hc he
      rw [he] at h
      rw [List.map_cons, lv_args]
      cases j with
      | zero => simp at h; subst h; simp
      | succ j =>
        simp at h
        have := ih (i + 1) j v hp2 h hv
        rw [hc]
        refine List.mem_cons_of_mem _ ?_
        rw [show i + (j + 1) = i + 1 + j by omega]
        exact this
    cases x with
    | long y =>
      rw [entF] at h
      rw [List.map_cons, lv_args]
      cases j with
      | zero => simp at h; subst h; exact List.mem_cons_self
      | succ j =>
        cases j with
        | zero => simp at h; subst h; simp [isPad] at hv
        | succ j =>
          simp at h
          have := ih (i + 2) j v hp2 h hv
          refine List.mem_cons_of_mem _ ?_
          rw [show i + (j + 1 + 1) = i + 2 + j by omega]
          exact this
    | double y => simp [isPad] at hx
    | int y => exact simple rfl rfl
    | float y => exact simple rfl rfl
    | ref y => exact simple rfl rfl
    | null => exact simple rfl rfl
    | _ => exact simple rfl rfl
theorem entF_len (g : GT) : ∀ vs : List Value, (∀ x ∈ vs, isPad x = false) → (lg_sl (vs.map (trv g))).length = (entF vs).length := by
  intro vs
  induction vs with
  | nil => intro _; rfl
  | cons x vs ih =>
    intro hp
    have hp2 : ∀ x ∈ vs, isPad x = false := fun y hy => hp y (List.mem_cons_of_mem _ hy)
    have hx := hp x List.mem_cons_self
    have e := ih hp2
    simp only [lg_sl, List.map_cons, List.flatMap_cons, List.length_append] at e ⊢
    rw [e]
    cases x <;> first | (simp [isPad] at hx; done) | (simp [trv, Value.category, entF]; omega)
theorem LH.entry (g : GT) (vs : List Value) {n : Nat} (hp : ∀ x ∈ vs, isPad x = false) (hn : (entF vs).length ≤ n) : LH g ((lg_sl (vs.map (trv g)) ++ List.replicate (n - (lg_sl (vs.map (trv g))).length) Slot.unset).toArray) n (entL n vs) := by
  have h := lv_entry (vs.map (trv g)) (n := n) (by rw [entF_len g vs hp]; exact hn)
  refine ⟨h.1, h.2.1, fun i v hv hq => ?_⟩
  unfold entL at hv
  by_cases hl : i < (entF vs).length
  · rw [List.getElem?_append_left hl] at hv
    have := h.2.2 _ (lv_args_map g vs 0 i v hp hv hq)
    simpa using this
  · rw [List.getElem?_append_right (by omega)] at hv
    have := List.eq_of_mem_replicate (List.mem_of_getElem? hv)
    subst this
    simp [isPad] at hq
/-- as the kit's row, but for the methods of a class that the machine's table of natives names elsewhere -/
theorem Met.ofWF {l : Launch} {y : MethodName} {ws ws' : List Cond} {rm : Room} {Pc : Array Value → State → Prop} {Qc : Array Value → State → Outcome → State → Prop} {mc ms : Nat} {free : Addr → Prop} {cc : ByteArray} {maxL : Nat} {ret : Option FieldType} (hy : plainFor y = true) (hw : ws = Cond.code y cc maxL ret :: ws')
    (body : ∀ p e s m args below meth c s₁, BodyLoose p l y (headSpec ws rm) cc maxL ret e s m args below meth c s₁ → c.maxLocals = maxL → Pc args s →
      W p l e (headSpec ws rm).room s m args below meth c s.heap [] 0 0 (MQ below Qc args s mc ms free) (entryFrame m args maxL)) : Met l y ws rm Pc Qc mc ms free := by
  refine MetFree.of_bodySF (code := cc) (maxLocals := maxL) (ret := ret) hy ?_ ?_
  · intro args s m h hn
    obtain ⟨meth, c, h1, h2, h3, h4, h5, h6, -, -⟩ := Cond.code_spec hn (atoms_spec (ws := ws) h _ (by rw [hw]; exact List.mem_cons_self))
    exact ⟨meth, c, h1, h2, h3, h4, h5, h6⟩
  · intro p e s m args below meth c s₁ B hml hP _
    have hh0 : s₁.heap = s.heap := by rw [B.state]; rfl
    obtain ⟨t, a1, o, b1, b2, b3⟩ := body p e s m args below meth c s₁ B hml hP s₁ hh0 (Stand.of_body B)
    exact ⟨t, o, a1, b1, b2, ⟨b3.1, b3.2⟩⟩
def flDescs : List String := ["(D)D", "(DD)D", "(DDD)D", "(F)F", "(FF)F", "(FFF)F"]
theorem mathRows : (Jvm.natives.all fun r => r.cls != "java/lang/Math" || flDescs.contains r.desc) = true := by decide +kernel
theorem mathPlain {x : MethodName} (hc : x.cls = "java/lang/Math") (hd : flDescs.contains x.desc = false) : plainFor x = true := by
  unfold plainFor
  rw [Bool.or_eq_true]; right
  rw [Option.isNone_iff_eq_none, NativeRow.find?, List.find?_eq_none]
  intro r hr h
  have := List.all_eq_true.mp mathRows r hr
  simp only [Bool.and_eq_true, beq_iff_eq] at h
  rw [h.1.2, h.2, hc, hd] at this
  simp at this
set_option maxHeartbeats 4000000 in
/-- a method's contract at one heap, out of the judgement at its entry -/
theorem sat_met {g : GT} {M : MD} {d : Nat} {mc ms : Nat} {Q : Option Value → HP → Prop} {h : HP} {av : List Value} (hy : plainFor M.1 = true) (hp : ∀ x ∈ av, isPad x = false) (hn : (entF av).length ≤ M.2.2.1) (hS : Sat g M d (mc, ms) Q 0 (entL M.2.2.1 av) [] h) :
    Met (gl g) M.1 (ws_of M) (rm_of d mc ms) (P_of g h av) (Q_of g Q) mc ms (fun q => gz g ≤ q) := by
  refine Met.ofWF (cc := M.2.1) (maxL := M.2.2.1) (ret := M.2.2.2) hy rfl ?_
  intro p e s m args below meth c s₁ B hml hv
  obtain ⟨rfl, hG, hz, hC⟩ := hv
  have hts := atoms_spec (ws := ws_of M) B.pre
  have hown : s.vm.findClass M.1.cls = some m.cls := findClass_of_methodNamed B.named
  have hctx : Ctx g M d p (headSpec (ws_of M) (rm_of d mc ms)).room s m ((av.map (trv g)).toArray) meth c := ⟨B.exec, B.bytes, B.returns, hml, hown, (name_of_methodNamed B.named B.method).1, fun w hw => hts w (List.mem_cons_of_mem _ hw), B.notSynchronized, Nat.le_refl _, Nat.le_refl _, hG, hz⟩
  rw [lg_entry_eq]
  refine hS p e _ s m _ below meth c s.heap [] 0 0 _ _ hctx ⟨Nat.le_refl _, fun _ _ => rfl, fun _ h => by simp at h, hC⟩ (LH.entry g av hp hn) (by show 0 + mc ≤ mc; omega) (by show 0 + ms ≤ ms; omega) ?_
  intro r h' H' locs' cells' slots' pc' ls' hQ hH hc hs hr
  have fin : ∀ t : State, t.heap = H' → Q_of g Q ((av.map (trv g)).toArray) s (.returned (r.map (trv g))) t := fun t ht => ⟨r, h', rfl, hQ, by rw [ht]; exact hH.1, fun q hq => by rw [ht]; exact hH.2.1 q hq, by rw [ht]; exact hH.2.2.2⟩
  have hlk := B.notSynchronized
  refine W.widen (k := mc) (n := ms) hc hs ?_
  cases r with
  | none => exact W.vret B.exec B.bytes (B.returns.trans hr.2) (fun t ht _ => fin t ht) hH.2.2.1 hr.1
  | some v =>
    cases v with
    | int v =>
      obtain ⟨h1, ty, h2, h3⟩ := hr
      exact W.zret B.exec B.bytes (B.returns.trans h2) h3 (fun t ht _ => fin t ht) hH.2.2.1 h1
    | long v => exact W.lret B.exec B.bytes (B.returns.trans hr.2) (fun t ht _ => fin t ht) hH.2.2.1 hr.1
    | ref v =>
      obtain ⟨h1, n, h2⟩ := hr
      exact W.aret B.exec B.bytes (B.returns.trans h2) (Or.inl ⟨n, rfl⟩) (Or.inr ⟨_, rfl⟩) (fun t ht _ => fin t ht) hH.2.2.1 h1
    | float v =>
      obtain ⟨h1, n, h2⟩ := hr
      exact W.aret B.exec B.bytes (B.returns.trans h2) (Or.inl ⟨n, rfl⟩) (Or.inr ⟨_, rfl⟩) (fun t ht _ => fin t ht) hH.2.2.1 h1
    | null =>
      obtain ⟨h1, n, h2⟩ := hr
      exact W.aret B.exec B.bytes (B.returns.trans h2) (Or.inl ⟨n, rfl⟩) (Or.inl rfl) (fun t ht _ => fin t ht) hH.2.2.1 h1
    | _ => exact absurd hr id
theorem P_blind (g : GT) (h : HP) (av : List Value) : FrameBlind (P_of g h av) := fun _ U _ _ q => ⟨q.1, q.2.1.same (s := U) rfl rfl, q.2.2⟩
theorem good_ws {M : MD} (h : Cond.code M.1 M.2.1 M.2.2.1 M.2.2.2 ∈ lw_good) : GoodIn lw_good (ws_of M) := by
  intro w hw
  rcases List.mem_cons.mp hw with e | e
  · subst e; exact ⟨h, good_of_word (good_all h)⟩
  · exact ⟨e, good_of_word (good_all e)⟩
