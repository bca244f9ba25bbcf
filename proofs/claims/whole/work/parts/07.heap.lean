/-! the instructions as steps of the judgement: fields, arrays, new cells -/
def FL (own : String) (c k idx tag : Nat) : Prop := Cond.fieldLink own idx (cT c k).1 (cT c k).2.1 (cT c k).2.2.1 ∈ lw_good ∧ c < 11 ∧ k < cN c ∧ ftag (cty c k) = tag
theorem in_good {c : Nat} (hc : c < 11) : ∀ w ∈ u_ws (cC c) (cT c) (cN c), w ∈ lw_good := by
  intro w hw
  refine good_in (ck_in hc w hw) ?_
  unfold u_ws at hw
  obtain ⟨k, -, rfl⟩ := List.mem_map.mp hw
  unfold u_lay
  split <;> rfl
theorem cellE_obj {g : GT} {h : HP} {a c : Nat} (hk : hK h a = c + 1) (hc : c < 11) : cellE g h a = .inr (c, fl g h a c) := by
  unfold cellE
  rw [if_pos (by rw [hk]; omega), hk]
  rfl
theorem cellE_int {g : GT} {h : HP} {a : Nat} (hk : hK h a = 21) : cellE g h a = .inl (gA g 21, hN h a, .inl (hI h a)) := by
  simp [cellE, ar, hk]
theorem cellE_byte {g : GT} {h : HP} {a : Nat} (hk : hK h a = 22) : cellE g h a = .inl (gA g 22, hN h a, .inl (hI h a)) := by
  simp [cellE, ar, hk]
theorem cellE_bool {g : GT} {h : HP} {a : Nat} (hk : hK h a = 23) : cellE g h a = .inl (gA g 23, hN h a, .inl (hI h a)) := by
  simp [cellE, ar, hk]
theorem cellE_long {g : GT} {h : HP} {a : Nat} (hk : hK h a = 24) : cellE g h a = .inl (gA g 24, hN h a, .inr (.inl (hJ h a))) := by
  simp [cellE, ar, hk]
theorem cellE_ref {g : GT} {h : HP} {a t : Nat} (hk : hK h a = t) (h1 : 25 ≤ t) : cellE g h a = .inl (gA g t, hN h a, .inr (.inr (.inr (.inr (fun j => (hR h a j).map (gz g + ·)))))) := by
  unfold cellE ar
  rw [if_neg (by rw [hk]; omega), if_neg (by rw [hk]; omega), if_pos (by rw [hk]; exact h1), hk]
theorem cellE_congr {g : GT} {h h' : HP} {x : Nat} (h1 : hK h' x = hK h x) (h2 : hN h' x = hN h x) (h3 : hI h' x = hI h x) (h4 : hJ h' x = hJ h x) (h5 : hR h' x = hR h x) : cellE g h' x = cellE g h x := by
  have e : ∀ c, fl g h' x c = fl g h x c := fun c => by
    unfold fl
    refine List.map_congr_left fun k _ => ?_
    unfold fv
    rw [h3, h4, h5]
  unfold cellE ar
  rw [h1, h2, h3, h4, h5, e]
theorem fl_len (g : GT) (h : HP) (a c : Nat) : (fl g h a c).length = cN c := by simp [fl]
theorem fl_get {g : GT} {h : HP} {a c k : Nat} (hk : k < cN c) : (fl g h a c)[k]? = some (fv g h a c k) := by
  simp [fl, hk]
theorem fl_set {g : GT} {h h' : HP} {a c k : Nat} {v : Value} (hk : k < cN c) (h1 : fv g h' a c k = v) (h2 : ∀ j, j ≠ k → fv g h' a c j = fv g h a c j) : fl g h' a c = (fl g h a c).set k v := by
  refine List.ext_getElem? fun j => ?_
  by_cases hj : j = k
  · subst hj
    rw [fl_get hk, List.getElem?_set_self (by rw [fl_len]; exact hk), h1]
  · rw [List.getElem?_set_ne (Ne.symm hj)]
    by_cases hl : j < cN c
    · rw [fl_get hl, fl_get hl, h2 j hj]
    · rw [List.getElem?_eq_none (by rw [fl_len]; omega), List.getElem?_eq_none (by rw [fl_len]; omega)]
theorem up2_eq {α : Type} (f : Nat → Nat → α) (a k : Nat) (v : α) : up2 f a k v a k = v := by simp [up2]
theorem up2_ne {α : Type} (f : Nat → Nat → α) {a k x y : Nat} (v : α) (h : ¬ (x = a ∧ y = k)) : up2 f a k v x y = f x y := by simp [up2, h]
theorem up2_row {α : Type} (f : Nat → Nat → α) {a k x : Nat} (v : α) (h : x ≠ a) : up2 f a k v x = f x := by funext y; simp [up2, h]
theorem up2_at {α : Type} (f : Nat → Nat → α) (a k : Nat) (v : α) : up2 f a k v a = fun y => if y = k then v else f a y := by funext y; simp [up2]
theorem Cells.lt {g : GT} {h : HP} {H : Heap} (hC : Cells g h H) {a k : Nat} (hk : hK h a = k) (h0 : k ≠ 0) : a < hn h := by
  rcases Nat.lt_or_ge a (hn h) with q | q
  · exact q
  · exact absurd ((hC.2.2 a q).symm.trans hk).symm h0
theorem Cells.at {g : GT} {h : HP} {H : Heap} (hC : Cells g h H) {a k : Nat} (hk : hK h a = k) (h0 : k ≠ 0) : va_at (gD g) vwCl (gz g + a, cellE g h a) H := (hC.2.1 a (hC.lt hk h0)).2
theorem Hp.put {g : GT} {h h' : HP} {s : State} {H H1 : Heap} {locs : List Loc} {a j : Nat} (hH : Hp g h s H locs) (hsh : h'.1 = h.1) (ha : a < hn h) (hoth : ∀ x, x ≠ a → cellE g h' x = cellE g h x) (hat : va_at (gD g) vwCl (gz g + a, cellE g h' a) H1) (hz : H1.size = H.size) (oq : ∀ q : Nat, q ≠ gz g + a → H1[q]? = H[q]?) : Hp g h' s H1 (locs ++ [⟨gz g + a, j⟩]) := by
  obtain ⟨q1, q2, q3, q4, q5, q6⟩ := hH
  have e1 : hn h' = hn h := by show h'.1.1 = h.1.1; rw [hsh]
  have e2 : hK h' = hK h := by show h'.1.2.1 = h.1.2.1; rw [hsh]
  refine ⟨by rw [hz]; exact q1, fun q hq => by rw [oq q (by omega)]; exact q2 q hq, fun x hx => ?_, by rw [hz, e1]; exact q4, fun x hx => ?_, fun x hx => by rw [e2]; rw [e1] at hx; exact q6 x hx⟩
  · rcases List.mem_append.mp hx with hx | hx
    · exact q3 x hx
    · rw [List.mem_singleton.mp hx]; exact Nat.le_add_right _ _
  · rw [e1] at hx
    refine ⟨by rw [e2]; exact (q5 x hx).1, ?_⟩
    by_cases hxa : x = a
    · subst hxa; exact hat
    · rw [hoth x hxa]
      exact (q5 x hx).2.kept (oq _ (by show gz g + x ≠ gz g + a; omega))
theorem va_P1 {D : va_G} {cl : List vw_C} {q : Nat × va_E} {H : Heap} (h : va_at D cl q H) : va_P D cl [q] H := by
  intro k q' hk
  cases k with
  | zero => cases hk; exact h
  | succ k => simp at hk
section ROWS
variable {p : Program} {l : Launch} {e : Env} {R : Room} {s : State} {m : MethodId} {args : Array Value} {below : List Frame} {meth : Method} {c : Code} {H : Heap} {locs : List Loc} {cells slots : Nat} {Q : State → Prop}
variable {cc : ByteArray} {pc : Nat} {ls : Array Slot} {rest : List Value} {D : va_G} {cl : List vw_C} {a : Nat} {tys : List (ClassId × FieldType)}
theorem lw_put (hexec : p.tables.exec = Jvm.exec) (hb : c.code = cc) {own C : String} {T : u_T} {N ci index : Nat} {Ts : List Cond} (hts : ∀ w ∈ Ts, w.before args s = true) (hin : ∀ w ∈ u_ws C T N, w ∈ Ts) (ty0 : Nat → FieldType) (hty : ∀ k, k < N → parseFieldDescriptor (T k).2.2.1 = some (ty0 k)) (hnm : ∀ a, a < N → ∀ b, b < N → a ≠ b → (T a).2.1 ≠ (T b).2.1) (hown : s.vm.findClass own = some m.cls) (hK : va_K D cl tys s) {fs : List Value} (hat : va_at D cl (a, .inr (ci, fs)) H) (hc : cl[ci]? = some (C, T, N)) (k : Nat) (hk : k < N) (hlink : (Cond.fieldLink own index (T k).1 (T k).2.1 (T k).2.2.1).before args s = true) (hfin : (T k).2.2.2 = false ∨ ((T k).2.2.2 = true ∧ meth.name = "<init>" ∧ (T k).1 = own)) {v : Value} (hn : narrow (ty0 k) v = v) (hfit : fits (ty0 k) v = true) (hl : k < fs.length)
    (hdg : decode cc pc = .ok (.putfield index, 3)) (kk : ∀ (H1 : Heap) (j : Nat), va_at D cl (a, .inr (ci, fs.set k v)) H1 → H1.size = H.size → (∀ q : Nat, q ≠ a → H1[q]? = H[q]?) → W p l e R s m args below meth c H1 (locs ++ [⟨a, j⟩]) cells slots Q (F0 m (pc + 3) ls rest)) : W p l e R s m args below meth c H locs cells slots Q (F0 m pc ls (v :: .ref a :: rest)) := by
  have hap := va_apart (own := own) hts hin ty0 hty hnm hK hc
  obtain ⟨r, h1, cell, q1, q2, q3, q4⟩ := hat
  have hr : r = (C, T, N) := Option.some.inj (h1.symm.trans hc)
  subst hr
  obtain ⟨hS, hfc, kC, hkC, hkind⟩ := hK.1 ci _ hc
  obtain ⟨cf, kf, fi, f, hi, hsl⟩ := hS k hk
  have hlay := hts _ (hin _ (u_in_lay hk))
  have hst := (u_facts hfc hkC (u_lays hts hin hk) hi).1
  rcases hfin with hfin | ⟨hfin, hin2, hdecl⟩
  · unfold u_lay at hlay
    rw [if_neg (by rw [hfin]; decide)] at hlay
    have h6 := u_store hfc hkC hkind hlay hi (hty k hk) hn hfit
    refine W.putK hexec hb (f := f) ⟨hown, hlink, ⟨_, _, _, hi⟩, hst⟩ (by rw [q2]; exact h6) q1 q3 (by rw [hsl]; exact k2_hasslot (q4 k hk)) rfl rfl hdg fun H' e1 e2 e3 => ?_
    rw [hsl] at e1
    exact kk H' _ ⟨_, hc, t_OB.to (V := updV (vp_V fs) k v) ⟨_, e1, q2, q3, t_set q4 hap hk v⟩ (fun j _ => vp_updV_set hl v j)⟩ e2 e3
  · unfold u_lay at hlay
    rw [if_pos hfin] at hlay
    have hcf : m.cls = cf := by
      obtain ⟨_, _, c', _, _, _, -, -, hf', -, -, -, hown2, -⟩ := Cond.laysFinal_spec hlay
      have e1 : c' = cf := by have := hi.symm.trans hf'; simp at this; exact this.1.symm
      rw [hdecl] at hown2
      rw [← e1]; exact Option.some.inj (hown.symm.trans hown2)
    have h6 := u_fits hfc hkC hkind (Or.inr hlay) hi (hty k hk) hn hfit
    refine W.putFinK hexec hb hown hlink hi hst hcf hin2 (by rw [q2]; exact h6) q1 q3 (by rw [hsl]; exact k2_hasslot (q4 k hk)) rfl rfl hdg fun H' e1 e2 e3 => ?_
    rw [hsl] at e1
    exact kk H' _ ⟨_, hc, t_OB.to (V := updV (vp_V fs) k v) ⟨_, e1, q2, q3, t_set q4 hap hk v⟩ (fun j _ => vp_updV_set hl v j)⟩ e2 e3
end ROWS
def o_getI (c k : Nat) (K : KT) : KT := fun L st h => match st with
  | .ref a :: st => hK h a = c + 1 ∧ K L (.int (hI h a k) :: st) h
  | _ => False
def o_getJ (c k : Nat) (K : KT) : KT := fun L st h => match st with
  | .ref a :: st => hK h a = c + 1 ∧ K L (.long (hJ h a k) :: st) h
  | _ => False
def o_getR (c k : Nat) (K : KT) : KT := fun L st h => match st with
  | .ref a :: st => hK h a = c + 1 ∧ ∃ x, hR h a k = some x ∧ K L (.ref x :: st) h
  | _ => False
def o_putI (c k : Nat) (K : KT) : KT := fun L st h => match st with
  | .int x :: .ref a :: st => hK h a = c + 1 ∧ K L st (setI h a k x)
  | _ => False
def o_putZ (c k : Nat) (K : KT) : KT := fun L st h => match st with
  | .int x :: .ref a :: st => hK h a = c + 1 ∧ vp_nar .boolean x = x ∧ K L st (setI h a k x)
  | _ => False
def o_putJ (c k : Nat) (K : KT) : KT := fun L st h => match st with
  | .long x :: .ref a :: st => hK h a = c + 1 ∧ K L st (setJ h a k x)
  | _ => False
def o_putR (c k : Nat) (K : KT) : KT := fun L st h => match st with
  | .ref x :: .ref a :: st => hK h a = c + 1 ∧ K L st (setR h a k (some x))
  | _ => False
def o_iald (t : Nat) (K : KT) : KT := fun L st h => match st with
  | .int i :: .ref a :: st => hK h a = t ∧ vp_in i (hN h a) ∧ K L (.int (hI h a i.toNatClampNeg) :: st) h
  | _ => False
def o_lald (K : KT) : KT := fun L st h => match st with
  | .int i :: .ref a :: st => hK h a = 24 ∧ vp_in i (hN h a) ∧ K L (.long (hJ h a i.toNatClampNeg) :: st) h
  | _ => False
def o_aald (t : Nat) (K : KT) : KT := fun L st h => match st with
  | .int i :: .ref a :: st => hK h a = t ∧ vp_in i (hN h a) ∧ ∃ x, hR h a i.toNatClampNeg = some x ∧ K L (.ref x :: st) h
  | _ => False
def o_iast (K : KT) : KT := fun L st h => match st with
  | .int x :: .int i :: .ref a :: st => hK h a = 21 ∧ vp_in i (hN h a) ∧ K L st (setI h a i.toNatClampNeg x)
  | _ => False
def o_bast (K : KT) : KT := fun L st h => match st with
  | .int x :: .int i :: .ref a :: st => hK h a = 22 ∧ vp_in i (hN h a) ∧ K L st (setI h a i.toNatClampNeg (vp_nar .byte x))
  | _ => False
def o_zast (K : KT) : KT := fun L st h => match st with
  | .int x :: .int i :: .ref a :: st => hK h a = 23 ∧ vp_in i (hN h a) ∧ K L st (setI h a i.toNatClampNeg (vp_nar .boolean x))
  | _ => False
def o_last (K : KT) : KT := fun L st h => match st with
  | .long x :: .int i :: .ref a :: st => hK h a = 24 ∧ vp_in i (hN h a) ∧ K L st (setJ h a i.toNatClampNeg x)
  | _ => False
/-- t the array's kind, c its objects' class -/
def o_aast (t c : Nat) (K : KT) : KT := fun L st h => match st with
  | .ref x :: .int i :: .ref a :: st => hK h a = t ∧ vp_in i (hN h a) ∧ hK h x = c + 1 ∧ K L st (setR h a i.toNatClampNeg (some x))
  | _ => False
def o_alen (t : Nat) (K : KT) : KT := fun L st h => match st with
  | .ref a :: st => hK h a = t ∧ K L (.int (Int32.ofNat (hN h a)) :: st) h
  | _ => False
section OPS
variable {g : GT} {M : MD} {d : Nat} {b : Nat × Nat} {Q : Option Value → HP → Prop} {pc : Nat} {K K1 K2 : KT} {L st : List Value} {h : HP}
theorem k_getI {cn k idx : Nat} (hd : decode M.2.1 pc = .ok (.getfield idx, 3)) (hf : FL M.1.cls cn k idx 0) (n : Nx g M d b Q (pc + 3) K) : o_getI cn k K L st h → Sat g M d b Q pc L st h := by
  intro ho p e R s m args below meth c H locs cells slots Z ls C hH hL hc hs hF
  unfold o_getI at ho
  split at ho
  · next a st2 =>
    obtain ⟨hk, ho⟩ := ho
    obtain ⟨f1, f2, f3, f4⟩ := hf
    have hat := hH.2.2.2.at hk (by omega)
    rw [cellE_obj hk f2] at hat
    have hts := C.2.2.2.2.2.2.1
    exact va_get (D := gD g) (cl := vwCl) C.1 C.2.1 hts (in_good f2) C.2.2.2.2.1 C.2.2.2.2.2.2.2.2.2.2.1.1 (va_P1 hat) 0 rfl (ck_cl f2) k f3 (hts _ f1) (fun _ q => q) (v := .int (hI h a k)) (by rw [fl_get f3]; unfold fv; rw [f4]; rfl) hd (n _ _ _ ho p e R s m args below meth c H locs cells slots Z ls C hH hL hc hs hF)
  · exact absurd ho id
theorem k_getJ {cn k idx : Nat} (hd : decode M.2.1 pc = .ok (.getfield idx, 3)) (hf : FL M.1.cls cn k idx 1) (n : Nx g M d b Q (pc + 3) K) : o_getJ cn k K L st h → Sat g M d b Q pc L st h := by
  intro ho p e R s m args below meth c H locs cells slots Z ls C hH hL hc hs hF
  unfold o_getJ at ho
  split at ho
  · next a st2 =>
    obtain ⟨hk, ho⟩ := ho
    obtain ⟨f1, f2, f3, f4⟩ := hf
    have hat := hH.2.2.2.at hk (by omega)
    rw [cellE_obj hk f2] at hat
    have hts := C.2.2.2.2.2.2.1
    exact va_get (D := gD g) (cl := vwCl) C.1 C.2.1 hts (in_good f2) C.2.2.2.2.1 C.2.2.2.2.2.2.2.2.2.2.1.1 (va_P1 hat) 0 rfl (ck_cl f2) k f3 (hts _ f1) (fun _ q => q) (v := .long (hJ h a k)) (by rw [fl_get f3]; unfold fv; rw [f4]; rfl) hd (n _ _ _ ho p e R s m args below meth c H locs cells slots Z ls C hH hL hc hs hF)
  · exact absurd ho id
theorem k_getR {cn k idx : Nat} (hd : decode M.2.1 pc = .ok (.getfield idx, 3)) (hf : FL M.1.cls cn k idx 2) (n : Nx g M d b Q (pc + 3) K) : o_getR cn k K L st h → Sat g M d b Q pc L st h := by
  intro ho p e R s m args below meth c H locs cells slots Z ls C hH hL hc hs hF
  unfold o_getR at ho
  split at ho
  · next a st2 =>
    obtain ⟨hk, x, hx, ho⟩ := ho
    obtain ⟨f1, f2, f3, f4⟩ := hf
    have hat := hH.2.2.2.at hk (by omega)
    rw [cellE_obj hk f2] at hat
    have hts := C.2.2.2.2.2.2.1
    exact va_get (D := gD g) (cl := vwCl) C.1 C.2.1 hts (in_good f2) C.2.2.2.2.1 C.2.2.2.2.2.2.2.2.2.2.1.1 (va_P1 hat) 0 rfl (ck_cl f2) k f3 (hts _ f1) (fun _ q => q) (v := .ref (gz g + x)) (by rw [fl_get f3]; unfold fv; rw [f4, hx]; rfl) hd (n _ _ _ ho p e R s m args below meth c H locs cells slots Z ls C hH hL hc hs hF)
  · exact absurd ho id
theorem bool_nar {x : Int32} (h : vp_nar .boolean x = x) : narrow .boolean (.int x) = .int x := by
  have e : narrow .boolean (.int x) = .int (vp_nar .boolean x) := by simp [vp_nar, narrow]
  rw [e, h]
theorem bool_fit {x : Int32} (h : vp_nar .boolean x = x) : fits .boolean (.int x) = true := by
  have h1 : x = x &&& 1 := by
    have : vp_nar .boolean x = x &&& 1 := by simp [vp_nar, narrow]
    rw [← this, h]
  have h2 : (x &&& 1) = 0 ∨ (x &&& 1) = 1 := by
    have e := pk_and x (m := 1) 1 (by decide)
    rw [e]
    rcases (show x.toBitVec.toNat % 2 ^ 1 = 0 ∨ x.toBitVec.toNat % 2 ^ 1 = 1 by omega) with q | q <;> rw [q]
    · exact Or.inl rfl
    · exact Or.inr rfl
  rw [h1]
  rcases h2 with q | q <;> rw [q] <;> rfl
theorem ref_nar {t : FieldType} {a : Nat} (h : ftag t = 2) : narrow t (.ref a) = .ref a := by cases t <;> first | rfl | (simp [ftag] at h; done)
theorem ref_fit {t : FieldType} {a : Nat} (h : ftag t = 2) : fits t (.ref a) = true := by cases t <;> first | rfl | (simp [ftag] at h; done)
theorem k_putI {cn k idx : Nat} (hd : decode M.2.1 pc = .ok (.putfield idx, 3)) (hf : FL M.1.cls cn k idx 0) (hn : cty cn k = .int) (hfin : (cT cn k).2.2.2 = false ∨ ((cT cn k).2.2.2 = true ∧ M.1.name = "<init>" ∧ (cT cn k).1 = M.1.cls)) (n : Nx g M d b Q (pc + 3) K) : o_putI cn k K L st h → Sat g M d b Q pc L st h := by
  intro ho p e R s m args below meth c H locs cells slots Z ls C hH hL hc hs hF
  unfold o_putI at ho
  split at ho
  · next x a st2 =>
    obtain ⟨hk, ho⟩ := ho
    obtain ⟨f1, f2, f3, f4⟩ := hf
    have hat := hH.2.2.2.at hk (by omega)
    have hlt := hH.2.2.2.lt hk (by omega)
    rw [cellE_obj hk f2] at hat
    have hts := C.2.2.2.2.2.2.1
    refine lw_put (D := gD g) (cl := vwCl) (v := .int x) C.1 C.2.1 hts (in_good f2) (cty cn) (ck_ty f2) (ck_nm f2) C.2.2.2.2.1 C.2.2.2.2.2.2.2.2.2.2.1.1 hat (ck_cl f2) k f3 (hts _ f1) (hfin.imp id (fun q => ⟨q.1, C.2.2.2.2.2.1.trans q.2.1, q.2.2⟩)) (by rw [hn]; rfl) (by rw [hn]; rfl) (by rw [fl_len]; exact f3) hd (fun H1 j e1 e2 e3 => ?_)
    refine (n _ _ _ ho p e R s m args below meth c H1 (locs ++ [⟨gz g + a, j⟩]) cells slots Z ls C (hH.put (h' := setI h a k x) rfl hlt (fun y hy => cellE_congr rfl rfl ?_ ?_ ?_) ?_ e2 e3) hL hc hs hF)
    · first | rfl | exact up2_row _ _ hy
    · first | rfl | exact up2_row _ _ hy
    · first | rfl | exact up2_row _ _ hy
    · rw [cellE_obj (h := setI h a k x) hk f2, fl_set (h := h) (v := .int x) f3 ?_ ?_]
      · exact e1
      · unfold fv; rw [f4]; simp [setI, setJ, setR, up2, va_rf, hI, hJ, hR]
      · intro j2 hj2
        unfold fv
        simp [setI, setJ, setR, up2, hj2, hI, hJ, hR]
  · exact absurd ho id
theorem k_putZ {cn k idx : Nat} (hd : decode M.2.1 pc = .ok (.putfield idx, 3)) (hf : FL M.1.cls cn k idx 0) (hn : cty cn k = .boolean) (hfin : (cT cn k).2.2.2 = false ∨ ((cT cn k).2.2.2 = true ∧ M.1.name = "<init>" ∧ (cT cn k).1 = M.1.cls)) (n : Nx g M d b Q (pc + 3) K) : o_putZ cn k K L st h → Sat g M d b Q pc L st h := by
  intro ho p e R s m args below meth c H locs cells slots Z ls C hH hL hc hs hF
  unfold o_putZ at ho
  split at ho
  · next x a st2 =>
    obtain ⟨hk, hq, ho⟩ := ho
    obtain ⟨f1, f2, f3, f4⟩ := hf
    have hat := hH.2.2.2.at hk (by omega)
    have hlt := hH.2.2.2.lt hk (by omega)
    rw [cellE_obj hk f2] at hat
    have hts := C.2.2.2.2.2.2.1
    refine lw_put (D := gD g) (cl := vwCl) (v := .int x) C.1 C.2.1 hts (in_good f2) (cty cn) (ck_ty f2) (ck_nm f2) C.2.2.2.2.1 C.2.2.2.2.2.2.2.2.2.2.1.1 hat (ck_cl f2) k f3 (hts _ f1) (hfin.imp id (fun q => ⟨q.1, C.2.2.2.2.2.1.trans q.2.1, q.2.2⟩)) (by rw [hn]; exact bool_nar hq) (by rw [hn]; exact bool_fit hq) (by rw [fl_len]; exact f3) hd (fun H1 j e1 e2 e3 => ?_)
    refine (n _ _ _ ho p e R s m args below meth c H1 (locs ++ [⟨gz g + a, j⟩]) cells slots Z ls C (hH.put (h' := setI h a k x) rfl hlt (fun y hy => cellE_congr rfl rfl ?_ ?_ ?_) ?_ e2 e3) hL hc hs hF)
    · first | rfl | exact up2_row _ _ hy
    · first | rfl | exact up2_row _ _ hy
    · first | rfl | exact up2_row _ _ hy
    · rw [cellE_obj (h := setI h a k x) hk f2, fl_set (h := h) (v := .int x) f3 ?_ ?_]
      · exact e1
      · unfold fv; rw [f4]; simp [setI, setJ, setR, up2, va_rf, hI, hJ, hR]
      · intro j2 hj2
        unfold fv
        simp [setI, setJ, setR, up2, hj2, hI, hJ, hR]
  · exact absurd ho id
theorem k_putJ {cn k idx : Nat} (hd : decode M.2.1 pc = .ok (.putfield idx, 3)) (hf : FL M.1.cls cn k idx 1) (hn : cty cn k = .long) (hfin : (cT cn k).2.2.2 = false ∨ ((cT cn k).2.2.2 = true ∧ M.1.name = "<init>" ∧ (cT cn k).1 = M.1.cls)) (n : Nx g M d b Q (pc + 3) K) : o_putJ cn k K L st h → Sat g M d b Q pc L st h := by
  intro ho p e R s m args below meth c H locs cells slots Z ls C hH hL hc hs hF
  unfold o_putJ at ho
  split at ho
  · next x a st2 =>
    obtain ⟨hk, ho⟩ := ho
    obtain ⟨f1, f2, f3, f4⟩ := hf
    have hat := hH.2.2.2.at hk (by omega)
    have hlt := hH.2.2.2.lt hk (by omega)
    rw [cellE_obj hk f2] at hat
    have hts := C.2.2.2.2.2.2.1
    refine lw_put (D := gD g) (cl := vwCl) (v := .long x) C.1 C.2.1 hts (in_good f2) (cty cn) (ck_ty f2) (ck_nm f2) C.2.2.2.2.1 C.2.2.2.2.2.2.2.2.2.2.1.1 hat (ck_cl f2) k f3 (hts _ f1) (hfin.imp id (fun q => ⟨q.1, C.2.2.2.2.2.1.trans q.2.1, q.2.2⟩)) (by rw [hn]; rfl) (by rw [hn]; rfl) (by rw [fl_len]; exact f3) hd (fun H1 j e1 e2 e3 => ?_)
    refine (n _ _ _ ho p e R s m args below meth c H1 (locs ++ [⟨gz g + a, j⟩]) cells slots Z ls C (hH.put (h' := setJ h a k x) rfl hlt (fun y hy => cellE_congr rfl rfl ?_ ?_ ?_) ?_ e2 e3) hL hc hs hF)
    · first | rfl | exact up2_row _ _ hy
    · first | rfl | exact up2_row _ _ hy
    · first | rfl | exact up2_row _ _ hy
    · rw [cellE_obj (h := setJ h a k x) hk f2, fl_set (h := h) (v := .long x) f3 ?_ ?_]
      · exact e1
      · unfold fv; rw [f4]; simp [setI, setJ, setR, up2, va_rf, hI, hJ, hR]
      · intro j2 hj2
        unfold fv
        simp [setI, setJ, setR, up2, hj2, hI, hJ, hR]
  · exact absurd ho id
theorem k_putR {cn k idx : Nat} (hd : decode M.2.1 pc = .ok (.putfield idx, 3)) (hf : FL M.1.cls cn k idx 2) (hfin : (cT cn k).2.2.2 = false ∨ ((cT cn k).2.2.2 = true ∧ M.1.name = "<init>" ∧ (cT cn k).1 = M.1.cls)) (n : Nx g M d b Q (pc + 3) K) : o_putR cn k K L st h → Sat g M d b Q pc L st h := by
  intro ho p e R s m args below meth c H locs cells slots Z ls C hH hL hc hs hF
  unfold o_putR at ho
  split at ho
  · next x a st2 =>
    obtain ⟨hk, ho⟩ := ho
    obtain ⟨f1, f2, f3, f4⟩ := hf
    have hat := hH.2.2.2.at hk (by omega)
    have hlt := hH.2.2.2.lt hk (by omega)
    rw [cellE_obj hk f2] at hat
    have hts := C.2.2.2.2.2.2.1
    refine lw_put (D := gD g) (cl := vwCl) (v := .ref (gz g + x)) C.1 C.2.1 hts (in_good f2) (cty cn) (ck_ty f2) (ck_nm f2) C.2.2.2.2.1 C.2.2.2.2.2.2.2.2.2.2.1.1 hat (ck_cl f2) k f3 (hts _ f1) (hfin.imp id (fun q => ⟨q.1, C.2.2.2.2.2.1.trans q.2.1, q.2.2⟩)) (ref_nar f4) (ref_fit f4) (by rw [fl_len]; exact f3) hd (fun H1 j e1 e2 e3 => ?_)
    refine (n _ _ _ ho p e R s m args below meth c H1 (locs ++ [⟨gz g + a, j⟩]) cells slots Z ls C (hH.put (h' := setR h a k (some x)) rfl hlt (fun y hy => cellE_congr rfl rfl ?_ ?_ ?_) ?_ e2 e3) hL hc hs hF)
    · first | rfl | exact up2_row _ _ hy
    · first | rfl | exact up2_row _ _ hy
    · first | rfl | exact up2_row _ _ hy
    · rw [cellE_obj (h := setR h a k (some x)) hk f2, fl_set (h := h) (v := .ref (gz g + x)) f3 ?_ ?_]
      · exact e1
      · unfold fv; rw [f4]; simp [setI, setJ, setR, up2, va_rf, hI, hJ, hR]
      · intro j2 hj2
        unfold fv
        simp [setI, setJ, setR, up2, hj2, hI, hJ, hR]
  · exact absurd ho id
theorem k_ald21 (hd : decode M.2.1 pc = .ok (.iaload, 1)) (n : Nx g M d b Q (pc + 1) K) : o_iald 21 K L st h → Sat g M d b Q pc L st h := by
  intro ho p e R s m args below meth c H locs cells slots Z ls C hH hL hc hs hF
  unfold o_iald at ho
  split at ho
  · next i a st2 =>
    obtain ⟨hk, hi, ho⟩ := ho
    have hat := hH.2.2.2.at hk (by omega)
    rw [cellE_int hk] at hat
    exact va_iald (D := gD g) (cl := vwCl) C.1 C.2.1 C.2.2.2.2.2.2.2.2.2.2.1.1 (va_P1 hat) 0 0 rfl rfl hi hd (n _ _ _ ho p e R s m args below meth c H locs cells slots Z ls C hH hL hc hs hF)
  · exact absurd ho id
theorem k_ald22 (hd : decode M.2.1 pc = .ok (.baload, 1)) (n : Nx g M d b Q (pc + 1) K) : o_iald 22 K L st h → Sat g M d b Q pc L st h := by
  intro ho p e R s m args below meth c H locs cells slots Z ls C hH hL hc hs hF
  unfold o_iald at ho
  split at ho
  · next i a st2 =>
    obtain ⟨hk, hi, ho⟩ := ho
    have hat := hH.2.2.2.at hk (by omega)
    rw [cellE_byte hk] at hat
    exact va_bald (D := gD g) (cl := vwCl) C.1 C.2.1 C.2.2.2.2.2.2.2.2.2.2.1.1 (va_P1 hat) 0 1 rfl rfl hi hd (n _ _ _ ho p e R s m args below meth c H locs cells slots Z ls C hH hL hc hs hF)
  · exact absurd ho id
theorem k_ald23 (hd : decode M.2.1 pc = .ok (.baload, 1)) (n : Nx g M d b Q (pc + 1) K) : o_iald 23 K L st h → Sat g M d b Q pc L st h := by
  intro ho p e R s m args below meth c H locs cells slots Z ls C hH hL hc hs hF
  unfold o_iald at ho
  split at ho
  · next i a st2 =>
    obtain ⟨hk, hi, ho⟩ := ho
    have hat := hH.2.2.2.at hk (by omega)
    rw [cellE_bool hk] at hat
    exact va_zald (D := gD g) (cl := vwCl) C.1 C.2.1 C.2.2.2.2.2.2.2.2.2.2.1.1 (va_P1 hat) 0 2 rfl rfl hi hd (n _ _ _ ho p e R s m args below meth c H locs cells slots Z ls C hH hL hc hs hF)
  · exact absurd ho id
theorem k_lald (hd : decode M.2.1 pc = .ok (.laload, 1)) (n : Nx g M d b Q (pc + 1) K) : o_lald K L st h → Sat g M d b Q pc L st h := by
  intro ho p e R s m args below meth c H locs cells slots Z ls C hH hL hc hs hF
  unfold o_lald at ho
  split at ho
  · next i a st2 =>
    obtain ⟨hk, hi, ho⟩ := ho
    have hat := hH.2.2.2.at hk (by omega)
    rw [cellE_long hk] at hat
    exact va_lald (D := gD g) (cl := vwCl) C.1 C.2.1 C.2.2.2.2.2.2.2.2.2.2.1.1 (va_P1 hat) 0 3 rfl rfl hi hd (n _ _ _ ho p e R s m args below meth c H locs cells slots Z ls C hH hL hc hs hF)
  · exact absurd ho id
theorem k_aald {t : Nat} {X : String} (hd : decode M.2.1 pc = .ok (.aaload, 1)) (ht : 25 ≤ t) (hX : ∀ g : GT, (gtys g)[t - 21]? = some (gA g t, .object X)) (n : Nx g M d b Q (pc + 1) K) : o_aald t K L st h → Sat g M d b Q pc L st h := by
  intro ho p e R s m args below meth c H locs cells slots Z ls C hH hL hc hs hF
  unfold o_aald at ho
  split at ho
  · next i a st2 =>
    obtain ⟨hk, hi, x, hx, ho⟩ := ho
    have hat := hH.2.2.2.at hk (by omega)
    rw [cellE_ref hk ht] at hat
    have key : W p (gl g) e R s m args below meth c H locs cells slots Z (F0 m (pc + 1) ls (va_rf ((hR h a i.toNatClampNeg).map (gz g + ·)) :: st2.map (trv g))) := by
      rw [hx]
      exact (n _ _ _ ho p e R s m args below meth c H locs cells slots Z ls C hH hL hc hs hF)
    exact va_aldq (D := gD g) (cl := vwCl) C.1 C.2.1 C.2.2.2.2.2.2.2.2.2.2.1.1 (va_P1 hat) 0 (t - 21) rfl (hX g) hi hd key
  · exact absurd ho id
theorem k_iast (hd : decode M.2.1 pc = .ok (.iastore, 1)) (n : Nx g M d b Q (pc + 1) K) : o_iast K L st h → Sat g M d b Q pc L st h := by
  intro ho p e R s m args below meth c H locs cells slots Z ls C hH hL hc hs hF
  unfold o_iast at ho
  split at ho
  · next x i a st2 =>
    obtain ⟨hk, hi, ho⟩ := ho
    have hat := hH.2.2.2.at hk (by omega)
    have hlt := hH.2.2.2.lt hk (by omega)
    rw [cellE_int hk] at hat
    have hKn := C.2.2.2.2.2.2.2.2.2.2.1.1
    refine W.iast C.1 C.2.1 hat ((hKn.2 0 _ rfl).1 (hN h a) (fun j => .int (hI h a j))) (fun q => by cases q) (by show ¬ (i < 0 ∨ (arrV _ _ _).slots.size ≤ _); rw [arrV_size]; exact hi) rfl rfl hd fun H1 e1 z oq => ?_
    refine (n _ _ _ ho p e R s m args below meth c H1 _ cells slots Z ls C (hH.put (h' := setI h a i.toNatClampNeg x) rfl hlt (fun y hy => cellE_congr rfl rfl ?_ ?_ ?_) ?_ z oq) hL hc hs hF)
    · first | rfl | exact up2_row _ _ hy
    · first | rfl | exact up2_row _ _ hy
    · first | rfl | exact up2_row _ _ hy
    · rw [cellE_int (h := setI h a i.toNatClampNeg x) hk]
      show H1[gz g + a]? = some (vp_cell _ _)
      rw [e1]
      rw [vp_cell_i, vp_cell_i, arrV_store]
      congr 2
      funext q
      by_cases hq : q = i.toNatClampNeg
      · subst hq
        simp [updV, setI, setJ, up2, vp_nar, hI, hJ]
        try rfl
      · simp [updV, setI, setJ, up2, hq, hI, hJ]
  · exact absurd ho id
theorem k_bast (hd : decode M.2.1 pc = .ok (.bastore, 1)) (n : Nx g M d b Q (pc + 1) K) : o_bast K L st h → Sat g M d b Q pc L st h := by
  intro ho p e R s m args below meth c H locs cells slots Z ls C hH hL hc hs hF
  unfold o_bast at ho
  split at ho
  · next x i a st2 =>
    obtain ⟨hk, hi, ho⟩ := ho
    have hat := hH.2.2.2.at hk (by omega)
    have hlt := hH.2.2.2.lt hk (by omega)
    rw [cellE_byte hk] at hat
    have hKn := C.2.2.2.2.2.2.2.2.2.2.1.1
    refine W.bast C.1 C.2.1 hat ((hKn.2 1 _ rfl).1 (hN h a) (fun j => .int (hI h a j))) (fun q => by cases q) (by show ¬ (i < 0 ∨ (arrV _ _ _).slots.size ≤ _); rw [arrV_size]; exact hi) rfl rfl hd fun H1 e1 z oq => ?_
    refine (n _ _ _ ho p e R s m args below meth c H1 _ cells slots Z ls C (hH.put (h' := setI h a i.toNatClampNeg (vp_nar .byte x)) rfl hlt (fun y hy => cellE_congr rfl rfl ?_ ?_ ?_) ?_ z oq) hL hc hs hF)
    · first | rfl | exact up2_row _ _ hy
    · first | rfl | exact up2_row _ _ hy
    · first | rfl | exact up2_row _ _ hy
    · rw [cellE_byte (h := setI h a i.toNatClampNeg (vp_nar .byte x)) hk]
      show H1[gz g + a]? = some (vp_cell _ _)
      rw [e1]
      rw [vp_cell_i, vp_cell_i, arrV_store]
      congr 2
      funext q
      by_cases hq : q = i.toNatClampNeg
      · subst hq
        simp [updV, setI, setJ, up2, vp_nar, hI, hJ]
        try rfl
      · simp [updV, setI, setJ, up2, hq, hI, hJ]
  · exact absurd ho id
theorem k_zast (hd : decode M.2.1 pc = .ok (.bastore, 1)) (n : Nx g M d b Q (pc + 1) K) : o_zast K L st h → Sat g M d b Q pc L st h := by
  intro ho p e R s m args below meth c H locs cells slots Z ls C hH hL hc hs hF
  unfold o_zast at ho
  split at ho
  · next x i a st2 =>
    obtain ⟨hk, hi, ho⟩ := ho
    have hat := hH.2.2.2.at hk (by omega)
    have hlt := hH.2.2.2.lt hk (by omega)
    rw [cellE_bool hk] at hat
    have hKn := C.2.2.2.2.2.2.2.2.2.2.1.1
    refine W.zast C.1 C.2.1 hat ((hKn.2 2 _ rfl).1 (hN h a) (fun j => .int (hI h a j))) (fun q => by cases q) (by show ¬ (i < 0 ∨ (arrV _ _ _).slots.size ≤ _); rw [arrV_size]; exact hi) rfl rfl hd fun H1 e1 z oq => ?_
    refine (n _ _ _ ho p e R s m args below meth c H1 _ cells slots Z ls C (hH.put (h' := setI h a i.toNatClampNeg (vp_nar .boolean x)) rfl hlt (fun y hy => cellE_congr rfl rfl ?_ ?_ ?_) ?_ z oq) hL hc hs hF)
    · first | rfl | exact up2_row _ _ hy
    · first | rfl | exact up2_row _ _ hy
    · first | rfl | exact up2_row _ _ hy
    · rw [cellE_bool (h := setI h a i.toNatClampNeg (vp_nar .boolean x)) hk]
      show H1[gz g + a]? = some (vp_cell _ _)
      rw [e1]
      rw [vp_cell_i, vp_cell_i, arrV_store]
      congr 2
      funext q
      by_cases hq : q = i.toNatClampNeg
      · subst hq
        simp [updV, setI, setJ, up2, vp_nar, hI, hJ]
        try rfl
      · simp [updV, setI, setJ, up2, hq, hI, hJ]
  · exact absurd ho id
theorem k_last (hd : decode M.2.1 pc = .ok (.lastore, 1)) (n : Nx g M d b Q (pc + 1) K) : o_last K L st h → Sat g M d b Q pc L st h := by
  intro ho p e R s m args below meth c H locs cells slots Z ls C hH hL hc hs hF
  unfold o_last at ho
  split at ho
  · next x i a st2 =>
    obtain ⟨hk, hi, ho⟩ := ho
    have hat := hH.2.2.2.at hk (by omega)
    have hlt := hH.2.2.2.lt hk (by omega)
    rw [cellE_long hk] at hat
    have hKn := C.2.2.2.2.2.2.2.2.2.2.1.1
    refine W.last C.1 C.2.1 hat ((hKn.2 3 _ rfl).1 (hN h a) (fun j => .long (hJ h a j))) (fun q => by cases q) (by show ¬ (i < 0 ∨ (arrV _ _ _).slots.size ≤ _); rw [arrV_size]; exact hi) rfl rfl hd fun H1 e1 z oq => ?_
    refine (n _ _ _ ho p e R s m args below meth c H1 _ cells slots Z ls C (hH.put (h' := setJ h a i.toNatClampNeg x) rfl hlt (fun y hy => cellE_congr rfl rfl ?_ ?_ ?_) ?_ z oq) hL hc hs hF)
    · first | rfl | exact up2_row _ _ hy
    · first | rfl | exact up2_row _ _ hy
    · first | rfl | exact up2_row _ _ hy
    · rw [cellE_long (h := setJ h a i.toNatClampNeg x) hk]
      show H1[gz g + a]? = some (vp_cell _ _)
      rw [e1]
      rw [vp_cell_l, vp_cell_l, arrV_store]
      congr 2
      funext q
      by_cases hq : q = i.toNatClampNeg
      · subst hq
        simp [updV, setI, setJ, up2, vp_nar, hI, hJ]
        try rfl
      · simp [updV, setI, setJ, up2, hq, hI, hJ]
  · exact absurd ho id
theorem k_aast {t cn : Nat} (hd : decode M.2.1 pc = .ok (.aastore, 1)) (ht : 25 ≤ t) (hc2 : cn < 11) (hX : ∀ g : GT, (gtys g)[t - 21]? = some (gA g t, .object (cC cn))) (n : Nx g M d b Q (pc + 1) K) : o_aast t cn K L st h → Sat g M d b Q pc L st h := by
  intro ho p e R s m args below meth c H locs cells slots Z ls C hH hL hc hs hF
  unfold o_aast at ho
  split at ho
  · next x i a st2 =>
    obtain ⟨hk, hi, hkx, ho⟩ := ho
    have hat := hH.2.2.2.at hk (by omega)
    have hlt := hH.2.2.2.lt hk (by omega)
    have hax := hH.2.2.2.at hkx (by omega)
    rw [cellE_ref hk ht] at hat
    rw [cellE_obj hkx hc2] at hax
    have hKn := C.2.2.2.2.2.2.2.2.2.2.1.1
    have hlt2 : i.toNatClampNeg < hN h a := Nat.not_le.mp fun q => hi (Or.inr q)
    have h0 : ¬ i < 0 := fun q => hi (Or.inl q)
    obtain ⟨r', hr', cellV, g1, g2, g3, -⟩ := hax
    have hcls := (hKn.1 cn _ (ck_cl hc2)).2
    obtain ⟨kA, comp, k1, k2, k3, -⟩ := (hKn.2 (t - 21) _ (hX g)).2
    have hcomp : comp = (gD g).1 cn := Option.some.inj (k3.symm.trans hcls.1)
    subst hcomp
    obtain ⟨kC, hkC, -⟩ := hcls.2
    refine W.aast C.1 C.2.1 hat (fun q h => by cases h) (fun h => by cases h) k1 k2 rfl hkC ⟨h0, by show _ < (arrV _ _ _).slots.size; rw [arrV_size]; exact hlt2⟩ g1 (fun q h => by rw [g3] at h; cases h) (by rw [g2]; exact hkC) (by rw [g2]; exact va_assign hcls) rfl rfl hd fun H1 e1 z oq => ?_
    refine (n _ _ _ ho p e R s m args below meth c H1 _ cells slots Z ls C (hH.put (h' := setR h a i.toNatClampNeg (some x)) rfl hlt (fun y hy => cellE_congr rfl rfl ?_ ?_ ?_) ?_ z oq) hL hc hs hF)
    · first | rfl | exact up2_row _ _ hy
    · first | rfl | exact up2_row _ _ hy
    · first | rfl | exact up2_row _ _ hy
    · rw [cellE_ref (h := setR h a i.toNatClampNeg (some x)) hk ht]
      show H1[gz g + a]? = some (vp_cell _ _)
      rw [e1]
      rw [vp_cell_q, vp_cell_q, arrV_store]
      congr 2
      funext q
      by_cases hq : q = i.toNatClampNeg
      · subst hq
        simp [updV, setR, up2, va_rf, hR]
      · simp [updV, setR, up2, hq, hR]
  · exact absurd ho id
theorem k_alen {t : Nat} {ty : FieldType} (hd : decode M.2.1 pc = .ok (.arraylength, 1)) (ht : 21 ≤ t) (hX : ∀ g : GT, (gtys g)[t - 21]? = some (gA g t, ty)) (n : Nx g M d b Q (pc + 1) K) : o_alen t K L st h → Sat g M d b Q pc L st h := by
  intro ho p e R s m args below meth c H locs cells slots Z ls C hH hL hc hs hF
  unfold o_alen at ho
  split at ho
  · next a st2 =>
    obtain ⟨hk, ho⟩ := ho
    have hat := hH.2.2.2.at hk (by omega)
    have e0 : cellE g h a = .inl (gA g t, ar g h a) := by unfold cellE; rw [if_neg (by rw [hk]; omega), hk]
    rw [e0] at hat
    exact va_alen (D := gD g) (cl := vwCl) C.1 C.2.1 C.2.2.2.2.2.2.2.2.2.2.1.1 (va_P1 hat) 0 (t - 21) rfl (hX g) rfl hd (n _ _ _ ho p e R s m args below meth c H locs cells slots Z ls C hH hL hc hs hF)
  · exact absurd ho id
end OPS
