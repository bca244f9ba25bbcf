/-! what is asked, on both sides -/
def BothQ (g : GT) (D : Nat) (mC mM : MD) (av : List Value) (h : HP) : Prop := CallI g mC D (.ref 0 :: av) h (fun v1 h1 => CallI g mM D (.ref 252 :: av) h1 (fun v2 h2 => v1 = v2 ∧ ∃ G', StG h2 G'))
section QU
variable {g : GT} {d : Nat} {h : HP} {G : G4}
theorem op_bed {a b : Int32} (S : StG h G) : BothQ g (d + 40) mX9_bed mX10_bed [.int a, .int b] h := c_bed S.cz (m_bed S.mz ⟨rfl, G, S⟩)
theorem op_lodger {a b : Int32} (S : StG h G) : BothQ g (d + 40) mX9_lodger mX10_lodger [.int a, .int b] h := c_lodger S.cz (m_lodger S.mz ⟨rfl, G, S⟩)
theorem op_ahead {a b c : Int32} (S : StG h G) : BothQ g (d + 40) mX9_ahead mX10_ahead [.int a, .int b, .int c] h := c_ahead S.cz S.hb (fun h1 f1 => m_ahead (S.c f1).mz S.hb (fun h2 f2 => ⟨rfl, G, (S.c f1).m f2⟩))
theorem op_comes {a b : Int32} (S : StG h G) : BothQ g (d + 40) mX9_comes mX10_comes [.int a, .int b] h := c_comes S.cz S.hb (fun h1 f1 => m_comes (S.c f1).mz S.hb (fun h2 f2 => ⟨rfl, G, (S.c f1).m f2⟩))
theorem op_row {a b c : Int32} (S : StG h G) : BothQ g (d + 40) mX9_row mX10_row [.int a, .int b, .int c] h := c_row S.cz S.hb (fun h1 f1 => m_row (S.c f1).mz S.hb (fun h2 f2 => ⟨rfl, G, (S.c f1).m f2⟩))
theorem op_tonight {a : Int32} (S : StG h G) : BothQ g (d + 40) mX9_tonight mX10_tonight [.int a] h := c_tonight S.cz (fun h1 f1 => m_tonight (S.c f1).mz S.hb (fun h2 f2 => ⟨rfl, G, (S.c f1).m f2⟩))
theorem op_turned {a b : Int32} (S : StG h G) : BothQ g (d + 40) mX9_turned mX10_turned [.int a, .int b] h := c_turned S.cz S.hb (fun h1 f1 => m_turned (S.c f1).mz S.hb (fun h2 f2 => ⟨rfl, G, (S.c f1).m f2⟩))
theorem op_lain {a b c : Int32} (S : StG h G) : BothQ g (d + 40) mX9_lain mX10_lain [.int a, .int b, .int c] h := c_lain S.cz (fun h1 f1 => m_lain (S.c f1).mz ⟨rfl, G, S.c f1⟩)
theorem op_twins {a b : Int32} (S : StG h G) : BothQ g (d + 40) mX9_twins mX10_twins [.int a, .int b] h := c_twins S.cz S.hb (fun h1 f1 => m_twins (S.c f1).mz S.hb (fun h2 f2 => ⟨rfl, G, (S.c f1).m f2⟩))
theorem op_settled {a : Int32} (S : StG h G) : BothQ g (d + 40) mX9_settled mX10_settled [.int a] h := c_settled S.cz S.hb (fun h1 f1 => m_settled (S.c f1).mz S.hb (fun h2 f2 => ⟨rfl, G, (S.c f1).m f2⟩))
theorem op_best {a b : Int32} (S : StG h G) : BothQ g (d + 40) mX9_best mX10_best [.int a, .int b] h := c_best S.cz S.hb (fun h1 f1 => m_best (S.c f1).mz S.hb (fun h2 f2 => ⟨rfl, G, (S.c f1).m f2⟩))
theorem op_rests {a b c e : Int32} (S : StG h G) : BothQ g (d + 40) mX9_rests mX10_rests [.int a, .int b, .int c, .int e] h := c_rests S.cz S.hb (fun h1 f1 => m_rests (S.c f1).mz S.hb (fun h2 f2 => ⟨rfl, G, (S.c f1).m f2⟩))
theorem op_rent {a b : Int32} (S : StG h G) : BothQ g (d + 40) mX9_rent mX10_rent [.int a, .int b] h := c_rent S.cz S.hb (m_rent S.mz S.hb ⟨rfl, G, S⟩)
theorem op_mays {a b c e : Int32} (S : StG h G) : BothQ g (d + 40) mX9_mays mX10_mays [.int a, .int b, .int c, .int e] h := c_mays S.cz S.hb S.2.2.1.2.2.2.2.2.2.2 S.1.2.1.2.2.2.2.2 (fun h1 f1 => m_mays (S.c f1).mz S.hb S.2.2.1.2.2.2.2.2.2.2 (S.c f1).2.1.1.2.2.2.1 (fun h2 f2 => ⟨rfl, G, (S.c f1).m f2⟩))
theorem StG.nto {h : HP} {G : G4} (S : StG h G) : NtOK G.1.2.2.1 G.1.1.2 := by
  have q := S.2.2.1.2.2.2.2.2.1
  have b := S.2.2.1.2.2.2.1.2.2.1
  exact ⟨q.1, fun k hk => by rw [b 2 (by omega), b 3 (by omega)]; exact q.2 k hk⟩
theorem op_ruled {a : Int32} (S : StG h G) : BothQ g (d + 40) mX9_ruled mX10_ruled [.int a] h :=
  c_ruled S.cz S.1.2.1.2.1 S.2.2.1.2.2.2.1.2.1 S.2.2.1.2.2.2.1.2.2.2.1 (S.2.2.1.2.2.2.1.2.2.1 0 (by omega)) S.cnt S.nto S.1.2.2.2.2.1 S.1.2.2.2.1 (fun h1 f1 => m_ruled (S.c f1).mz S.2.2.1.2.2.2.1 (S.c f1).mto (S.c f1).mnt S.nto (S.c f1).2.1.2.2.1 (fun h2 f2 => ⟨rfl, G, (S.c f1).m f2⟩))
theorem op_look {a b : Int32} (S : StG h G) : BothQ g (d + 40) mX9_look mX10_look [.int a, .int b] h :=
  c_look S.cz S.1.2.1.2.1 S.2.2.1.2.2.2.1.2.1 S.2.2.1.2.2.2.1.2.2.2.1 (S.2.2.1.2.2.2.1.2.2.1 0 (by omega)) S.cnt S.nto S.1.2.2.2.2.1 S.1.2.2.2.1 (fun h1 f1 => m_look (S.c f1).mz S.2.2.1.2.2.2.1 (S.c f1).mto (S.c f1).mnt S.nto (S.c f1).2.1.2.2.1 (fun h2 f2 => ⟨rfl, G, (S.c f1).m f2⟩))
theorem op_count {a : Int32} (S : StG h G) : BothQ g (d + 40) mX9_count mX10_count [.int a] h := by
  obtain ⟨nx, -, -, e1, -⟩ := S.1.2.1.2.2.1
  exact c_cnt S.cz S.1.2.2.2.1 S.1.2.1.2.2.2.2.1 S.cnt.1 e1 S.1.2.1.2.2.2.2.2 S.1.2.2.1.2.1 (m_cnt S.mz S.2.1.2.2.1.2.1 S.2.1.1.2.2.2.2.1 S.mnt.1 S.mps.2.1 S.2.1.1.2.2.2.1 S.2.1.2.1.2.1 ⟨rfl, G, S⟩)
end QU
