/-! THE CLAIM OUT OF ONE WALK OF THE LAW'S BODY. Your part is whole_start (and what it stands on); all else here is the same for every law, but numbers. -/
def R_law : String := "FewThatMatterLaw"
def lw_P (b : Addr) (xs : List Int32) (args : Array Value) (s : State) : Prop := args = #[.ref b] ∧ s.IntsAt b xs ∧ xs.length ≤ 2560 ∧ (Jvm.Cond.and given_1 narrow_1).before args s = true
def lw_Q (_ : Array Value) (s : State) (o : Outcome) (t : State) : Prop := o = .returned (some (.int 1)) ∧ Framed s o t [] 600000 7302250
def lw_Z (below : List Frame) (a : Array Value) (s : State) : State → Prop := fun t => ∃ o, t.status = .running ∧ Ended t below o ∧ lw_Q a s o t
/-- the law's own end, with 1 on the stack, nothing written that was there before, its room as the claim has it -/
theorem lw_ret {p : Program} {l : Launch} {e : Env} {s : State} {m : MethodId} {below : List Frame} {meth : Method} {c : Code} {b : Nat} (hx : p.tables.exec = Jvm.exec) (hb : c.code = code) (hr : meth.sig.returnType = ret) (hlocks : meth.locks = false) {pc : Nat} {H : Heap} {ls : Array Slot} (hdg : decode code pc = .ok (.ireturn, 1)) : W p l e room_1 s m #[Value.ref b] below meth c H [] 600000 7302250 (lw_Z below #[Value.ref b] s) (F0 m pc ls [.int 1]) := by
  intro T hT X
  obtain ⟨fs, hret, hrun, hended, hW, hframe⟩ := X.leave (v := some (.int 1)) (hlocks := hlocks) (fun h => by rw [hr] at h; cases h)
  have hmeth' : T.vm.method? m = some meth := X.method'
  refine ⟨T.setFrames fs, ?_, .returned (some (.int 1)), hrun, hended, rfl, ⟨_, rfl⟩, hW, hframe⟩
  jvm_step X.here [X.here.top, hx, hb, hdg, hmeth', hr, ret, narrow_b1]
  (try refine ⟨rfl, ?_⟩); (try refine ⟨rfl, ?_⟩)
  first | (intro acts; rw [hret _ acts rfl rfl rfl]) | rw [hret _ _ rfl rfl rfl]
  exact Steps.refl _
/-- what holds at the law's entry: the machine, the code, the tables' words (any of lw_tbl by 'hts w (by decide +kernel)'), the script of L ints xs at the cell b, what the Statement gives of the start (any of its parts by flat_of_before) -/
def lw_At (p : Program) (s : State) (m : MethodId) (meth : Method) (c : Code) (b L : Nat) (xs : Nat → Int32) : Prop :=
  p.tables.exec = Jvm.exec ∧ c.code = code ∧ meth.sig.returnType = ret ∧ c.maxLocals = 4 ∧ s.vm.findClass R_law = some m.cls ∧ (∀ w ∈ lw_tbl, w.before #[Value.ref b] s = true) ∧ va_X b L xs s s.heap ∧ b < s.heap.size ∧ meth.locks = false ∧ (Jvm.Cond.and given_1 narrow_1).before #[Value.ref b] s = true
theorem nwl_in : ∀ w ∈ nwl, w ∈ lw_tbl := List.forall_mem_cons.mpr ⟨(tm1 (i := 31) rfl), List.forall_mem_cons.mpr ⟨(tm1 (i := 35) rfl), List.forall_mem_cons.mpr ⟨(tm1 (i := 36) rfl), List.forall_mem_cons.mpr ⟨(tm1 (i := 38) rfl), List.forall_mem_cons.mpr ⟨(tm1 (i := 39) rfl), List.forall_mem_cons.mpr ⟨(tm1 (i := 40) rfl), List.forall_mem_cons.mpr ⟨(tm1 (i := 41) rfl), List.forall_mem_cons.mpr ⟨(tm1 (i := 42) rfl), List.forall_mem_cons.mpr ⟨(tm1 (i := 44) rfl), List.forall_mem_cons.mpr ⟨(tm1 (i := 45) rfl), List.forall_mem_cons.mpr ⟨(tm1 (i := 47) rfl), List.forall_mem_cons.mpr ⟨(tm1 (i := 48) rfl), List.forall_mem_cons.mpr ⟨(tm1 (i := 49) rfl), List.forall_mem_cons.mpr ⟨(tm1 (i := 75) rfl), List.forall_mem_cons.mpr ⟨(tm1 (i := 76) rfl), List.forall_mem_cons.mpr ⟨(tm1 (i := 81) rfl), List.forall_mem_cons.mpr ⟨(tm1 (i := 116) rfl), List.forall_mem_cons.mpr ⟨(tm1 (i := 157) rfl), List.forall_mem_cons.mpr ⟨(tm1 (i := 159) rfl), List.forall_mem_cons.mpr ⟨(tm1 (i := 161) rfl), List.forall_mem_cons.mpr ⟨(tm1 (i := 163) rfl), List.forall_mem_cons.mpr ⟨(tm1 (i := 165) rfl), List.forall_mem_cons.mpr ⟨(tm1 (i := 168) rfl), List.forall_mem_cons.mpr ⟨(tm1 (i := 170) rfl), List.forall_mem_cons.mpr ⟨(tm2 (i := 120) rfl), List.forall_mem_cons.mpr ⟨(tm2 (i := 152) rfl), List.forall_mem_cons.mpr ⟨(tm2 (i := 161) rfl), List.forall_mem_cons.mpr ⟨(tm2 (i := 162) rfl), List.forall_mem_cons.mpr ⟨(tm2 (i := 163) rfl), fun _ h => absurd h List.not_mem_nil⟩⟩⟩⟩⟩⟩⟩⟩⟩⟩⟩⟩⟩⟩⟩⟩⟩⟩⟩⟩⟩⟩⟩⟩⟩⟩⟩⟩⟩
theorem tsw_out18 {x : Int32} (h0 : ¬ x = 0) (h1 : ¬ x = 1) (h2 : ¬ x = 2) (h3 : ¬ x = 3) (h4 : ¬ x = 4) (h5 : ¬ x = 5) (h6 : ¬ x = 6) (h7 : ¬ x = 7) (h8 : ¬ x = 8) (h9 : ¬ x = 9) (h10 : ¬ x = 10) (h11 : ¬ x = 11) (h12 : ¬ x = 12) (h13 : ¬ x = 13) (h14 : ¬ x = 14) (h15 : ¬ x = 15) (h16 : ¬ x = 16) (h17 : ¬ x = 17) (h18 : ¬ x = 18) : x.toInt < 0 ∨ 18 < x.toInt := by
  have a0 := lv_neT h0 (a := 0) rfl
  have a1 := lv_neT h1 (a := 1) rfl
  have a2 := lv_neT h2 (a := 2) rfl
  have a3 := lv_neT h3 (a := 3) rfl
  have a4 := lv_neT h4 (a := 4) rfl
  have a5 := lv_neT h5 (a := 5) rfl
  have a6 := lv_neT h6 (a := 6) rfl
  have a7 := lv_neT h7 (a := 7) rfl
  have a8 := lv_neT h8 (a := 8) rfl
  have a9 := lv_neT h9 (a := 9) rfl
  have a10 := lv_neT h10 (a := 10) rfl
  have a11 := lv_neT h11 (a := 11) rfl
  have a12 := lv_neT h12 (a := 12) rfl
  have a13 := lv_neT h13 (a := 13) rfl
  have a14 := lv_neT h14 (a := 14) rfl
  have a15 := lv_neT h15 (a := 15) rfl
  have a16 := lv_neT h16 (a := 16) rfl
  have a17 := lv_neT h17 (a := 17) rfl
  have a18 := lv_neT h18 (a := 18) rfl
  omega
