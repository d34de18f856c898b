/-! CONSTRUCTORS: worlds that grow, by explicit lists of cells -/
def va_AOA (ty : FieldType) (U : State) : Prop := (Cond.arrayOver (.array ty)).before #[] U = true
theorem va_AOA.use {ty : FieldType} {A : Array Value} {U : State} (h : va_AOA ty U) : (Cond.arrayOver (.array ty)).before A U = true := h
theorem va_AOA.moved {ty : FieldType} {u U : State} (hvm : u.vm.Alike U.vm) (h : va_AOA ty u) : va_AOA ty U := by
  have h2 : (Cond.arrayOver (.array ty)).before #[] (u.setVm U.vm) = true := by rw [Cond.arrayOver_setVmC hvm]; exact h
  unfold va_AOA
  simp only [Cond.before, Cond.holds, Cond.value, State.vm_setVm] at h2 ⊢
  exact h2
theorem vr_outer (c : ClassId) (N h0 : Nat) : ∀ i : Nat, Jvm.Free.Multi.outerC c N h0 i = arrV c N (fun j => va_rf (if j < i then some (h0 + 1 + j) else none))
  | 0 => by
    show ({ cls := c, slots := Array.replicate N .null, vm := .none } : Cell) = _
    rw [arrV_new]
    refine congrArg (arrV c N) (funext fun j => ?_)
    simp [va_rf]
  | i + 1 => by
    show (Jvm.Free.Multi.outerC c N h0 i).setSlot i (.ref (h0 + 1 + i)) = _
    rw [vr_outer c N h0 i, arrV_store]
    refine congrArg (arrV c N) (funext fun j => ?_)
    by_cases e : j = i
    · subst e
      simp [updV, va_rf]
    · by_cases h : j < i
      · simp [updV, e, h, Nat.lt_succ_of_lt h]
      · simp [updV, e, h, show ¬ j < i + 1 by omega]
def CW (w : WE) (ws : va_W) (A : Nat → Prop) (H0 H : Heap) (locs : List Loc) : Prop := va_P w.2.2 vwCl ws H ∧ va_D A ws ∧ va_S A H0 H locs ∧ ∀ q, H0.size ≤ q → A q
abbrev outF (q N : Nat) : Nat → Option Nat := fun i => if i < N then some (q + 1 + i) else none
abbrev outC (w : WE) (q N : Nat) : Nat × va_E := (q, .inl (w.2.1.2.2, N, .inr (.inr (.inr (.inr (outF q N))))))
abbrev iaC (w : WE) (q n : Nat) (f : Nat → Int32) : Nat × va_E := (q, .inl (w.2.1.1, n, .inl f))
abbrev laC (w : WE) (q n : Nat) (f : Nat → Int64) : Nat × va_E := (q, .inl (w.2.1.2.1, n, .inr (.inl f)))
def KWo (w : WE) (U : State) : Prop := KW w U ∧ va_AOA .int U
section NW1
variable {p : Program} {l : Launch} {e : Env} {R : Room} {s : State} {m : MethodId} {args : Array Value} {below : List Frame} {meth : Method} {c : Code} {H : Heap} {locs : List Loc} {cells slots : Nat} {Q : State → Prop}
variable {cc : ByteArray} {pc : Nat} {ls : Array Slot} {rest : List Value} {w : WE} {ws : va_W} {A : Nat → Prop} {H0 : Heap}
theorem n_new (hx : p.tables.exec = Jvm.exec) (hb : c.code = cc) {own C : String} {T : u_T} {N ci index : Nat} {Ts : List Cond} (hts : ∀ w ∈ Ts, w.before args s = true) (hin : ∀ w ∈ u_ws C T N, w ∈ Ts) (ty : Nat → FieldType) (hty : ∀ k, k < N → parseFieldDescriptor (T k).2.2.1 = some (ty k)) (hown : s.vm.findClass own = some m.cls) (hcl : (Cond.classLink own index C).before args s = true) (hinst : (Cond.instantiable C N).before args s = true) (hini : (Cond.initialized C).before args s = true) (hK : KWo w s) (hw : CW w ws A H0 H locs) (hc : vwCl[ci]? = some (C, T, N)) {fs : List Value} (hfs : ∀ j, j < N → defaultValue (ty j) = vp_V fs j) (hcells : cells + 1 ≤ R.cells) (hslots : slots + N ≤ R.slots) (hdg : decode cc pc = .ok (.new index, 3))
    (kk : ∀ (q : Nat) (H1 : Heap), CW w (ws ++ [(q, .inr (ci, fs))]) A H0 H1 locs → W p l e R s m args below meth c H1 locs (cells + 1) (slots + N) Q (F0 m (pc + 3) ls (.ref q :: rest))) : W p l e R s m args below meth c H locs cells slots Q (F0 m pc ls rest) :=
  va_new hx hb hts hin ty hty hown hcl hinst hini hK.1.1 hw.1 hw.2.1 hw.2.2.1 hw.2.2.2 hc hfs hcells hslots hdg (fun q H1 hP hD hS => kk q H1 ⟨hP, hD, hS, hw.2.2.2⟩)
theorem n_newI (hx : p.tables.exec = Jvm.exec) (hb : c.code = cc) (harr : (Cond.arrayClass .int).before args s = true) (hK : KWo w s) (hw : CW w ws A H0 H locs) {n : Int32} (N' : Nat) (hn : ¬ n < 0) (hN : n.toNatClampNeg = N') (hbytes : N' * componentBytes .int ≤ 536870912) (hcells : cells + 1 ≤ R.cells) (hslots : slots + N' ≤ R.slots) (hdg : decode cc pc = .ok (.newarray .int, 2))
    (kk : ∀ (q : Nat) (H1 : Heap), CW w (ws ++ [iaC w q N' (fun _ => 0)]) A H0 H1 locs → W p l e R s m args below meth c H1 locs (cells + 1) (slots + N') Q (F0 m (pc + 2) ls (.ref q :: rest))) : W p l e R s m args below meth c H locs cells slots Q (F0 m pc ls (.int n :: rest)) := by
  refine va_newa (atype := .int) (ty := .int) (a0 := (N', .inl (fun _ => 0))) hx hb harr rfl hK.1.1 hw.1 hw.2.1 hw.2.2.1 hw.2.2.2 (fun cA => by rw [vp_cell_i]; rfl) hn hN hbytes hcells hslots hdg (fun q cA H1 hK2 hP hD hS => ?_)
  have e1 : s.vm.findClass ("[" ++ (FieldType.int).toString) = some w.2.1.1 := (hK.1.1.2 0 _ rfl).2
  have e2 : s.vm.findClass ("[" ++ (FieldType.int).toString) = some cA := (hK2.2 3 _ rfl).2
  have e3 : w.2.1.1 = cA := Option.some.inj (e1.symm.trans e2)
  subst e3
  exact kk q H1 ⟨hP, hD, hS, hw.2.2.2⟩
theorem n_newJ (hx : p.tables.exec = Jvm.exec) (hb : c.code = cc) (harr : (Cond.arrayClass .long).before args s = true) (hK : KWo w s) (hw : CW w ws A H0 H locs) {n : Int32} (N' : Nat) (hn : ¬ n < 0) (hN : n.toNatClampNeg = N') (hbytes : N' * componentBytes .long ≤ 536870912) (hcells : cells + 1 ≤ R.cells) (hslots : slots + N' ≤ R.slots) (hdg : decode cc pc = .ok (.newarray .long, 2))
    (kk : ∀ (q : Nat) (H1 : Heap), CW w (ws ++ [laC w q N' (fun _ => 0)]) A H0 H1 locs → W p l e R s m args below meth c H1 locs (cells + 1) (slots + N') Q (F0 m (pc + 2) ls (.ref q :: rest))) : W p l e R s m args below meth c H locs cells slots Q (F0 m pc ls (.int n :: rest)) := by
  refine va_newa (atype := .long) (ty := .long) (a0 := (N', .inr (.inl (fun _ => 0)))) hx hb harr rfl hK.1.1 hw.1 hw.2.1 hw.2.2.1 hw.2.2.2 (fun cA => by rw [vp_cell_l]; rfl) hn hN hbytes hcells hslots hdg (fun q cA H1 hK2 hP hD hS => ?_)
  have e1 : s.vm.findClass ("[" ++ (FieldType.long).toString) = some w.2.1.2.1 := (hK.1.1.2 1 _ rfl).2
  have e2 : s.vm.findClass ("[" ++ (FieldType.long).toString) = some cA := (hK2.2 3 _ rfl).2
  have e3 : w.2.1.2.1 = cA := Option.some.inj (e1.symm.trans e2)
  subst e3
  exact kk q H1 ⟨hP, hD, hS, hw.2.2.2⟩
theorem n_mna (hx : p.tables.exec = Jvm.exec) (hb : c.code = cc) {own : String} {index : Nat} (hown : s.vm.findClass own = some m.cls) (hclink : (Cond.classLink own index "[[I").before args s = true) (harr : (Cond.arrayClass .int).before args s = true) (hK : KWo w s) (hw : CW w ws A H0 H locs) {n k : Int32} (N' K' : Nat) (hn : ¬ n < 0) (hk : ¬ k < 0) (hN : n.toNatClampNeg = N') (hM : k.toNatClampNeg = K') (hb1 : N' * 4 ≤ 536870912) (hb2 : K' * componentBytes .int ≤ 536870912) (hb3 : K' ≤ 536870912) (hcells : cells + (1 + N') ≤ R.cells) (hslots : slots + (N' + N' * K') ≤ R.slots) (hdg : decode cc pc = .ok (.multianewarray index 2, 4))
    (kk : ∀ (q : Nat) (H1 : Heap), CW w (ws ++ (outC w q N' :: (List.range N').map (fun i => iaC w (q + 1 + i) K' (fun _ => 0)))) A H0 H1 locs → W p l e R s m args below meth c H1 locs (cells + 1 + N') (slots + N' + N' * K') Q (F0 m (pc + 4) ls (.ref q :: rest))) : W p l e R s m args below meth c H locs cells slots Q (F0 m pc ls (.int k :: .int n :: rest)) := by
  subst hN
  subst hM
  intro T hT Xs
  obtain ⟨vm₁, cA, comp, -, fA, fC, hO, -, X', step⟩ := Xs.multianewarray2F (ty := .int) hx hown hclink (va_AOA.use hK.2) harr (g := F0 m pc ls (.int k :: .int n :: rest)) rfl (by rw [hb]; exact hdg) rfl hn hk hb1 hb2 hb3 rfl rfl hcells hslots
  have ec : w.2.1.1 = comp := Option.some.inj (((hK.1.1.2 0 _ rfl).2 : s.vm.findClass ("[" ++ (FieldType.int).toString) = some w.2.1.1).symm.trans fC)
  have eA : w.2.1.2.2 = cA := Option.some.inj (((hK.1.1.2 2 _ rfl).2 : s.vm.findClass ("[" ++ (FieldType.array .int).toString) = some w.2.1.2.2).symm.trans fA)
  subst ec
  subst eA
  generalize hF : Jvm.Free.Multi.fill (T.setVm vm₁) w.2.1.2.2 w.2.1.1 n.toNatClampNeg k.toNatClampNeg (defaultValue .int) n.toNatClampNeg = F at X' step
  have hTh : (T.setVm vm₁).heap = H := hT
  obtain ⟨f1, f2, -, -⟩ := Jvm.Free.Multi.fill_facts (T.setVm vm₁) w.2.1.2.2 w.2.1.1 n.toNatClampNeg k.toNatClampNeg (defaultValue .int) n.toNatClampNeg
  rw [hF, hTh] at f1 f2
  have hold : ∀ x : Nat, x < H.size → F.heap[x]? = H[x]? := fun x hx => by
    have := Jvm.Free.Multi.fill_old (T.setVm vm₁) w.2.1.2.2 w.2.1.1 n.toNatClampNeg k.toNatClampNeg (defaultValue .int) (a := x) (by rw [hTh]; exact hx) n.toNatClampNeg
    rw [hF, hTh] at this
    exact this
  have hz : ∀ c : ClassId, Jvm.Free.Multi.innerC c k.toNatClampNeg (defaultValue .int) = vp_cell c (k.toNatClampNeg, .inl (fun _ => 0)) := fun c => by
    rw [vp_cell_i]
    show ({ cls := c, slots := Array.replicate k.toNatClampNeg (defaultValue .int), vm := .none } : Cell) = _
    rw [arrV_new]
    rfl
  have hrow : ∀ j : Nat, j < n.toNatClampNeg → F.heap[H.size + 1 + j]? = some (vp_cell w.2.1.1 (k.toNatClampNeg, .inl (fun _ => 0))) := fun j hj => by
    have := Jvm.Free.Multi.fill_inner (T.setVm vm₁) w.2.1.2.2 w.2.1.1 n.toNatClampNeg k.toNatClampNeg (defaultValue .int) n.toNatClampNeg j hj
    rw [hF, hTh, hz] at this
    exact this
  have hout : Jvm.Free.Multi.outerC w.2.1.2.2 n.toNatClampNeg H.size n.toNatClampNeg = vp_cell w.2.1.2.2 (n.toNatClampNeg, .inr (.inr (.inr (.inr (outF H.size n.toNatClampNeg))))) := by
    rw [vp_cell_q]
    exact vr_outer w.2.1.2.2 n.toNatClampNeg H.size n.toNatClampNeg
  rw [hout] at f2
  have hP0 : va_P w.2.2 vwCl ws F.heap := hw.1.kept (fun k9 x hx => hold x.1 ((hw.1 k9 x hx).lt))
  have hnew : ∀ (k9 : Nat) (x : Nat × va_E), (outC w H.size n.toNatClampNeg :: (List.range n.toNatClampNeg).map (fun i => iaC w (H.size + 1 + i) k.toNatClampNeg (fun _ => 0)))[k9]? = some x → va_at w.2.2 vwCl x F.heap ∧ x.1 = H.size + k9 := fun k9 x hx => by
    cases k9 with
    | zero => cases hx; exact ⟨f2, rfl⟩
    | succ k9 =>
      rw [List.getElem?_cons_succ, List.getElem?_map] at hx
      by_cases h9 : k9 < n.toNatClampNeg
      · rw [List.getElem?_range h9] at hx
        cases hx
        exact ⟨hrow k9 h9, by show H.size + 1 + k9 = _; omega⟩
      · have hn0 : (List.range n.toNatClampNeg)[k9]? = none := List.getElem?_eq_none (by rw [List.length_range]; omega)
        rw [hn0] at hx
        cases hx
  have hP1 : va_P w.2.2 vwCl (ws ++ (outC w H.size n.toNatClampNeg :: (List.range n.toNatClampNeg).map (fun i => iaC w (H.size + 1 + i) k.toNatClampNeg (fun _ => 0)))) F.heap := hP0.app (fun k9 x hx => (hnew k9 x hx).1)
  have hD1 : va_D A (ws ++ (outC w H.size n.toNatClampNeg :: (List.range n.toNatClampNeg).map (fun i => iaC w (H.size + 1 + i) k.toNatClampNeg (fun _ => 0)))) := by
    refine va_D.app hw.2.1 ⟨fun i j x y hi hj hxy => ?_, fun k9 x hx => ?_⟩ (fun i j x y hi hj => ?_)
    · have := (hnew i x hi).2
      have := (hnew j y hj).2
      omega
    · have := (hnew k9 x hx).2
      exact hw.2.2.2 _ (by have := hw.2.2.1.1; omega)
    · have := (hnew j y hj).2
      have := (hw.1 i x hi).lt
      omega
  obtain ⟨t, a1, b1⟩ := kk H.size F.heap ⟨hP1, hD1, ⟨by rw [f1]; have := hw.2.2.1.1; omega, fun x h1 h2 => (hold x (Nat.lt_of_lt_of_le h1 hw.2.2.1.1)).trans (hw.2.2.1.2.1 x h1 h2), hw.2.2.1.2.2⟩, hw.2.2.2⟩ F rfl X'
  refine ⟨t, step t ?_, b1⟩
  have e : T.heap.size = H.size := by rw [hT]
  rw [e]
  exact a1
/-- a final field in a constructor -/
theorem n_putF (hx : p.tables.exec = Jvm.exec) (hb : c.code = cc) {own C : String} {T : u_T} {N ci index : Nat} {Ts : List Cond} (hts : ∀ w ∈ Ts, w.before args s = true) (hin : ∀ w ∈ u_ws C T N, w ∈ Ts) (ty0 : Nat → FieldType) (hty : ∀ k, k < N → parseFieldDescriptor (T k).2.2.1 = some (ty0 k)) (hnm : ∀ a, a < N → ∀ b, b < N → a ≠ b → (T a).2.1 ≠ (T b).2.1) (hown : s.vm.findClass own = some m.cls) (hK : KWo w s) (hw : CW w ws A H0 H locs) {a : Nat} (q0 : Nat) {fs : List Value} (he : ws[q0]? = some (a, .inr (ci, fs))) (hc : vwCl[ci]? = some (C, T, N)) (k : Nat) (hk : k < N) (hlink : (Cond.fieldLink own index own (T k).2.1 (T k).2.2.1).before args s = true) (hsame : (T k).1 = own) (hfin : (T k).2.2.2 = true) (hin2 : meth.name = "<init>") {ty : FieldType} {v : Value} (hd : parseFieldDescriptor (T k).2.2.1 = some ty) (hn : narrow ty v = v) (hfit : fits ty v = true) (hl : k < fs.length) (hdg : decode cc pc = .ok (.putfield index, 3))
    (kk : ∀ (H1 : Heap) (locs1 : List Loc), CW w (ws.set q0 (a, .inr (ci, fs.set k v))) A H0 H1 locs1 → W p l e R s m args below meth c H1 locs1 cells slots Q (F0 m (pc + 3) ls rest)) : W p l e R s m args below meth c H locs cells slots Q (F0 m pc ls (v :: .ref a :: rest)) :=
  va_putF hx hb hts hin ty0 hty hnm hown hK.1.1 hw.1 hw.2.1 hw.2.2.1 q0 he hc k hk hlink (fun x h => by rw [← hsame]; exact h) hfin hin2 hsame hd hn hfit hl hdg (fun H1 locs1 hP hD hS => kk H1 locs1 ⟨hP, hD, hS, hw.2.2.2⟩)
theorem n_put (hx : p.tables.exec = Jvm.exec) (hb : c.code = cc) {own C : String} {T : u_T} {N ci index : Nat} {Ts : List Cond} (hts : ∀ w ∈ Ts, w.before args s = true) (hin : ∀ w ∈ u_ws C T N, w ∈ Ts) (ty0 : Nat → FieldType) (hty : ∀ k, k < N → parseFieldDescriptor (T k).2.2.1 = some (ty0 k)) (hnm : ∀ a, a < N → ∀ b, b < N → a ≠ b → (T a).2.1 ≠ (T b).2.1) (hown : s.vm.findClass own = some m.cls) (hK : KWo w s) (hw : CW w ws A H0 H locs) {a : Nat} (q0 : Nat) {fs : List Value} (he : ws[q0]? = some (a, .inr (ci, fs))) (hc : vwCl[ci]? = some (C, T, N)) (k : Nat) (hk : k < N) (hlink : (Cond.fieldLink own index own (T k).2.1 (T k).2.2.1).before args s = true) (hsame : (T k).1 = own) (hfin : (T k).2.2.2 = false) {ty : FieldType} {v : Value} (hd : parseFieldDescriptor (T k).2.2.1 = some ty) (hn : narrow ty v = v) (hfit : fits ty v = true) (hl : k < fs.length) (hdg : decode cc pc = .ok (.putfield index, 3))
    (kk : ∀ (H1 : Heap) (locs1 : List Loc), CW w (ws.set q0 (a, .inr (ci, fs.set k v))) A H0 H1 locs1 → W p l e R s m args below meth c H1 locs1 cells slots Q (F0 m (pc + 3) ls rest)) : W p l e R s m args below meth c H locs cells slots Q (F0 m pc ls (v :: .ref a :: rest)) :=
  va_put hx hb hts hin ty0 hty hnm hown hK.1.1 hw.1 hw.2.1 hw.2.2.1 q0 he hc k hk hlink (fun x h => by rw [← hsame]; exact h) hfin hd hn hfit hl hdg (fun H1 locs1 hP hD hS => kk H1 locs1 ⟨hP, hD, hS, hw.2.2.2⟩)
theorem n_get (hx : p.tables.exec = Jvm.exec) (hb : c.code = cc) {own C : String} {T : u_T} {N ci index : Nat} {Ts : List Cond} (hts : ∀ w ∈ Ts, w.before args s = true) (hin : ∀ w ∈ u_ws C T N, w ∈ Ts) (hown : s.vm.findClass own = some m.cls) (hK : KWo w s) (hw : CW w ws A H0 H locs) {a : Nat} (q0 : Nat) {fs : List Value} (he : ws[q0]? = some (a, .inr (ci, fs))) (hc : vwCl[ci]? = some (C, T, N)) (k : Nat) (hk : k < N) (hlink : (Cond.fieldLink own index own (T k).2.1 (T k).2.2.1).before args s = true) (hsame : (T k).1 = own) {v : Value} (hv : fs[k]? = some v) (hdg : decode cc pc = .ok (.getfield index, 3))
    (kk : W p l e R s m args below meth c H locs cells slots Q (F0 m (pc + 3) ls (v :: rest))) : W p l e R s m args below meth c H locs cells slots Q (F0 m pc ls (.ref a :: rest)) :=
  va_get hx hb hts hin hown hK.1.1 hw.1 q0 he hc k hk hlink (fun x h => by rw [← hsame]; exact h) hv hdg kk
end NW1
/-- the frame: what stood before the new cells stays -/
theorem n_frame {D : va_G} {cl : List vw_C} {A : Nat → Prop} {ws wc w1 : va_W} {H H1 : Heap} (hP : va_P D cl (ws ++ wc) H) (hD : va_D A (ws ++ wc)) (hk : ∀ q : Nat, q < H.size → ¬ va_A wc H.size q → H1[q]? = H[q]?) (hF : ∀ q, va_A wc H.size q → A q) (hP1 : va_P D cl w1 H1) (hD1 : va_D (va_A wc H.size) w1) : va_P D cl (ws ++ w1) H1 ∧ va_D A (ws ++ w1) := by
  have at1 : ∀ (k : Nat) (q : Nat × va_E), ws[k]? = some q → (ws ++ wc)[k]? = some q ∧ k < ws.length := fun k q h => by
    have hl := (List.getElem?_eq_some_iff.mp h).1
    exact ⟨by rw [List.getElem?_append_left hl]; exact h, hl⟩
  have apart : ∀ (k : Nat) (q : Nat × va_E), ws[k]? = some q → ¬ va_A wc H.size q.1 := fun k q h => by
    obtain ⟨h1, h2⟩ := at1 k q h
    rintro (⟨j, e, hj⟩ | hj)
    · have h3 : (ws ++ wc)[ws.length + j]? = some (q.1, e) := by rw [List.getElem?_append_right (by omega), Nat.add_sub_cancel_left]; exact hj
      have := hD.1 _ _ _ _ h1 h3 rfl
      omega
    · have := (hP _ _ h1).lt
      omega
  refine ⟨va_P.app (fun k q h => ?_) hP1, va_D.app ⟨fun i j x y hi hj hxy => hD.1 i j x y (at1 i x hi).1 (at1 j y hj).1 hxy, fun k q h => hD.2 k q (at1 k q h).1⟩ (hD1.weaken (fun k q _ h => hF q.1 h)) (fun i j x y hi hj hxy => ?_)⟩
  · exact (hP _ _ (at1 k q h).1).kept (hk q.1 (hP _ _ (at1 k q h).1).lt (apart k q h))
  · exact apart i x hi (by rw [hxy]; exact hD1.2 j y hj)
abbrev rmC (n mc ms : Nat) : Room := { frames := n, cells := mc, slots := ms, locals := 40 * n }
/-- a constructor's start -/
def PcC (w : WE) (sz : Nat) (ob : Nat × va_E) (av : List Value) : Array Value → State → Prop :=
  va_Pc av (fun U => U.heap.size = sz ∧ va_P w.2.2 vwCl [ob] U.heap ∧ va_D (fun _ => True) [ob] ∧ KWo w U)
theorem fbC (w : WE) (sz : Nat) (ob : Nat × va_E) (av : List Value) : FrameBlind (PcC w sz ob av) := by
  intro a U g mk q
  obtain ⟨q0, q1, q2, q3, ⟨q4, q5⟩, q6⟩ := q
  exact ⟨q0, q1, q2, q3, ⟨va_K.moved (u := U) (U := U.calling g mk a) (Vm.Alike.refl U.vm) q4, NW.same (s := U) (U := U.calling g mk a) rfl q5⟩, va_AOA.moved (u := U) (U := U.calling g mk a) (Vm.Alike.refl U.vm) q6⟩
theorem KWo.warm {w : WE} {s U : State} (hW : s.WarmedH U.vm) (h : KWo w s) : KWo w U := ⟨h.1.warm hW, va_AOA.moved hW.alike h.2⟩
/-- a constructor's end: its world by a list that its value u names -/
def QC {S : Type} (w : WE) (sz : Nat) (ob : Nat × va_E) (post : S → Prop) (lst : S → va_W) : Array Value → State → Outcome → State → Prop :=
  va_Qv post (fun u t => va_P w.2.2 vwCl (lst u) t.heap ∧ va_D (va_A [ob] sz) (lst u)) (va_A [ob] sz)
theorem metC {l : Launch} {y : MethodName} {ws ws' : List Cond} {rm : Room} {cc : ByteArray} {maxL mc ms : Nat} {ret : Option FieldType} {own : String} {w : WE} {ob : Nat × va_E} {sz : Nat} (av : List Value) {Qc : Array Value → State → Outcome → State → Prop} (hy : plainFor y = true) (hw : ws = Cond.code y cc maxL ret :: ws') (ho : y.cls = own) (hi : y.name = "<init>") (hav : (lg_sl av).length ≤ maxL)
    (body : ∀ (p : Program) (e : Env) (s : State) (m : MethodId) (below : List Frame) (meth : Method) (c : Code) (ls : Array Slot), s.heap.size = sz → CallFix p m c cc maxL s av.toArray ws own → meth.sig.returnType = ret ∧ meth.locks = false → meth.name = "<init>" → KWo w s → CW w [ob] (va_A [ob] s.heap.size) s.heap s.heap [] → lv_has ls maxL (lv_args 0 av) →
      W p l e rm s m av.toArray below meth c s.heap [] 0 0 (MQ below Qc av.toArray s mc ms (va_A [ob] sz)) (F0 m 0 ls [])) : Met l y ws rm (PcC w sz ob av) Qc mc ms (va_A [ob] sz) := by
  refine metOfW (cc := cc) (maxL := maxL) (ret := ret) hy hw ?_
  intro p e s m args below meth c s₁ K hml hv
  obtain ⟨rfl, hsz, hP, hD, hKW⟩ := hv
  have hl := lv_entry av (n := maxL) hav
  rw [lg_entry_eq]
  generalize (lg_sl av ++ List.replicate (maxL - (lg_sl av).length) Slot.unset).toArray = ls at hl ⊢
  have hown : s.vm.findClass y.cls = some m.cls := findClass_of_methodNamed K.named
  rw [ho] at hown
  have hn : meth.name = "<init>" := by rw [← hi]; exact (name_of_methodNamed K.named K.method).1
  exact body p e s m below meth c ls hsz ⟨K.exec, K.bytes, hml, hown, atoms_spec (ws := ws) K.pre⟩ ⟨K.returns, K.notSynchronized⟩ hn hKW ⟨hP, hD.self, va_S.rf, fun q h => Or.inr h⟩ hl
section NW2
variable {p : Program} {l : Launch} {e : Env} {R : Room} {s : State} {m : MethodId} {args : Array Value} {below : List Frame} {meth : Method} {c : Code} {H : Heap} {locs : List Loc} {cells slots : Nat} {Q : State → Prop}
variable {cc : ByteArray} {pc : Nat} {ls : Array Slot} {rest : List Value} {w : WE} {ws : va_W} {A : Nat → Prop} {H0 : Heap} {mc ms : Nat}
theorem n_ret {S : Type} {ob : Nat × va_E} {post : S → Prop} {lst : S → va_W} (u : S) (hx : p.tables.exec = Jvm.exec) (hb : c.code = cc) (hr : meth.sig.returnType = none ∧ meth.locks = false) (hw : CW w ws (va_A [ob] s.heap.size) s.heap H locs) (he : lst u = ws) (h : post u) (hdg : decode cc pc = .ok (.return_, 1)) : W p l e R s m args below meth c H locs mc ms (MQ below (QC w s.heap.size ob post lst) args s mc ms (va_A [ob] s.heap.size)) (F0 m pc ls []) := by
  have hlocks := hr.2
  subst he
  exact W.vret hx hb hr.1 (fun t ht hW => ⟨⟨u, rfl, h, ⟨by rw [ht]; exact hw.1, hw.2.1⟩⟩, hw.2.2.1.F ht⟩) hw.2.2.1.2.2 hdg
/-- new X(..) behind 'new': the constructor's call, framed -/
theorem n_callI {S : Type} {post : S → Prop} {lst : S → va_W} {st0 : List Value} {a : Array Value} {ob : Nat × va_E} (hw : CW w (ws ++ [ob]) A H0 H locs) (hr : va_Run p l e R s m args below meth c H locs cells slots mc ms (F0 m pc ls st0) rest (QC w H.size ob post lst a) (va_A [ob] H.size))
    (kk : ∀ (u : S) (H1 : Heap) (locs1 : List Loc), post u → CW w (ws ++ lst u) A H0 H1 locs1 → W p l e R s m args below meth c H1 locs1 (cells + mc) (slots + ms) Q (F0 m (pc + 3) ls rest)) : W p l e R s m args below meth c H locs cells slots Q (F0 m pc ls st0) := by
  have hF : ∀ q, va_A [ob] H.size q → A q := by
    rintro q (⟨k, e9, h⟩ | h)
    · have h0 : k < 1 := (List.getElem?_eq_some_iff.mp h).1
      rw [show k = 0 by omega] at h
      exact hw.2.1.2 ws.length (q, e9) (by rw [List.getElem?_append_right (Nat.le_refl _), Nat.sub_self]; exact h)
    · exact hw.2.2.2 q (Nat.le_trans hw.2.2.1.1 h)
  refine va_callv hr hw.2.2.1 (fun q _ h => hF q h) hF (fun u t H1 locs1 ht hvm hp hB hz hk hS => ?_)
  obtain ⟨hP1, hD1⟩ := hB
  rw [ht] at hP1
  obtain ⟨g1, g2⟩ := n_frame hw.1 hw.2.1 hk hF hP1 hD1
  exact kk u H1 locs1 hp ⟨g1, g2, hS, hw.2.2.2⟩
theorem n_preI {ob : Nat × va_E} (hK : KWo w s) (hw : CW w (ws ++ [ob]) A H0 H locs) (As : List Value) : PreS s H (PcC w H.size ob As) As :=
  ⟨fbC w H.size ob As, fun U hU hW => ⟨rfl, by rw [hU], by rw [hU]; exact fun k q h => hw.1 (ws.length + k) q (by rw [List.getElem?_append_right (by omega), Nat.add_sub_cancel_left]; exact h), ⟨fun i j x y hi hj _ => by
    have h1 : i < 1 := (List.getElem?_eq_some_iff.mp hi).1
    have h2 : j < 1 := (List.getElem?_eq_some_iff.mp hj).1
    omega, fun _ _ _ => trivial⟩, hK.warm hW⟩⟩
end NW2
