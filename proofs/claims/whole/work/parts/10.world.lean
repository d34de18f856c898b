/-! THE WORLD: one list of components (objects and arrays, by number), whose ints stand in G, whose longs in B -/
abbrev GS : Type := Nat → Nat → Int32
abbrev BS : Type := Nat → Nat → Int64
abbrev WE : Type := (Nat → Nat) × (ClassId × ClassId × ClassId) × va_G
abbrev cl (i : Int32) : Nat := i.toNatClampNeg
def wr (G : GS) (c k : Nat) (v : Int32) : GS := fun c' => if c' = c then upd (G c) k v else G c'
def wrL (B : BS) (c k : Nat) (v : Int64) : BS := fun c' => if c' = c then vp_updL (B c) k v else B c'
def cpL (B : BS) (c d sp dp n : Nat) : BS := fun c' => if c' = d then va_cpy (B c) (B d) sp dp n else B c'
theorem wr_at (G : GS) (c k : Nat) (v : Int32) : wr G c k v c = upd (G c) k v := if_pos rfl
theorem wr_ne {G : GS} {c k : Nat} {v : Int32} {c' : Nat} (h : c' ≠ c) : wr G c k v c' = G c' := if_neg h
theorem wr_ss (G : GS) (c k : Nat) (v : Int32) : wr G c k v c k = v := by rw [wr_at]; exact if_pos rfl
theorem wr_sn {G : GS} {c k : Nat} {v : Int32} {k' : Nat} (h : k' ≠ k) : wr G c k v c k' = G c k' := by rw [wr_at]; exact if_neg h
theorem wrL_at (G : BS) (c k : Nat) (v : Int64) : wrL G c k v c = vp_updL (G c) k v := if_pos rfl
theorem wrL_ne {G : BS} {c k : Nat} {v : Int64} {c' : Nat} (h : c' ≠ c) : wrL G c k v c' = G c' := if_neg h
theorem wrL_ss (G : BS) (c k : Nat) (v : Int64) : wrL G c k v c k = v := by rw [wrL_at]; exact if_pos rfl
theorem wrL_sn {G : BS} {c k : Nat} {v : Int64} {k' : Nat} (h : k' ≠ k) : wrL G c k v c k' = G c k' := by rw [wrL_at]; exact if_neg h
theorem cpL_at (G : BS) (c d sp dp n : Nat) : cpL G c d sp dp n d = va_cpy (G c) (G d) sp dp n := if_pos rfl
theorem cpL_ne {G : BS} {c d sp dp n c' : Nat} (h : c' ≠ d) : cpL G c d sp dp n c' = G c' := if_neg h
/-- the lengths of the arrays -/
def ln (c : Nat) : Nat := if c < 20 then (if c = 9 then 98 else if c = 11 ∨ c = 12 then 7 else if c = 13 ∨ c = 14 then 12 else if c = 15 then 6 else if c = 16 ∨ c = 17 then 384 else if c = 18 ∨ c = 19 then 100 else 0) else if c < 26 then 12 else if c < 32 then 6 else if c < 38 then 12 else if c < 45 then 78 else if c = 46 ∨ c = 47 then 72 else if c = 48 then 36 else if c = 49 then 768 else if c = 50 ∨ c = 51 then 100 else if c = 52 then 78 else if c = 53 ∨ c = 54 then 12 else if c = 55 then 6 else 0
/-- the rows of the arrays of arrays: how many, and where they begin -/
def on (c : Nat) : Nat := if c = 10 then 7 else 6
def bas (c : Nat) : Nat := if c = 6 then 20 else if c = 7 then 26 else if c = 8 then 32 else 38
def ob (ad : Nat → Nat) (c : Nat) (f : Nat → Int32) : Nat × List Value :=
  if c = 0 then (5, [.ref (ad 1), .ref (ad 2), .ref (ad 3), .ref (ad 4), .ref (ad 5), .ref (ad 6), .ref (ad 7)])
  else if c = 1 then (4, [.int (f 0), .int (f 1), .int (f 2), .ref (ad 8), .ref (ad 9)])
  else if c = 2 then (2, [.ref (ad 1), .ref (ad 10), .ref (ad 11), .ref (ad 12), .ref (ad 13), .int (f 5), .int (f 6), .int (f 7), .int (f 8), .int (f 9), .int (f 10)])
  else if c = 3 then (1, [.ref (ad 1), .ref (ad 2), .ref (ad 14)])
  else if c = 4 then (0, [.ref (ad 1), .ref (ad 15), .int (f 2), .int (f 3), .int (f 4)])
  else if c = 5 then (3, [.int (f 0), .int (f 1), .int (f 2), .int (f 3), .ref (ad 16), .ref (ad 17), .ref (ad 18), .ref (ad 19)])
  else (6, [.int (f 0), .int (f 1), .int (f 2), .ref (ad 46), .ref (ad 47), .ref (ad 48), .int (f 6), .int (f 7), .int (f 8), .ref (ad 49), .int (f 10), .ref (ad 50), .ref (ad 51), .ref (ad 52), .ref (ad 53), .ref (ad 54), .ref (ad 55)])
def isI (c : Nat) : Prop := ¬ (c < 6 ∨ c = 45) ∧ ¬ (c < 9 ∨ c = 10) ∧ ¬ (c = 16 ∨ c = 17 ∨ c = 49)
def isJ (c : Nat) : Prop := c = 16 ∨ c = 17 ∨ c = 49
def isO (c : Nat) : Prop := c = 6 ∨ c = 7 ∨ c = 8 ∨ c = 10
def isB (c : Nat) : Prop := c < 6 ∨ c = 45
def lay (w : WE) (c : Nat) (f : Nat → Int32) (g : Nat → Int64) : va_E :=
  if c < 6 ∨ c = 45 then .inr (ob w.1 c f)
  else if c < 9 ∨ c = 10 then .inl (w.2.1.2.2, on c, .inr (.inr (.inr (.inr (fun i => if i < on c then some (w.1 (bas c + i)) else none)))))
  else if c = 16 ∨ c = 17 ∨ c = 49 then .inl (w.2.1.2.1, ln c, .inr (.inl g))
  else .inl (w.2.1.1, ln c, .inl f)
theorem lay_I {w : WE} {c : Nat} (h : isI c) (f : Nat → Int32) (g : Nat → Int64) : lay w c f g = .inl (w.2.1.1, ln c, .inl f) := by
  unfold lay; rw [if_neg h.1, if_neg h.2.1, if_neg h.2.2]
theorem lay_J {w : WE} {c : Nat} (h : isJ c) (f : Nat → Int32) (g : Nat → Int64) : lay w c f g = .inl (w.2.1.2.1, ln c, .inr (.inl g)) := by
  unfold isJ at h; unfold lay; rw [if_neg (by omega), if_neg (by omega), if_pos h]
theorem lay_O {w : WE} {c : Nat} (h : isO c) (f : Nat → Int32) (g : Nat → Int64) : lay w c f g = .inl (w.2.1.2.2, on c, .inr (.inr (.inr (.inr (fun i => if i < on c then some (w.1 (bas c + i)) else none))))) := by
  unfold isO at h; unfold lay; rw [if_neg (by omega), if_pos (by omega)]
theorem lay_B {w : WE} {c : Nat} (h : isB c) (f : Nat → Int32) (g : Nat → Int64) : lay w c f g = .inr (ob w.1 c f) := by
  unfold isB at h; unfold lay; rw [if_pos h]
theorem isI_row {c : Nat} (h : 20 ≤ c) (h2 : c < 45) : isI c := by unfold isI; omega
theorem ln_20 {i : Nat} (h : i < 6) : ln (20 + i) = 12 := by unfold ln; rw [if_neg (by omega), if_pos (by omega)]
theorem ln_26 {i : Nat} (h : i < 6) : ln (26 + i) = 6 := by unfold ln; rw [if_neg (by omega), if_neg (by omega), if_pos (by omega)]
theorem ln_32 {i : Nat} (h : i < 6) : ln (32 + i) = 12 := by unfold ln; rw [if_neg (by omega), if_neg (by omega), if_neg (by omega), if_pos (by omega)]
theorem ln_38 {i : Nat} (h : i < 7) : ln (38 + i) = 78 := by unfold ln; rw [if_neg (by omega), if_neg (by omega), if_neg (by omega), if_neg (by omega), if_pos (by omega)]
theorem ln_iv20 {a : Nat} (h : 20 ≤ a ∧ a < 26) : ln a = 12 := by unfold ln; rw [if_neg (by omega), if_pos (by omega)]
theorem ln_iv26 {a : Nat} (h : 26 ≤ a ∧ a < 32) : ln a = 6 := by unfold ln; rw [if_neg (by omega), if_neg (by omega), if_pos (by omega)]
theorem ln_iv32 {a : Nat} (h : 32 ≤ a ∧ a < 38) : ln a = 12 := by unfold ln; rw [if_neg (by omega), if_neg (by omega), if_neg (by omega), if_pos (by omega)]
theorem ln_iv38 {a : Nat} (h : 38 ≤ a ∧ a < 45) : ln a = 78 := by unfold ln; rw [if_neg (by omega), if_neg (by omega), if_neg (by omega), if_neg (by omega), if_pos (by omega)]
theorem vp_lt {i : Int32} {n : Nat} (h : vp_in i n) : cl i < n := Nat.not_le.mp fun q => h (Or.inr q)
theorem vp_iv {b n : Nat} {i : Int32} (h : vp_in i n) : b ≤ b + cl i ∧ b + cl i < b + n := ⟨Nat.le_add_right _ _, Nat.add_lt_add_left (vp_lt h) b⟩
theorem tsw_out3 {x : Int32} (h0 : ¬ x = 0) (h1 : ¬ x = 1) (h2 : ¬ x = 2) (h3 : ¬ x = 3) : x.toInt < 0 ∨ 3 < x.toInt := by
  have a0 := lv_neT h0 (a := 0) rfl
  have a1 := lv_neT h1 (a := 1) rfl
  have a2 := lv_neT h2 (a := 2) rfl
  have a3 := lv_neT h3 (a := 3) rfl
  omega
theorem tsw_out5 {x : Int32} (h0 : ¬ x = 0) (h1 : ¬ x = 1) (h2 : ¬ x = 2) (h3 : ¬ x = 3) (h4 : ¬ x = 4) (h5 : ¬ x = 5) : x.toInt < 0 ∨ 5 < x.toInt := by
  have a0 := lv_neT h0 (a := 0) rfl
  have a1 := lv_neT h1 (a := 1) rfl
  have a2 := lv_neT h2 (a := 2) rfl
  have a3 := lv_neT h3 (a := 3) rfl
  have a4 := lv_neT h4 (a := 4) rfl
  have a5 := lv_neT h5 (a := 5) rfl
  omega
/-- the words on nest mates -/
def nwl : List Cond := [
  .methodLinkNest RX4 34 yX5_clear RX5, .fieldLinkNest RX5 79 RX4 "prime" "I" RX5, .fieldLinkNest RX2 103 RX4 "prime" "I" RX5, .fieldLinkNest RX1 23 RX4 "height" "I" RX5, .fieldLinkNest RX2 48 RX4 "height" "I" RX5, .fieldLinkNest RX0 53 RX4 "height" "I" RX5, .fieldLinkNest RX5 107 RX4 "height" "I" RX5, .fieldLinkNest RX2 34 RX4 "width" "I" RX5, .fieldLinkNest RX0 48 RX4 "width" "I" RX5, .fieldLinkNest RX5 100 RX4 "width" "I" RX5,
  .fieldLinkNest RX5 72 RX4 "cells" "[[I" RX5, .fieldLinkNest RX0 56 RX4 "cells" "[[I" RX5, .fieldLinkNest RX2 110 RX4 "cells" "[[I" RX5, .fieldLinkNest RX1 44 RX2 "answer" "[I" RX5, .fieldLinkNest RX5 118 RX2 "answer" "[I" RX5, .fieldLinkNest RX1 41 RX2 "firstSet" "I" RX5, .fieldLinkNest RX5 129 RX1 "answer" "[I" RX5, .fieldLinkNest RX5 160 RX3 "lines" "I" RX5, .fieldLinkNest RX5 163 RX3 "buckets" "I" RX5, .fieldLinkNest RX5 138 RX3 "puts" "I" RX5,
  .fieldLinkNest RX5 149 RX3 "told" "I" RX5, .fieldLinkNest RX5 168 RX3 "kept" "[J" RX5, .fieldLinkNest RX5 154 RX3 "toldPlaces" "[I" RX5, .fieldLinkNest RX5 157 RX3 "toldNumbers" "[I" RX5, .methodLinkNest RX2 95 yX5_clear RX5, .methodLinkNest RX1 49 yX5_copy RX5, .methodLinkNest RX0 19 yX5_copy RX5, .methodLinkNest RX0 23 yX5_clear RX5, .methodLinkNest RX0 27 yX5_weight RX5]
def nwOk (w : Cond) : Bool := match w with
  | .methodLinkNest _ _ _ _ => true
  | .fieldLinkNest _ _ _ _ _ _ => true
  | _ => false
theorem nwl_ok : nwl.all nwOk = true := by decide +kernel
def NW (U : State) : Prop := ∀ w ∈ nwl, va_Nw w U
theorem nw_warm1 {w : Cond} {s U : State} (hw : nwOk w = true) (hW : s.WarmedH U.vm) (h : va_Nw w s) : va_Nw w U := by
  cases w <;> first | exact va_Nw.warmF hW h | exact va_Nw.warmM hW h | exact absurd (show false = true from hw) Bool.false_ne_true
theorem NW.warm {s U : State} (hW : s.WarmedH U.vm) (h : NW s) : NW U := fun w hw => nw_warm1 (List.all_eq_true.mp nwl_ok w hw) hW (h w hw)
theorem nw_same1 {w : Cond} {s U : State} (hw : nwOk w = true) (hW : s.vm = U.vm) (h : va_Nw w s) : va_Nw w U := by
  cases w <;> first | exact va_Nw.same rfl hW h | exact absurd (show false = true from hw) Bool.false_ne_true
theorem NW.same {s U : State} (hW : s.vm = U.vm) (h : NW s) : NW U := fun w hw => nw_same1 (List.all_eq_true.mp nwl_ok w hw) hW (h w hw)
def wsl (w : WE) (cs : List Nat) (G : GS) (B : BS) : va_W := cs.map (fun c => (w.1 c, lay w c (G c) (B c)))
abbrev tysW (w : WE) : List (ClassId × FieldType) := [(w.2.1.1, .int), (w.2.1.2.1, .long), (w.2.1.2.2, .array .int)]
def KW (w : WE) (U : State) : Prop := va_K w.2.2 vwCl (tysW w) U ∧ NW U
def AA (w : WE) (cs : List Nat) (sz : Nat) : Nat → Prop := fun q => (∃ c, c ∈ cs ∧ w.1 c = q) ∨ sz ≤ q
def WO (w : WE) (cs : List Nat) (A : Nat → Prop) (H0 : Heap) (G : GS) (B : BS) (H : Heap) (locs : List Loc) : Prop :=
  va_P w.2.2 vwCl (wsl w cs G B) H ∧ va_D A (wsl w cs G B) ∧ va_S A H0 H locs ∧ ∀ q, H0.size ≤ q → A q
def PcW (w : WE) (cs : List Nat) (sz : Nat) (G : GS) (B : BS) (av : List Value) : Array Value → State → Prop :=
  va_Pc av (fun U => U.heap.size = sz ∧ va_P w.2.2 vwCl (wsl w cs G B) U.heap ∧ va_D (fun _ => True) (wsl w cs G B) ∧ KW w U)
def atW (w : WE) (cs : List Nat) (A : Nat → Prop) (u : GS × BS) (t : State) : Prop := va_P w.2.2 vwCl (wsl w cs u.1 u.2) t.heap ∧ va_D A (wsl w cs u.1 u.2)
abbrev QI (w : WE) (cs : List Nat) (sz : Nat) (P : Int32 → GS → BS → Prop) := va_Qi (fun r (u : GS × BS) => P r u.1 u.2) (atW w cs (AA w cs sz)) (AA w cs sz)
abbrev QL (w : WE) (cs : List Nat) (sz : Nat) (P : Int64 → GS → BS → Prop) := va_Ql (fun r (u : GS × BS) => P r u.1 u.2) (atW w cs (AA w cs sz)) (AA w cs sz)
abbrev QV (w : WE) (cs : List Nat) (sz : Nat) (P : GS → BS → Prop) := va_Qv (fun (u : GS × BS) => P u.1 u.2) (atW w cs (AA w cs sz)) (AA w cs sz)
abbrev rmW (n : Nat) : Room := { frames := n, cells := 0, slots := 0, locals := 40 * n }
theorem wsl_get {w : WE} {cs : List Nat} {G : GS} {B : BS} {c : Nat} (hc : c ∈ cs) : ∃ k : Nat, cs[k]? = some c ∧ (wsl w cs G B)[k]? = some (w.1 c, lay w c (G c) (B c)) := by
  obtain ⟨k, hk⟩ := List.getElem?_of_mem hc
  exact ⟨k, hk, by unfold wsl; rw [List.getElem?_map, hk]; rfl⟩
theorem wsl_set {w : WE} {cs : List Nat} {G G' : GS} {B B' : BS} {A : Nat → Prop} {c k : Nat} (hD : va_D A (wsl w cs G B)) (hk : cs[k]? = some c) (hG : ∀ c', c' ≠ c → G' c' = G c') (hB : ∀ c', c' ≠ c → B' c' = B c') : (wsl w cs G B).set k (w.1 c, lay w c (G' c) (B' c)) = wsl w cs G' B' := by
  have hl := (List.getElem?_eq_some_iff.mp hk).1
  have hat : ∀ (j c' : Nat), cs[j]? = some c' → (wsl w cs G B)[j]? = some (w.1 c', lay w c' (G c') (B c')) := fun j c' h => by unfold wsl; rw [List.getElem?_map, h]; rfl
  apply List.ext_getElem?
  intro j
  by_cases hj : j = k
  · subst hj
    rw [List.getElem?_set_self (by unfold wsl; rw [List.length_map]; exact hl)]
    unfold wsl
    rw [List.getElem?_map, hk]
    rfl
  · rw [List.getElem?_set_ne (Ne.symm hj)]
    cases hc : cs[j]? with
    | none => unfold wsl; rw [List.getElem?_map, List.getElem?_map, hc]; rfl
    | some c' =>
      have hne : c' ≠ c := fun e => by
        subst e
        exact hj (hD.1 j k _ _ (hat j c' hc) (hat k c' hk) rfl)
      unfold wsl
      rw [List.getElem?_map, List.getElem?_map, hc]
      simp only [Option.map_some]
      rw [hG c' hne, hB c' hne]
theorem KW.warm {w : WE} {s U : State} (hW : s.WarmedH U.vm) (h : KW w s) : KW w U := ⟨va_K.moved hW.alike h.1, h.2.warm hW⟩
theorem fbW (w : WE) (cs : List Nat) (sz : Nat) (G : GS) (B : BS) (av : List Value) : FrameBlind (PcW w cs sz G B av) := by
  intro a U g mk q
  obtain ⟨q0, q1, q2, q3, q4, q5⟩ := q
  exact ⟨q0, q1, q2, q3, va_K.moved (u := U) (U := U.calling g mk a) (Vm.Alike.refl U.vm) q4, NW.same (s := U) (U := U.calling g mk a) rfl q5⟩
section QW
variable {p : Program} {l : Launch} {e : Env} {R : Room} {s : State} {m : MethodId} {args : Array Value} {below : List Frame} {meth : Method} {c : Code} {H : Heap} {locs : List Loc} {cells slots : Nat} {Q : State → Prop}
variable {cc : ByteArray} {pc : Nat} {ls : Array Slot} {rest : List Value} {w : WE} {cs : List Nat} {A : Nat → Prop} {H0 : Heap} {G : GS} {B : BS}
theorem WO.free (hw : WO w cs A H0 G B H locs) : ∀ q, AA w cs H.size q → A q := by
  intro q h
  rcases h with ⟨c, h1, rfl⟩ | h
  · obtain ⟨k, -, hk⟩ := wsl_get (w := w) (G := G) (B := B) h1
    exact hw.2.1.2 k _ hk
  · exact hw.2.2.2 q (Nat.le_trans hw.2.2.1.1 h)
/-- getfield -/
theorem q_get (hx : p.tables.exec = Jvm.exec) (hb : c.code = cc) {own ref C : String} {T : u_T} {N ci index : Nat} {Ts : List Cond} (hts : ∀ w ∈ Ts, w.before args s = true) (hin : ∀ w ∈ u_ws C T N, w ∈ Ts) (hown : s.vm.findClass own = some m.cls) (hK : KW w s) (hw : WO w cs A H0 G B H locs) (a : Nat) (ha : a ∈ cs) (hB : isB a) {fs : List Value} (ho : ob w.1 a (G a) = (ci, fs)) (hc : vwCl[ci]? = some (C, T, N)) (k : Nat) (hk : k < N) (hlink : (Cond.fieldLink own index ref (T k).2.1 (T k).2.2.1).before args s = true) (hsame : (T k).1 = ref) {v : Value} (hv : fs[k]? = some v) (hdg : decode cc pc = .ok (.getfield index, 3))
    (kk : W p l e R s m args below meth c H locs cells slots Q (F0 m (pc + 3) ls (v :: rest))) : W p l e R s m args below meth c H locs cells slots Q (F0 m pc ls (.ref (w.1 a) :: rest)) := by
  obtain ⟨q0, -, h2⟩ := wsl_get (w := w) (G := G) (B := B) ha
  rw [lay_B hB, ho] at h2
  exact va_get hx hb hts hin hown hK.1 hw.1 q0 h2 hc k hk hlink (fun x h => by rw [← hsame]; exact h) hv hdg kk
theorem q_getN (hx : p.tables.exec = Jvm.exec) (hb : c.code = cc) {own ref C host : String} {T : u_T} {N ci index : Nat} {Ts : List Cond} (hts : ∀ w ∈ Ts, w.before args s = true) (hin : ∀ w ∈ u_ws C T N, w ∈ Ts) (hown : s.vm.findClass own = some m.cls) (hK : KW w s) (hw : WO w cs A H0 G B H locs) (a : Nat) (ha : a ∈ cs) (hB : isB a) {fs : List Value} (ho : ob w.1 a (G a) = (ci, fs)) (hc : vwCl[ci]? = some (C, T, N)) (k : Nat) (hk : k < N) (hlink : (Cond.fieldLinkNest own index ref (T k).2.1 (T k).2.2.1 host) ∈ nwl) (hsame : (T k).1 = ref) {v : Value} (hv : fs[k]? = some v) (hdg : decode cc pc = .ok (.getfield index, 3))
    (kk : W p l e R s m args below meth c H locs cells slots Q (F0 m (pc + 3) ls (v :: rest))) : W p l e R s m args below meth c H locs cells slots Q (F0 m pc ls (.ref (w.1 a) :: rest)) := by
  obtain ⟨q0, -, h2⟩ := wsl_get (w := w) (G := G) (B := B) ha
  rw [lay_B hB, ho] at h2
  exact va_getN hx hb hts hin hown hK.1 hw.1 q0 h2 hc k hk (va_Nw.use rfl (hK.2 _ hlink)) (fun x h => by rw [← hsame]; exact h) hv hdg kk
/-- putfield of an int -/
theorem q_put (hx : p.tables.exec = Jvm.exec) (hb : c.code = cc) {own ref C : String} {T : u_T} {N ci index : Nat} {Ts : List Cond} (hts : ∀ w ∈ Ts, w.before args s = true) (hin : ∀ w ∈ u_ws C T N, w ∈ Ts) (ty0 : Nat → FieldType) (hty : ∀ k, k < N → parseFieldDescriptor (T k).2.2.1 = some (ty0 k)) (hnm : ∀ a, a < N → ∀ b, b < N → a ≠ b → (T a).2.1 ≠ (T b).2.1) (hown : s.vm.findClass own = some m.cls) (hK : KW w s) (hw : WO w cs A H0 G B H locs) (a : Nat) (ha : a ∈ cs) (hB : isB a) {fs : List Value} (ho : ob w.1 a (G a) = (ci, fs)) (hc : vwCl[ci]? = some (C, T, N)) (k : Nat) (hk : k < N) (hlink : (Cond.fieldLink own index ref (T k).2.1 (T k).2.2.1).before args s = true) (hsame : (T k).1 = ref) (hfin : (T k).2.2.2 = false) {x : Int32} (hd : parseFieldDescriptor (T k).2.2.1 = some .int) (hl : k < fs.length) (ho2 : ob w.1 a (upd (G a) k x) = (ci, fs.set k (.int x))) (hdg : decode cc pc = .ok (.putfield index, 3))
    (kk : ∀ (H1 : Heap) (locs1 : List Loc) (G1 : GS), G1 = wr G a k x → WO w cs A H0 G1 B H1 locs1 → W p l e R s m args below meth c H1 locs1 cells slots Q (F0 m (pc + 3) ls rest)) : W p l e R s m args below meth c H locs cells slots Q (F0 m pc ls (.int x :: .ref (w.1 a) :: rest)) := by
  obtain ⟨q0, h1, h2⟩ := wsl_get (w := w) (G := G) (B := B) ha
  rw [lay_B hB, ho] at h2
  have hset : (wsl w cs G B).set q0 (w.1 a, .inr (ci, fs.set k (.int x))) = wsl w cs (wr G a k x) B := by
    rw [← wsl_set (G' := wr G a k x) (B' := B) hw.2.1 h1 (fun c' h => wr_ne h) (fun _ _ => rfl), lay_B hB, wr_at, ho2]
  refine va_put (v := .int x) (ty := .int) hx hb hts hin ty0 hty hnm hown hK.1 hw.1 hw.2.1 hw.2.2.1 q0 h2 hc k hk hlink (fun x h => by rw [← hsame]; exact h) hfin hd rfl rfl hl hdg (fun H1 locs1 hP hD hS => ?_)
  rw [hset] at hP hD
  exact kk H1 locs1 _ rfl ⟨hP, hD, hS, hw.2.2.2⟩
theorem q_iald (hx : p.tables.exec = Jvm.exec) (hb : c.code = cc) (hK : KW w s) (hw : WO w cs A H0 G B H locs) {a : Nat} (ha : a ∈ cs) (hI : isI a) {i : Int32} {n : Nat} (hn : ln a = n) (hin : vp_in i n) (hdg : decode cc pc = .ok (.iaload, 1))
    (kk : W p l e R s m args below meth c H locs cells slots Q (F0 m (pc + 1) ls (.int (G a (cl i)) :: rest))) : W p l e R s m args below meth c H locs cells slots Q (F0 m pc ls (.int i :: .ref (w.1 a) :: rest)) := by
  subst hn
  obtain ⟨q0, -, h2⟩ := wsl_get (w := w) (G := G) (B := B) ha
  rw [lay_I hI] at h2
  exact va_iald hx hb hK.1 hw.1 q0 0 h2 rfl hin hdg kk
theorem q_lald (hx : p.tables.exec = Jvm.exec) (hb : c.code = cc) (hK : KW w s) (hw : WO w cs A H0 G B H locs) {a : Nat} (ha : a ∈ cs) (hI : isJ a) {i : Int32} {n : Nat} (hn : ln a = n) (hin : vp_in i n) (hdg : decode cc pc = .ok (.laload, 1))
    (kk : W p l e R s m args below meth c H locs cells slots Q (F0 m (pc + 1) ls (.long (B a (cl i)) :: rest))) : W p l e R s m args below meth c H locs cells slots Q (F0 m pc ls (.int i :: .ref (w.1 a) :: rest)) := by
  subst hn
  obtain ⟨q0, -, h2⟩ := wsl_get (w := w) (G := G) (B := B) ha
  rw [lay_J hI] at h2
  exact va_lald hx hb hK.1 hw.1 q0 1 h2 rfl hin hdg kk
theorem q_iast (hx : p.tables.exec = Jvm.exec) (hb : c.code = cc) (hK : KW w s) (hw : WO w cs A H0 G B H locs) {a : Nat} (ha : a ∈ cs) (hI : isI a) {i x : Int32} {n : Nat} (hn : ln a = n) (hin : vp_in i n) (hdg : decode cc pc = .ok (.iastore, 1))
    (kk : ∀ (H1 : Heap) (locs1 : List Loc) (G1 : GS), G1 = wr G a (cl i) x → WO w cs A H0 G1 B H1 locs1 → W p l e R s m args below meth c H1 locs1 cells slots Q (F0 m (pc + 1) ls rest)) : W p l e R s m args below meth c H locs cells slots Q (F0 m pc ls (.int x :: .int i :: .ref (w.1 a) :: rest)) := by
  subst hn
  obtain ⟨q0, h1, h2⟩ := wsl_get (w := w) (G := G) (B := B) ha
  rw [lay_I hI] at h2
  have hset : (wsl w cs G B).set q0 (w.1 a, .inl (w.2.1.1, ln a, .inl (upd (G a) (cl i) x))) = wsl w cs (wr G a (cl i) x) B := by
    rw [← wsl_set (G' := wr G a (cl i) x) (B' := B) hw.2.1 h1 (fun c' h => wr_ne h) (fun _ _ => rfl), lay_I hI, wr_at]
  refine va_iast hx hb hK.1 hw.1 hw.2.1 hw.2.2.1 q0 0 h2 rfl hin hdg (fun H1 locs1 hP hD hS => ?_)
  rw [hset] at hP hD
  exact kk H1 locs1 _ rfl ⟨hP, hD, hS, hw.2.2.2⟩
theorem q_last (hx : p.tables.exec = Jvm.exec) (hb : c.code = cc) (hK : KW w s) (hw : WO w cs A H0 G B H locs) {a : Nat} (ha : a ∈ cs) (hI : isJ a) {i : Int32} {x : Int64} {n : Nat} (hn : ln a = n) (hin : vp_in i n) (hdg : decode cc pc = .ok (.lastore, 1))
    (kk : ∀ (H1 : Heap) (locs1 : List Loc) (B1 : BS), B1 = wrL B a (cl i) x → WO w cs A H0 G B1 H1 locs1 → W p l e R s m args below meth c H1 locs1 cells slots Q (F0 m (pc + 1) ls rest)) : W p l e R s m args below meth c H locs cells slots Q (F0 m pc ls (.long x :: .int i :: .ref (w.1 a) :: rest)) := by
  subst hn
  obtain ⟨q0, h1, h2⟩ := wsl_get (w := w) (G := G) (B := B) ha
  rw [lay_J hI] at h2
  have hset : (wsl w cs G B).set q0 (w.1 a, .inl (w.2.1.2.1, ln a, .inr (.inl (vp_updL (B a) (cl i) x)))) = wsl w cs G (wrL B a (cl i) x) := by
    rw [← wsl_set (G' := G) (B' := wrL B a (cl i) x) hw.2.1 h1 (fun _ _ => rfl) (fun c' h => wrL_ne h), lay_J hI, wrL_at]
  refine va_last hx hb hK.1 hw.1 hw.2.1 hw.2.2.1 q0 1 h2 rfl hin hdg (fun H1 locs1 hP hD hS => ?_)
  rw [hset] at hP hD
  exact kk H1 locs1 _ rfl ⟨hP, hD, hS, hw.2.2.2⟩
theorem q_aald (hx : p.tables.exec = Jvm.exec) (hb : c.code = cc) (hK : KW w s) (hw : WO w cs A H0 G B H locs) {a : Nat} (ha : a ∈ cs) (hO : isO a) {b n : Nat} (hbs : bas a = b) (hon : on a = n) {i : Int32} (hin : vp_in i n) (hdg : decode cc pc = .ok (.aaload, 1))
    (kk : W p l e R s m args below meth c H locs cells slots Q (F0 m (pc + 1) ls (.ref (w.1 (b + cl i)) :: rest))) : W p l e R s m args below meth c H locs cells slots Q (F0 m pc ls (.int i :: .ref (w.1 a) :: rest)) := by
  subst hbs
  subst hon
  obtain ⟨q0, -, h2⟩ := wsl_get (w := w) (G := G) (B := B) ha
  rw [lay_O hO] at h2
  have hlt : i.toNatClampNeg < on a := Nat.not_le.mp fun q => hin (Or.inr q)
  exact W.aald (v := .ref (w.1 (bas a + cl i))) (ty := .array .int) hx hb (hw.1 q0 _ h2) ((hK.1.2 2 _ rfl).1 (on a) (fun j => va_rf (if j < on a then some (w.1 (bas a + j)) else none))) rfl (fun q => by cases q) (by show ¬ (i < 0 ∨ (arrV _ _ _).slots.size ≤ _); rw [arrV_size]; exact hin) (by show (arrV _ _ _).slots[_]? = _; rw [arrV_read _ _ hlt]; dsimp only; rw [if_pos hlt]; rfl) rfl rfl hdg kk
theorem q_alenI (hx : p.tables.exec = Jvm.exec) (hb : c.code = cc) (hK : KW w s) (hw : WO w cs A H0 G B H locs) {a : Nat} (ha : a ∈ cs) (hI : isI a) {n : Nat} (hn : ln a = n) (hdg : decode cc pc = .ok (.arraylength, 1))
    (kk : W p l e R s m args below meth c H locs cells slots Q (F0 m (pc + 1) ls (.int (nI n) :: rest))) : W p l e R s m args below meth c H locs cells slots Q (F0 m pc ls (.ref (w.1 a) :: rest)) := by
  subst hn
  obtain ⟨q0, -, h2⟩ := wsl_get (w := w) (G := G) (B := B) ha
  rw [lay_I hI] at h2
  exact va_alen hx hb hK.1 hw.1 q0 0 h2 (ty := .int) rfl rfl hdg kk
theorem q_alenJ (hx : p.tables.exec = Jvm.exec) (hb : c.code = cc) (hK : KW w s) (hw : WO w cs A H0 G B H locs) {a : Nat} (ha : a ∈ cs) (hI : isJ a) {n : Nat} (hn : ln a = n) (hdg : decode cc pc = .ok (.arraylength, 1))
    (kk : W p l e R s m args below meth c H locs cells slots Q (F0 m (pc + 1) ls (.int (nI n) :: rest))) : W p l e R s m args below meth c H locs cells slots Q (F0 m pc ls (.ref (w.1 a) :: rest)) := by
  subst hn
  obtain ⟨q0, -, h2⟩ := wsl_get (w := w) (G := G) (B := B) ha
  rw [lay_J hI] at h2
  exact va_alen hx hb hK.1 hw.1 q0 1 h2 (ty := .long) rfl rfl hdg kk
theorem q_copyl (hx : p.tables.exec = Jvm.exec) (hb : c.code = cc) (hml : c.maxLocals = ls.size) {own : String} {index : Nat} (hown : s.vm.findClass own = some m.cls) (hlink : (Cond.methodLink own index arraycopyName).before args s = true) (hnat : (Cond.native arraycopyName).before args s = true) (hstat : (Cond.static arraycopyName).before args s = true) (hini : (Cond.initialized "java/lang/System").before args s = true) (hK : KW w s) (hw : WO w cs A H0 G B H locs) {a d : Nat} (ha : a ∈ cs) (hd : d ∈ cs) (haJ : isJ a) (hdJ : isJ d) {sp dp n : Int32} (had : a ≠ d) (h1 : ¬ sp < 0) (h2 : ¬ dp < 0) (h3 : ¬ n < 0) (h4 : sp.toNatClampNeg + n.toNatClampNeg ≤ ln a) (h5 : dp.toNatClampNeg + n.toNatClampNeg ≤ ln d) (hframes : 1 ≤ R.frames) (hlocals : (rest.map fun v => v.category).sum + (nativeFrameWords "java/lang/System" "arraycopy" 5 + 11) ≤ R.locals) (hdg : decode cc pc = .ok (.invokestatic index, 3))
    (kk : ∀ (H1 : Heap) (locs1 : List Loc) (B1 : BS), B1 = cpL B a d (cl sp) (cl dp) (cl n) → WO w cs A H0 G B1 H1 locs1 → W p l e R s m args below meth c H1 locs1 cells slots Q (F0 m (pc + 3) ls rest)) : W p l e R s m args below meth c H locs cells slots Q (F0 m pc ls (.int n :: .int dp :: .ref (w.1 d) :: .int sp :: .ref (w.1 a) :: rest)) := by
  obtain ⟨q0, -, g0⟩ := wsl_get (w := w) (G := G) (B := B) ha
  obtain ⟨q1, k1, g1⟩ := wsl_get (w := w) (G := G) (B := B) hd
  rw [lay_J haJ] at g0
  rw [lay_J hdJ] at g1
  have hset : (wsl w cs G B).set q1 (w.1 d, .inl (w.2.1.2.1, ln d, .inr (.inl (va_cpy (B a) (B d) (cl sp) (cl dp) (cl n))))) = wsl w cs G (cpL B a d (cl sp) (cl dp) (cl n)) := by
    rw [← wsl_set (G' := G) (B' := cpL B a d (cl sp) (cl dp) (cl n)) hw.2.1 k1 (fun _ _ => rfl) (fun c' h => cpL_ne h), lay_J hdJ, cpL_at]
  refine va_copyl (ty := .long) hx hb hml hown hlink hnat hstat hini hK.1 hw.1 hw.2.1 hw.2.2.1 q0 q1 1 1 g0 g1 rfl rfl rfl h1 h2 h3 h4 h5 (fun _ _ => rfl) hframes hlocals hdg (fun H1 locs1 hP hD hS => ?_)
  rw [hset] at hP hD
  exact kk H1 locs1 _ rfl ⟨hP, hD, hS, hw.2.2.2⟩
/-- the ends of a method -/
theorem q_reti {P : Int32 → GS → BS → Prop} {v : Int32} (hx : p.tables.exec = Jvm.exec) (hb : c.code = cc) (hr : meth.sig.returnType = some .int ∧ meth.locks = false) (hw : WO w cs (AA w cs s.heap.size) s.heap G B H locs) (h : P v G B) (hdg : decode cc pc = .ok (.ireturn, 1)) : W p l e R s m args below meth c H locs 0 0 (MQ below (QI w cs s.heap.size P) args s 0 0 (AA w cs s.heap.size)) (F0 m pc ls [.int v]) := by
  have hlocks := hr.2
  exact W.iret hx hb hr.1 (fun t ht hW => ⟨⟨v, (G, B), rfl, h, ⟨by rw [ht]; exact hw.1, hw.2.1⟩⟩, hw.2.2.1.F ht⟩) hw.2.2.1.2.2 hdg
def vb (v : Int32) : Prop := v = 0 ∨ v = 1
theorem q_retz {P : Int32 → GS → BS → Prop} {v : Int32} (hx : p.tables.exec = Jvm.exec) (hb : c.code = cc) (hr : meth.sig.returnType = some .boolean ∧ meth.locks = false) (hw : WO w cs (AA w cs s.heap.size) s.heap G B H locs) (hv : vb v) (h : P v G B) (hdg : decode cc pc = .ok (.ireturn, 1)) : W p l e R s m args below meth c H locs 0 0 (MQ below (QI w cs s.heap.size P) args s 0 0 (AA w cs s.heap.size)) (F0 m pc ls [.int v]) := by
  have hlocks := hr.2
  exact W.zret hx hb hr.1 (by rcases hv with rfl | rfl <;> rfl) (fun t ht hW => ⟨⟨v, (G, B), rfl, h, ⟨by rw [ht]; exact hw.1, hw.2.1⟩⟩, hw.2.2.1.F ht⟩) hw.2.2.1.2.2 hdg
theorem q_retl {P : Int64 → GS → BS → Prop} {v : Int64} (hx : p.tables.exec = Jvm.exec) (hb : c.code = cc) (hr : meth.sig.returnType = some .long ∧ meth.locks = false) (hw : WO w cs (AA w cs s.heap.size) s.heap G B H locs) (h : P v G B) (hdg : decode cc pc = .ok (.lreturn, 1)) : W p l e R s m args below meth c H locs 0 0 (MQ below (QL w cs s.heap.size P) args s 0 0 (AA w cs s.heap.size)) (F0 m pc ls [.long v]) := by
  have hlocks := hr.2
  exact W.lret hx hb hr.1 (fun t ht hW => ⟨⟨v, (G, B), rfl, h, ⟨by rw [ht]; exact hw.1, hw.2.1⟩⟩, hw.2.2.1.F ht⟩) hw.2.2.1.2.2 hdg
theorem q_retv {P : GS → BS → Prop} (hx : p.tables.exec = Jvm.exec) (hb : c.code = cc) (hr : meth.sig.returnType = none ∧ meth.locks = false) (hw : WO w cs (AA w cs s.heap.size) s.heap G B H locs) (h : P G B) (hdg : decode cc pc = .ok (.return_, 1)) : W p l e R s m args below meth c H locs 0 0 (MQ below (QV w cs s.heap.size P) args s 0 0 (AA w cs s.heap.size)) (F0 m pc ls []) := by
  have hlocks := hr.2
  exact W.vret hx hb hr.1 (fun t ht hW => ⟨⟨(G, B), rfl, h, ⟨by rw [ht]; exact hw.1, hw.2.1⟩⟩, hw.2.2.1.F ht⟩) hw.2.2.1.2.2 hdg
/-- calls: the whole world goes through -/
theorem preS (hK : KW w s) (hw : WO w cs A H0 G B H locs) (As : List Value) : PreS s H (PcW w cs H.size G B As) As :=
  ⟨fbW w cs H.size G B As, fun U hU hW => ⟨rfl, by rw [hU], by rw [hU]; exact hw.1, hw.2.1.weaken (fun _ _ _ _ => trivial), hK.warm hW⟩⟩
theorem preV (hK : KW w s) (hw : WO w cs A H0 G B H locs) (a : Nat) (ha : a ∈ cs) (hB : isB a) {ci : Nat} {fs : List Value} {q : vw_C} (ho : ob w.1 a (G a) = (ci, fs)) (hc : vwCl[ci]? = some q) (As : List Value) : PreV s H q.1 (w.1 a) (PcW w cs H.size G B (.ref (w.1 a) :: As)) As := by
  obtain ⟨q0, -, h2⟩ := wsl_get (w := w) (G := G) (B := B) ha
  rw [lay_B hB, ho] at h2
  exact ⟨fbW w cs H.size G B _, va_recv hK.1 hw.1 hc h2, fun U hU hW => ⟨rfl, by rw [hU], by rw [hU]; exact hw.1, hw.2.1.weaken (fun _ _ _ _ => trivial), hK.warm hW⟩⟩
theorem q_calli {P : Int32 → GS → BS → Prop} {st0 : List Value} {a : Array Value} (hw : WO w cs A H0 G B H locs) (hr : va_Run p l e R s m args below meth c H locs cells slots 0 0 (F0 m pc ls st0) rest (QI w cs H.size P a) (AA w cs H.size))
    (kk : ∀ (r : Int32) (G1 : GS) (B1 : BS) (H1 : Heap) (locs1 : List Loc), P r G1 B1 → WO w cs A H0 G1 B1 H1 locs1 → W p l e R s m args below meth c H1 locs1 cells slots Q (F0 m (pc + 3) ls (.int r :: rest))) : W p l e R s m args below meth c H locs cells slots Q (F0 m pc ls st0) := by
  refine va_calli hr hw.2.2.1 (fun q _ h => hw.free q h) hw.free (fun r u t H1 locs1 ht hvm hp hB hz hk hS => ?_)
  refine kk r u.1 u.2 H1 locs1 hp ⟨by rw [← ht]; exact hB.1, ?_, hS, hw.2.2.2⟩
  exact hB.2.weaken (fun k q _ h => hw.free q.1 h)
theorem q_calll {P : Int64 → GS → BS → Prop} {st0 : List Value} {a : Array Value} (hw : WO w cs A H0 G B H locs) (hr : va_Run p l e R s m args below meth c H locs cells slots 0 0 (F0 m pc ls st0) rest (QL w cs H.size P a) (AA w cs H.size))
    (kk : ∀ (r : Int64) (G1 : GS) (B1 : BS) (H1 : Heap) (locs1 : List Loc), P r G1 B1 → WO w cs A H0 G1 B1 H1 locs1 → W p l e R s m args below meth c H1 locs1 cells slots Q (F0 m (pc + 3) ls (.long r :: rest))) : W p l e R s m args below meth c H locs cells slots Q (F0 m pc ls st0) := by
  refine va_calll hr hw.2.2.1 (fun q _ h => hw.free q h) hw.free (fun r u t H1 locs1 ht hvm hp hB hz hk hS => ?_)
  refine kk r u.1 u.2 H1 locs1 hp ⟨by rw [← ht]; exact hB.1, ?_, hS, hw.2.2.2⟩
  exact hB.2.weaken (fun k q _ h => hw.free q.1 h)
theorem q_callv {P : GS → BS → Prop} {st0 : List Value} {a : Array Value} (hw : WO w cs A H0 G B H locs) (hr : va_Run p l e R s m args below meth c H locs cells slots 0 0 (F0 m pc ls st0) rest (QV w cs H.size P a) (AA w cs H.size))
    (kk : ∀ (G1 : GS) (B1 : BS) (H1 : Heap) (locs1 : List Loc), P G1 B1 → WO w cs A H0 G1 B1 H1 locs1 → W p l e R s m args below meth c H1 locs1 cells slots Q (F0 m (pc + 3) ls rest)) : W p l e R s m args below meth c H locs cells slots Q (F0 m pc ls st0) := by
  refine va_callv hr hw.2.2.1 (fun q _ h => hw.free q h) hw.free (fun u t H1 locs1 ht hvm hp hB hz hk hS => ?_)
  refine kk u.1 u.2 H1 locs1 hp ⟨by rw [← ht]; exact hB.1, ?_, hS, hw.2.2.2⟩
  exact hB.2.weaken (fun k q _ h => hw.free q.1 h)
end QW
/-- a contract out of a walk, for a method that no native row replaces -/
theorem metOfW {l : Launch} {y : MethodName} {ws ws' : List Cond} {rm : Room} {Pc : Array Value → State → Prop} {Qc : Array Value → State → Outcome → State → Prop} {mc ms : Nat} {free : Addr → Prop} {cc : ByteArray} {maxL : Nat} {ret : Option FieldType} (hy : plainFor y = true) (hw : ws = Cond.code y cc maxL ret :: ws')
    (body : ∀ p e s m args below meth c s₁, BodyLoose p l y (headSpec ws rm) cc maxL ret e s m args below meth c s₁ → c.maxLocals = maxL → Pc args s → W p l e (headSpec ws rm).room s m args below meth c s.heap [] 0 0 (MQ below Qc args s mc ms free) (entryFrame m args maxL)) : Met l y ws rm Pc Qc mc ms free := by
  refine MetFree.of_bodySF (code := cc) (maxLocals := maxL) (ret := ret) hy ?_ ?_
  · intro args s m h hn
    obtain ⟨meth, c, h1, h2, h3, h4, h5, h6, -, -⟩ := Cond.code_spec hn (atoms_spec (ws := ws) h _ (by rw [hw]; exact List.mem_cons_self))
    exact ⟨meth, c, h1, h2, h3, h4, h5, h6⟩
  · intro p e s m args below meth c s₁ K hml hP _
    have hh0 : s₁.heap = s.heap := by rw [K.state]; rfl
    obtain ⟨t, a1, o, b1, b2, b3⟩ := body p e s m args below meth c s₁ K hml hP s₁ hh0 (Stand.of_body K)
    exact ⟨t, o, a1, b1, b2, ⟨b3.1, b3.2⟩⟩
/-- a method's contract out of the walk of its body -/
theorem metW {l : Launch} {y : MethodName} {ws ws' : List Cond} {rm : Room} {cc : ByteArray} {maxL : Nat} {ret : Option FieldType} {own : String} {w : WE} {cs : List Nat} {G : GS} {B : BS} {sz : Nat} (av : List Value) {Qc : Array Value → State → Outcome → State → Prop} (hy : plainFor y = true) (hw : ws = Cond.code y cc maxL ret :: ws') (ho : y.cls = own) (hav : (lg_sl av).length ≤ maxL)
    (body : ∀ (p : Program) (e : Env) (s : State) (m : MethodId) (below : List Frame) (meth : Method) (c : Code) (ls : Array Slot), s.heap.size = sz → CallFix p m c cc maxL s av.toArray ws own → meth.sig.returnType = ret ∧ meth.locks = false → KW w s → WO w cs (AA w cs s.heap.size) s.heap G B s.heap [] → lv_has ls maxL (lv_args 0 av) →
      W p l e rm s m av.toArray below meth c s.heap [] 0 0 (MQ below Qc av.toArray s 0 0 (AA w cs sz)) (F0 m 0 ls [])) : Met l y ws rm (PcW w cs sz G B av) Qc 0 0 (AA w cs sz) := by
  refine metOfW (cc := cc) (maxL := maxL) (ret := ret) hy hw ?_
  intro p e s m args below meth c s₁ K hml hv
  obtain ⟨rfl, hsz, hP, hD, hKW⟩ := hv
  have hl := lv_entry av (n := maxL) hav
  rw [lg_entry_eq]
  generalize (lg_sl av ++ List.replicate (maxL - (lg_sl av).length) Slot.unset).toArray = ls at hl ⊢
  have hown : s.vm.findClass y.cls = some m.cls := findClass_of_methodNamed K.named
  rw [ho] at hown
  refine body p e s m below meth c ls hsz ⟨K.exec, K.bytes, hml, hown, atoms_spec (ws := ws) K.pre⟩ ⟨K.returns, K.notSynchronized⟩ hKW ⟨hP, ⟨hD.1, fun k q hk => ?_⟩, va_S.rf, fun q h => Or.inr h⟩ hl
  have hm := List.mem_of_getElem? hk
  unfold wsl at hm
  obtain ⟨c9, h1, rfl⟩ := List.mem_map.mp hm
  exact Or.inl ⟨c9, h1, rfl⟩
