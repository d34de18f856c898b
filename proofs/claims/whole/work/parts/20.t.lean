def wlX2_firstPlace_2 (K32 : Int32 → Prop) (v1 : Int32) (v2 : Int32) (G : GS) : Nat → Int32 → Prop
  | 0, _ => False
  | n2 + 1, v3 => (((G 2 5) ≤ v3 → K32 v3) ∧ (¬ (G 2 5) ≤ v3 → (vp_in v1 7 ∧ (vp_in ((v2 * (6 : Int32)) + v3) 78 ∧ ((¬ (G (38 + cl v1) (cl ((v2 * (6 : Int32)) + v3))) = 0 → K32 v3) ∧ ((G (38 + cl v1) (cl ((v2 * (6 : Int32)) + v3))) = 0 → wlX2_firstPlace_2 K32 v1 v2 G n2 (v3 + (1 : Int32))))))))
def wX2_firstPlace (v1 : Int32) (v2 : Int32) (G : GS) (P : Int32 → Prop) : Prop := (∃ z2 : Nat, wlX2_firstPlace_2 (fun x3_32 => P x3_32) v1 v2 G z2 (0 : Int32))
def wX2_isNought (v1 : Int32) (v2 : Int32) (G : GS) (P : Int32 → Prop) : Prop := (wX2_firstPlace v1 v2 G (fun r3 => ((¬ r3 = (G 2 5) → P (0 : Int32)) ∧ (r3 = (G 2 5) → P (1 : Int32)))))
def wlX2_loadColumns_28 (K72 : GS → Prop) (v1 : Int32) (v2 : Int32) : Nat → Int32 → GS → Prop
  | 0, _, _ => False
  | n28 + 1, v3, G => (((G 1 2) ≤ v3 → K72 G) ∧ (¬ (G 1 2) ≤ v3 → (vp_in (0 : Int32) 7 ∧ (vp_in v2 6 ∧ (vp_in v3 12 ∧ (vp_in ((v3 * (6 : Int32)) + (G 2 5)) 78 ∧ wlX2_loadColumns_28 K72 v1 v2 n28 (v3 + (1 : Int32)) (wr G (38 + cl (0 : Int32)) (cl ((v3 * (6 : Int32)) + (G 2 5))) (G (32 + cl v2) (cl v3)))))))))
def wlX2_loadColumns_7 (K88 : GS → Prop) (v1 : Int32) : Nat → Int32 → GS → Prop
  | 0, _, _ => False
  | n7 + 1, v2, G => (((G 1 1) ≤ v2 → K88 G) ∧ (¬ (G 1 1) ≤ v2 → ((¬ ((v1 >>> (v2 &&& (31 : Int32))) &&& (1 : Int32)) = 0 → wlX2_loadColumns_7 K88 v1 n7 (v2 + (1 : Int32)) G) ∧ (((v1 >>> (v2 &&& (31 : Int32))) &&& (1 : Int32)) = 0 → (∃ z28 : Nat, wlX2_loadColumns_28 (fun G_72 => wlX2_loadColumns_7 K88 v1 n7 (v2 + (1 : Int32)) (wr G_72 2 5 ((G_72 2 5) + (1 : Int32)))) v1 v2 z28 (0 : Int32) G)))))
def wX2_loadColumns (v1 : Int32) (G : GS) (P : GS → Prop) : Prop := (∃ z7 : Nat, wlX2_loadColumns_7 (fun G_88 => P G_88) v1 z7 (0 : Int32) (wr G 2 5 (0 : Int32)))
theorem kX2_firstPlace_0 : ∀ w ∈ wsX20, w ∈ wsX2_firstPlace := by decide +kernel
theorem kX2_firstPlace_1 : (Cond.fieldLink RX2 109 "FewThatMatter$Sets" "height" "I") ∈ wsX2_firstPlace := by decide +kernel
theorem kX2_firstPlace_2 : (Cond.fieldLink RX2 11 "FewThatMatter$Sets" "left" "[[I") ∈ wsX2_firstPlace := by decide +kernel
set_option maxHeartbeats 4000000 in
set_option maxRecDepth 100000 in
theorem lX2_firstPlace_2 {p : Program} {l : Launch} {e : Env} {s : State} {m : MethodId} {args : Array Value} {below : List Frame} {meth : Method} {c : Code} {Q : State → Prop} {w : WE} {cs : List Nat} {A : Nat → Prop} {H0 : Heap} (C : CallFix p m c cX2_firstPlace 4 s args wsX2_firstPlace RX2) (hK : KW w s) (hcs : ∀ c, c < 56 → c ∈ cs) (v1 : Int32) (v2 : Int32) (G : GS) (B : BS) {K32 : Int32 → Prop} (k32 : ∀ (y3 : Int32) (H : Heap) (locs : List Loc) (ls : Array Slot), K32 y3 → WO w cs A H0 G B H locs → lv_has ls 4 [(3, .int y3)] → W p l e (rmW 0) s m args below meth c H locs 0 0 Q (F0 m 32 ls [])) : ∀ (n : Nat) (v3 : Int32) (H : Heap) (locs : List Loc) (ls : Array Slot), wlX2_firstPlace_2 K32 v1 v2 G n v3 → WO w cs A H0 G B H locs → lv_has ls 4 [(0, .ref (w.1 2)), (1, .int v1), (2, .int v2), (3, .int v3)] → W p l e (rmW 0) s m args below meth c H locs 0 0 Q (F0 m 2 ls []) := by
  have hx := C.1
  have hb := C.2.1
  have hown := C.2.2.2.1
  have hts := C.2.2.2.2
  intro n
  induction n with
  | zero => intro v3 H locs ls h hw hl; exact False.elim h
  | succ n ih =>
    intro v3 H locs ls h hw hl
    refine lv_iload_n hx hb dX2_firstPlace_2 rfl (lv_at hl 3 rfl) ?_
    refine lv_aload_n hx hb dX2_firstPlace_3 rfl (lv_at hl 0 rfl) ?_
    refine q_get (v := .int (G 2 5)) (C := RX2) (T := TX2) (N := 11) (ci := 2) hx hb hts kX2_firstPlace_0 hown hK hw 2 (hcs _ (by omega)) (by unfold isB; omega) rfl rfl 5 (by decide) (hts _ kX2_firstPlace_1) rfl rfl dX2_firstPlace_4 ?_
    refine lv_icmp_ge (tgt := 32) hx hb dX2_firstPlace_7 (by decide) (fun c1 => ?_) (fun c1 => ?_)
    · have h := h.1 c1
      exact k32 v3 _ _ _ h hw (lv_sub hl [3] rfl)
    · have h := h.2 c1
      refine lv_aload_n hx hb dX2_firstPlace_10 rfl (lv_at hl 0 rfl) ?_
      refine q_get (v := .ref (w.1 10)) (C := RX2) (T := TX2) (N := 11) (ci := 2) hx hb hts kX2_firstPlace_0 hown hK hw 2 (hcs _ (by omega)) (by unfold isB; omega) rfl rfl 1 (by decide) (hts _ kX2_firstPlace_2) rfl rfl dX2_firstPlace_11 ?_
      refine lv_iload_n hx hb dX2_firstPlace_14 rfl (lv_at hl 1 rfl) ?_
      obtain ⟨hin2, h⟩ := h
      have hv3 : 38 ≤ (38 + cl v1) ∧ (38 + cl v1) < 45 := vp_iv hin2
      refine q_aald (b := 38) (n := 7) hx hb hK hw (a := 10) (hcs _ (by omega)) (by unfold isO; omega) rfl rfl hin2 dX2_firstPlace_15 ?_
      refine lv_iload_n hx hb dX2_firstPlace_16 rfl (lv_at hl 2 rfl) ?_
      refine lv_bipush (v := 6) hx hb dX2_firstPlace_17 (by decide) ?_
      refine lv_imul hx hb dX2_firstPlace_19 ?_
      refine lv_iload_n hx hb dX2_firstPlace_20 rfl (lv_at hl 3 rfl) ?_
      refine lv_iadd hx hb dX2_firstPlace_21 ?_
      obtain ⟨hin4, h⟩ := h
      refine q_iald (n := 78) hx hb hK hw (hcs _ (by omega)) (isI_row (by omega) (by omega)) (ln_iv38 hv3) hin4 dX2_firstPlace_22 ?_
      refine lv_if_ne (tgt := 32) hx hb dX2_firstPlace_23 (by decide) (fun c5 => ?_) (fun c5 => ?_)
      · have h := h.1 c5
        exact k32 v3 _ _ _ h hw (lv_sub hl [3] rfl)
      · have h := h.2 c5
        refine lv_iinc (v := (v3 + (1 : Int32))) (lv' := [(3, .int (v3 + (1 : Int32))), (0, .ref (w.1 2)), (1, .int v1), (2, .int v2)]) hx hb dX2_firstPlace_26 hl (k := 3) rfl rfl (by decide) rfl (fun ls hl => ?_)
        refine lv_goto (tgt := 2) hx hb dX2_firstPlace_29 (by decide) ?_
        exact ih (v3 + (1 : Int32)) _ _ _ h hw (lv_sub hl [1, 2, 3, 0] rfl)
set_option maxHeartbeats 4000000 in
set_option maxRecDepth 100000 in
theorem mX2_firstPlace (l : Launch) (w : WE) (cs : List Nat) (hcs : ∀ c, c < 56 → c ∈ cs) (sz : Nat) (G : GS) (B : BS) (v1 : Int32) (v2 : Int32) (P : Int32 → Prop) (h : wX2_firstPlace v1 v2 G P) : Met l yX2_firstPlace wsX2_firstPlace (rmW 0) (PcW w cs sz G B [.ref (w.1 2), .int v1, .int v2]) (QI w cs sz (fun r G1 B1 => P r ∧ G1 = G ∧ B1 = B)) 0 0 (AA w cs sz) := by
  refine metW (own := RX2) [.ref (w.1 2), .int v1, .int v2] (by decide) rfl rfl (Nat.le_of_ble_eq_true rfl) ?_
  intro p e s m below meth c ls hsz C hr hK hw hl
  subst hsz
  have hx := C.1
  have hb := C.2.1
  have hown := C.2.2.2.1
  have hts := C.2.2.2.2
  have hl : lv_has ls 4 [(0, .ref (w.1 2)), (1, .int v1), (2, .int v2)] := hl
  refine lv_iconst (v := 0) hx hb dX2_firstPlace_0 (by decide) ?_
  refine lv_istore_n (lv' := [(3, .int (0 : Int32)), (0, .ref (w.1 2)), (1, .int v1), (2, .int v2)]) hx hb dX2_firstPlace_1 rfl hl (by decide) rfl (fun ls hl => ?_)
  obtain ⟨n2, h⟩ := h
  refine lX2_firstPlace_2 C hK hcs v1 v2 G B (K32 := _) ?_ n2 (0 : Int32) _ _ _ h hw (lv_sub hl [1, 2, 3, 0] rfl)
  · intro x3_32 H locs ls h hw hl
    refine lv_iload_n hx hb dX2_firstPlace_32 rfl (lv_at hl 0 rfl) ?_
    exact q_reti hx hb hr hw ⟨h, rfl, rfl⟩ dX2_firstPlace_33
theorem kX2_isNought_0 : ∀ w ∈ wsX20, w ∈ wsX2_isNought := by decide +kernel
theorem kX2_isNought_1 : (Cond.fieldLink RX2 109 "FewThatMatter$Sets" "height" "I") ∈ wsX2_isNought := by decide +kernel
set_option maxHeartbeats 4000000 in
set_option maxRecDepth 100000 in
theorem mX2_isNought (l : Launch) (w : WE) (cs : List Nat) (hcs : ∀ c, c < 56 → c ∈ cs) (sz : Nat) (G : GS) (B : BS) (v1 : Int32) (v2 : Int32) (P : Int32 → Prop) (h : wX2_isNought v1 v2 G P) : Met l yX2_isNought wsX2_isNought (rmW 1) (PcW w cs sz G B [.ref (w.1 2), .int v1, .int v2]) (QI w cs sz (fun r G1 B1 => P r ∧ G1 = G ∧ B1 = B)) 0 0 (AA w cs sz) := by
  refine metW (own := RX2) [.ref (w.1 2), .int v1, .int v2] (by decide) rfl rfl (Nat.le_of_ble_eq_true rfl) ?_
  intro p e s m below meth c ls hsz C hr hK hw hl
  subst hsz
  have hx := C.1
  have hb := C.2.1
  have hown := C.2.2.2.1
  have hts := C.2.2.2.2
  have hl : lv_has ls 3 [(0, .ref (w.1 2)), (1, .int v1), (2, .int v2)] := hl
  refine lv_aload_n hx hb dX2_isNought_0 rfl (lv_at hl 0 rfl) ?_
  refine lv_iload_n hx hb dX2_isNought_1 rfl (lv_at hl 1 rfl) ?_
  refine lv_iload_n hx hb dX2_isNought_2 rfl (lv_at hl 2 rfl) ?_
  refine q_calli hw (va_runV (As := [.int v1, .int v2]) (rest := []) C (mX2_firstPlace l w cs (fun c h => hcs c (by omega)) _ G B v1 v2 _ h) (cwV 2 hts gX2_isNought_X2_firstPlace rfl rfl rfl (by decide +kernel) ⟨Nat.le_of_ble_eq_true rfl, Nat.le_of_ble_eq_true rfl⟩) (preV hK hw 2 (hcs _ (by omega)) (by unfold isB; omega) rfl rfl _) rfl rfl hl.1 rfl (lv_room (Nat.le_of_ble_eq_true rfl)) dX2_isNought_3 ⟨Nat.le_refl 0, Nat.le_refl 0⟩) (fun r3 G3 B3 H locs h hw => ?_)
  obtain ⟨h, e1, e2⟩ := h; subst e1; subst e2
  refine lv_aload_n hx hb dX2_isNought_6 rfl (lv_at hl 0 rfl) ?_
  refine q_get (v := .int (G 2 5)) (C := RX2) (T := TX2) (N := 11) (ci := 2) hx hb hts kX2_isNought_0 hown hK hw 2 (hcs _ (by omega)) (by unfold isB; omega) rfl rfl 5 (by decide) (hts _ kX2_isNought_1) rfl rfl dX2_isNought_7 ?_
  refine lv_icmp_ne (tgt := 17) hx hb dX2_isNought_10 (by decide) (fun c1 => ?_) (fun c1 => ?_)
  · have h := h.1 c1
    refine lv_iconst (v := 0) hx hb dX2_isNought_17 (by decide) ?_
    exact q_retz hx hb hr hw (Or.inl rfl) ⟨h, rfl, rfl⟩ dX2_isNought_18
  · have h := h.2 c1
    refine lv_iconst (v := 1) hx hb dX2_isNought_13 (by decide) ?_
    refine lv_goto (tgt := 18) hx hb dX2_isNought_14 (by decide) ?_
    exact q_retz hx hb hr hw (Or.inr rfl) ⟨h, rfl, rfl⟩ dX2_isNought_18
theorem kX2_loadColumns_0 : ∀ w ∈ wsX20, w ∈ wsX2_loadColumns := by decide +kernel
theorem kX2_loadColumns_1 : (Cond.fieldLink RX2 109 "FewThatMatter$Sets" "height" "I") ∈ wsX2_loadColumns := by decide +kernel
theorem kX2_loadColumns_2 : (Cond.fieldLink RX2 26 "FewThatMatter$Sets" "table" "LFewThatMatter$Table;") ∈ wsX2_loadColumns := by decide +kernel
theorem kX2_loadColumns_3 : ∀ w ∈ wsX40, w ∈ wsX2_loadColumns := by decide +kernel
theorem kX2_loadColumns_4 : (Cond.fieldLink RX2 11 "FewThatMatter$Sets" "left" "[[I") ∈ wsX2_loadColumns := by decide +kernel
set_option maxHeartbeats 4000000 in
set_option maxRecDepth 100000 in
theorem lX2_loadColumns_28 {p : Program} {l : Launch} {e : Env} {s : State} {m : MethodId} {args : Array Value} {below : List Frame} {meth : Method} {c : Code} {Q : State → Prop} {w : WE} {cs : List Nat} {A : Nat → Prop} {H0 : Heap} (C : CallFix p m c cX2_loadColumns 4 s args wsX2_loadColumns RX2) (hK : KW w s) (hcs : ∀ c, c < 56 → c ∈ cs) (v1 : Int32) (v2 : Int32) (B : BS) {K72 : GS → Prop} (k72 : ∀ (G : GS) (H : Heap) (locs : List Loc) (ls : Array Slot), K72 G → WO w cs A H0 G B H locs → lv_has ls 4 [(0, .ref (w.1 2)), (1, .int v1), (2, .int v2)] → W p l e (rmW 0) s m args below meth c H locs 0 0 Q (F0 m 72 ls [])) : ∀ (n : Nat) (v3 : Int32) (G : GS) (H : Heap) (locs : List Loc) (ls : Array Slot), wlX2_loadColumns_28 K72 v1 v2 n v3 G → WO w cs A H0 G B H locs → lv_has ls 4 [(0, .ref (w.1 2)), (1, .int v1), (2, .int v2), (3, .int v3)] → W p l e (rmW 0) s m args below meth c H locs 0 0 Q (F0 m 28 ls []) := by
  have hx := C.1
  have hb := C.2.1
  have hown := C.2.2.2.1
  have hts := C.2.2.2.2
  intro n
  induction n with
  | zero => intro v3 G H locs ls h hw hl; exact False.elim h
  | succ n ih =>
    intro v3 G H locs ls h hw hl
    refine lv_iload_n hx hb dX2_loadColumns_28 rfl (lv_at hl 3 rfl) ?_
    refine lv_aload_n hx hb dX2_loadColumns_29 rfl (lv_at hl 0 rfl) ?_
    refine q_get (v := .ref (w.1 1)) (C := RX2) (T := TX2) (N := 11) (ci := 2) hx hb hts kX2_loadColumns_0 hown hK hw 2 (hcs _ (by omega)) (by unfold isB; omega) rfl rfl 0 (by decide) (hts _ kX2_loadColumns_2) rfl rfl dX2_loadColumns_30 ?_
    refine q_getN (v := .int (G 1 2)) (host := RX5) (C := RX4) (T := TX4) (N := 5) (ci := 4) hx hb hts kX2_loadColumns_3 hown hK hw 1 (hcs _ (by omega)) (by unfold isB; omega) rfl rfl 2 (by decide) (by decide +kernel) rfl rfl dX2_loadColumns_33 ?_
    refine lv_icmp_ge (tgt := 72) hx hb dX2_loadColumns_36 (by decide) (fun c3 => ?_) (fun c3 => ?_)
    · have h := h.1 c3
      exact k72 G _ _ _ h hw (lv_sub hl [0, 1, 2] rfl)
    · have h := h.2 c3
      refine lv_aload_n hx hb dX2_loadColumns_39 rfl (lv_at hl 0 rfl) ?_
      refine q_get (v := .ref (w.1 10)) (C := RX2) (T := TX2) (N := 11) (ci := 2) hx hb hts kX2_loadColumns_0 hown hK hw 2 (hcs _ (by omega)) (by unfold isB; omega) rfl rfl 1 (by decide) (hts _ kX2_loadColumns_4) rfl rfl dX2_loadColumns_40 ?_
      refine lv_iconst (v := 0) hx hb dX2_loadColumns_43 (by decide) ?_
      obtain ⟨hin4, h⟩ := h
      have hv5 : 38 ≤ (38 + cl (0 : Int32)) ∧ (38 + cl (0 : Int32)) < 45 := vp_iv hin4
      refine q_aald (b := 38) (n := 7) hx hb hK hw (a := 10) (hcs _ (by omega)) (by unfold isO; omega) rfl rfl hin4 dX2_loadColumns_44 ?_
      refine lv_iload_n hx hb dX2_loadColumns_45 rfl (lv_at hl 3 rfl) ?_
      refine lv_bipush (v := 6) hx hb dX2_loadColumns_46 (by decide) ?_
      refine lv_imul hx hb dX2_loadColumns_48 ?_
      refine lv_aload_n hx hb dX2_loadColumns_49 rfl (lv_at hl 0 rfl) ?_
      refine q_get (v := .int (G 2 5)) (C := RX2) (T := TX2) (N := 11) (ci := 2) hx hb hts kX2_loadColumns_0 hown hK hw 2 (hcs _ (by omega)) (by unfold isB; omega) rfl rfl 5 (by decide) (hts _ kX2_loadColumns_1) rfl rfl dX2_loadColumns_50 ?_
      refine lv_iadd hx hb dX2_loadColumns_53 ?_
      refine lv_aload_n hx hb dX2_loadColumns_54 rfl (lv_at hl 0 rfl) ?_
      refine q_get (v := .ref (w.1 1)) (C := RX2) (T := TX2) (N := 11) (ci := 2) hx hb hts kX2_loadColumns_0 hown hK hw 2 (hcs _ (by omega)) (by unfold isB; omega) rfl rfl 0 (by decide) (hts _ kX2_loadColumns_2) rfl rfl dX2_loadColumns_55 ?_
      refine q_getN (v := .ref (w.1 8)) (host := RX5) (C := RX4) (T := TX4) (N := 5) (ci := 4) hx hb hts kX2_loadColumns_3 hown hK hw 1 (hcs _ (by omega)) (by unfold isB; omega) rfl rfl 3 (by decide) (by decide +kernel) rfl rfl dX2_loadColumns_58 ?_
      refine lv_iload_n hx hb dX2_loadColumns_61 rfl (lv_at hl 2 rfl) ?_
      obtain ⟨hin6, h⟩ := h
      have hv7 : 32 ≤ (32 + cl v2) ∧ (32 + cl v2) < 38 := vp_iv hin6
      refine q_aald (b := 32) (n := 6) hx hb hK hw (a := 8) (hcs _ (by omega)) (by unfold isO; omega) rfl rfl hin6 dX2_loadColumns_62 ?_
      refine lv_iload_n hx hb dX2_loadColumns_63 rfl (lv_at hl 3 rfl) ?_
      obtain ⟨hin8, h⟩ := h
      refine q_iald (n := 12) hx hb hK hw (hcs _ (by omega)) (isI_row (by omega) (by omega)) (ln_iv32 hv7) hin8 dX2_loadColumns_64 ?_
      obtain ⟨hin9, h⟩ := h
      refine q_iast (n := 78) hx hb hK hw (hcs _ (by omega)) (isI_row (by omega) (by omega)) (ln_iv38 hv5) hin9 dX2_loadColumns_65 (fun H locs hw => ?_)
      refine lv_iinc (v := (v3 + (1 : Int32))) (lv' := [(3, .int (v3 + (1 : Int32))), (0, .ref (w.1 2)), (1, .int v1), (2, .int v2)]) hx hb dX2_loadColumns_66 hl (k := 3) rfl rfl (by decide) rfl (fun ls hl => ?_)
      refine lv_goto (tgt := 28) hx hb dX2_loadColumns_69 (by decide) ?_
      exact ih (v3 + (1 : Int32)) (wr G (38 + cl (0 : Int32)) (cl ((v3 * (6 : Int32)) + (G 2 5))) (G (32 + cl v2) (cl v3))) _ _ _ h hw (lv_sub hl [1, 2, 3, 0] rfl)
set_option maxHeartbeats 4000000 in
set_option maxRecDepth 100000 in
theorem lX2_loadColumns_7 {p : Program} {l : Launch} {e : Env} {s : State} {m : MethodId} {args : Array Value} {below : List Frame} {meth : Method} {c : Code} {Q : State → Prop} {w : WE} {cs : List Nat} {A : Nat → Prop} {H0 : Heap} (C : CallFix p m c cX2_loadColumns 4 s args wsX2_loadColumns RX2) (hK : KW w s) (hcs : ∀ c, c < 56 → c ∈ cs) (v1 : Int32) (B : BS) {K88 : GS → Prop} (k88 : ∀ (G : GS) (H : Heap) (locs : List Loc) (ls : Array Slot), K88 G → WO w cs A H0 G B H locs → lv_has ls 4 [] → W p l e (rmW 0) s m args below meth c H locs 0 0 Q (F0 m 88 ls [])) : ∀ (n : Nat) (v2 : Int32) (G : GS) (H : Heap) (locs : List Loc) (ls : Array Slot), wlX2_loadColumns_7 K88 v1 n v2 G → WO w cs A H0 G B H locs → lv_has ls 4 [(0, .ref (w.1 2)), (1, .int v1), (2, .int v2)] → W p l e (rmW 0) s m args below meth c H locs 0 0 Q (F0 m 7 ls []) := by
  have hx := C.1
  have hb := C.2.1
  have hown := C.2.2.2.1
  have hts := C.2.2.2.2
  intro n
  induction n with
  | zero => intro v2 G H locs ls h hw hl; exact False.elim h
  | succ n ih =>
    intro v2 G H locs ls h hw hl
    refine lv_iload_n hx hb dX2_loadColumns_7 rfl (lv_at hl 2 rfl) ?_
    refine lv_aload_n hx hb dX2_loadColumns_8 rfl (lv_at hl 0 rfl) ?_
    refine q_get (v := .ref (w.1 1)) (C := RX2) (T := TX2) (N := 11) (ci := 2) hx hb hts kX2_loadColumns_0 hown hK hw 2 (hcs _ (by omega)) (by unfold isB; omega) rfl rfl 0 (by decide) (hts _ kX2_loadColumns_2) rfl rfl dX2_loadColumns_9 ?_
    refine q_getN (v := .int (G 1 1)) (host := RX5) (C := RX4) (T := TX4) (N := 5) (ci := 4) hx hb hts kX2_loadColumns_3 hown hK hw 1 (hcs _ (by omega)) (by unfold isB; omega) rfl rfl 1 (by decide) (by decide +kernel) rfl rfl dX2_loadColumns_12 ?_
    refine lv_icmp_ge (tgt := 88) hx hb dX2_loadColumns_15 (by decide) (fun c1 => ?_) (fun c1 => ?_)
    · have h := h.1 c1
      exact k88 G _ _ _ h hw (lv_sub hl [] rfl)
    · have h := h.2 c1
      refine lv_iload_n hx hb dX2_loadColumns_18 rfl (lv_at hl 1 rfl) ?_
      refine lv_iload_n hx hb dX2_loadColumns_19 rfl (lv_at hl 2 rfl) ?_
      refine lv_ishr hx hb dX2_loadColumns_20 ?_
      refine lv_iconst (v := 1) hx hb dX2_loadColumns_21 (by decide) ?_
      refine lv_iand hx hb dX2_loadColumns_22 ?_
      refine lv_if_ne (tgt := 82) hx hb dX2_loadColumns_23 (by decide) (fun c2 => ?_) (fun c2 => ?_)
      · have h := h.1 c2
        refine lv_iinc (v := (v2 + (1 : Int32))) (lv' := [(2, .int (v2 + (1 : Int32))), (0, .ref (w.1 2)), (1, .int v1)]) hx hb dX2_loadColumns_82 hl (k := 2) rfl rfl (by decide) rfl (fun ls hl => ?_)
        refine lv_goto (tgt := 7) hx hb dX2_loadColumns_85 (by decide) ?_
        exact ih (v2 + (1 : Int32)) G _ _ _ h hw (lv_sub hl [1, 2, 0] rfl)
      · have h := h.2 c2
        refine lv_iconst (v := 0) hx hb dX2_loadColumns_26 (by decide) ?_
        refine lv_istore_n (lv' := [(3, .int (0 : Int32)), (0, .ref (w.1 2)), (1, .int v1), (2, .int v2)]) hx hb dX2_loadColumns_27 rfl hl (by decide) rfl (fun ls hl => ?_)
        obtain ⟨n28, h⟩ := h
        refine lX2_loadColumns_28 C hK hcs v1 v2 B (K72 := _) ?_ n28 (0 : Int32) G _ _ _ h hw (lv_sub hl [1, 2, 3, 0] rfl)
        · intro G_72 H locs ls h hw hl
          refine lv_aload_n hx hb dX2_loadColumns_72 rfl (lv_at hl 0 rfl) ?_
          refine lv_dup hx hb dX2_loadColumns_73 rfl ?_
          refine q_get (v := .int (G_72 2 5)) (C := RX2) (T := TX2) (N := 11) (ci := 2) hx hb hts kX2_loadColumns_0 hown hK hw 2 (hcs _ (by omega)) (by unfold isB; omega) rfl rfl 5 (by decide) (hts _ kX2_loadColumns_1) rfl rfl dX2_loadColumns_74 ?_
          refine lv_iconst (v := 1) hx hb dX2_loadColumns_77 (by decide) ?_
          refine lv_iadd hx hb dX2_loadColumns_78 ?_
          refine q_put (x := ((G_72 2 5) + (1 : Int32))) (C := RX2) (T := TX2) (N := 11) (ci := 2) hx hb hts kX2_loadColumns_0 tyX2 tyX2_ok nmX2 hown hK hw 2 (hcs _ (by omega)) (by unfold isB; omega) rfl rfl 5 (by decide) (hts _ kX2_loadColumns_1) rfl rfl rfl (by decide) rfl dX2_loadColumns_79 (fun H locs hw => ?_)
          refine lv_iinc (v := (v2 + (1 : Int32))) (lv' := [(2, .int (v2 + (1 : Int32))), (0, .ref (w.1 2)), (1, .int v1)]) hx hb dX2_loadColumns_82 hl (k := 2) rfl rfl (by decide) rfl (fun ls hl => ?_)
          refine lv_goto (tgt := 7) hx hb dX2_loadColumns_85 (by decide) ?_
          exact ih (v2 + (1 : Int32)) (wr G_72 2 5 ((G_72 2 5) + (1 : Int32))) _ _ _ h hw (lv_sub hl [1, 2, 0] rfl)
set_option maxHeartbeats 4000000 in
set_option maxRecDepth 100000 in
theorem mX2_loadColumns (l : Launch) (w : WE) (cs : List Nat) (hcs : ∀ c, c < 56 → c ∈ cs) (sz : Nat) (G : GS) (B : BS) (v1 : Int32) (P : GS → Prop) (h : wX2_loadColumns v1 G P) : Met l yX2_loadColumns wsX2_loadColumns (rmW 0) (PcW w cs sz G B [.ref (w.1 2), .int v1]) (QV w cs sz (fun G1 B1 => P G1 ∧ B1 = B)) 0 0 (AA w cs sz) := by
  refine metW (own := RX2) [.ref (w.1 2), .int v1] (by decide) rfl rfl (Nat.le_of_ble_eq_true rfl) ?_
  intro p e s m below meth c ls hsz C hr hK hw hl
  subst hsz
  have hx := C.1
  have hb := C.2.1
  have hown := C.2.2.2.1
  have hts := C.2.2.2.2
  have hl : lv_has ls 4 [(0, .ref (w.1 2)), (1, .int v1)] := hl
  refine lv_aload_n hx hb dX2_loadColumns_0 rfl (lv_at hl 0 rfl) ?_
  refine lv_iconst (v := 0) hx hb dX2_loadColumns_1 (by decide) ?_
  refine q_put (x := (0 : Int32)) (C := RX2) (T := TX2) (N := 11) (ci := 2) hx hb hts kX2_loadColumns_0 tyX2 tyX2_ok nmX2 hown hK hw 2 (hcs _ (by omega)) (by unfold isB; omega) rfl rfl 5 (by decide) (hts _ kX2_loadColumns_1) rfl rfl rfl (by decide) rfl dX2_loadColumns_2 (fun H locs hw => ?_)
  refine lv_iconst (v := 0) hx hb dX2_loadColumns_5 (by decide) ?_
  refine lv_istore_n (lv' := [(2, .int (0 : Int32)), (0, .ref (w.1 2)), (1, .int v1)]) hx hb dX2_loadColumns_6 rfl hl (by decide) rfl (fun ls hl => ?_)
  obtain ⟨n7, h⟩ := h
  refine lX2_loadColumns_7 C hK hcs v1 B (K88 := _) ?_ n7 (0 : Int32) (wr G 2 5 (0 : Int32)) _ _ _ h hw (lv_sub hl [1, 2, 0] rfl)
  · intro G_88 H locs ls h hw hl
    exact q_retv hx hb hr hw ⟨h, rfl⟩ dX2_loadColumns_88
