def wlX2_loadColumns_28 (K72 : GS → Prop) (v1 : Int32) (v2 : Int32) : Nat → Int32 → GS → Prop
  | 0, _, _ => False
  | n28 + 1, v3, G => (((G 1 2) ≤ v3 → K72 G) ∧ (¬ (G 1 2) ≤ v3 → (vp_in (0 : Int32) 7 ∧ (vp_in v2 6 ∧ (vp_in v3 12 ∧ (vp_in ((v3 * (6 : Int32)) + (G 2 5)) 78 ∧ (∀ G65 : GS, G65 = wr G (38 + cl (0 : Int32)) (cl ((v3 * (6 : Int32)) + (G 2 5))) (G (32 + cl v2) (cl v3)) → wlX2_loadColumns_28 K72 v1 v2 n28 (v3 + (1 : Int32)) G65)))))))
def wlX2_loadColumns_7 (K88 : GS → Prop) (v1 : Int32) : Nat → Int32 → GS → Prop
  | 0, _, _ => False
  | n7 + 1, v2, G => (((G 1 1) ≤ v2 → K88 G) ∧ (¬ (G 1 1) ≤ v2 → ((¬ ((v1 >>> (v2 &&& (31 : Int32))) &&& (1 : Int32)) = 0 → wlX2_loadColumns_7 K88 v1 n7 (v2 + (1 : Int32)) G) ∧ (((v1 >>> (v2 &&& (31 : Int32))) &&& (1 : Int32)) = 0 → (∃ z28 : Nat, wlX2_loadColumns_28 (fun G_72 => (∀ G79 : GS, G79 = wr G_72 2 5 ((G_72 2 5) + (1 : Int32)) → wlX2_loadColumns_7 K88 v1 n7 (v2 + (1 : Int32)) G79)) v1 v2 z28 (0 : Int32) G)))))
def wX2_loadColumns (v1 : Int32) (G : GS) (P : GS → Prop) : Prop := (∀ G2 : GS, G2 = wr G 2 5 (0 : Int32) → (∃ z7 : Nat, wlX2_loadColumns_7 (fun G_88 => P G_88) v1 z7 (0 : Int32) G2))
set_option maxHeartbeats 4000000 in
set_option maxRecDepth 100000 in
theorem lX2_loadColumns_28 {p : Program} {l : Launch} {e : Env} {s : State} {m : MethodId} {args : Array Value} {below : List Frame} {meth : Method} {c : Code} {Q : State → Prop} {w : WE} {cs : List Nat} {A : Nat → Prop} {H0 : Heap} (C : CallFix p m c cX2_loadColumns 4 s args wsX2_loadColumns RX2) (hK : KW w s) (hcs : ∀ c, c < 56 → c ∈ cs) (v1 : Int32) (v2 : Int32) (B : BS) {K72 : GS → Prop} (k72 : ∀ (G : GS) (H : Heap) (locs : List Loc) (ls : Array Slot), K72 G → WO w cs A H0 G B H locs → lv_has ls 4 [(0, .ref (w.1 2)), (1, .int v1), (2, .int v2)] → W p l e (rmW 0) s m args below meth c H locs 0 0 Q (F0 m 72 ls [])) : ∀ (n : Nat) (v3 : Int32) (G : GS) (H : Heap) (locs : List Loc) (ls : Array Slot), wlX2_loadColumns_28 K72 v1 v2 n v3 G → WO w cs A H0 G B H locs → lv_has ls 4 [(0, .ref (w.1 2)), (1, .int v1), (2, .int v2), (3, .int v3)] → W p l e (rmW 0) s m args below meth c H locs 0 0 Q (F0 m 28 ls []) := by
  have hx := C.1
  have hb := C.2.1
  have hown := C.2.2.2.1
  have hta := fun w h => C.2.2.2.2 w (List.mem_cons_of_mem _ h)
  intro n
  induction n with
  | zero => intro v3 G H locs ls h hw hl; exact False.elim h
  | succ n ih =>
    intro v3 G H locs ls h hw hl
    refine lv_iload_n hx hb dX2_loadColumns_28 rfl (lv_at hl 3 rfl) ?_
    refine lv_aload_n hx hb dX2_loadColumns_29 rfl (lv_at hl 0 rfl) ?_
    refine q_get (v := .ref (w.1 1)) (C := RX2) (T := TX2) (N := 11) (ci := 2) hx hb hta kw_X2 hown hK hw 2 (hcs _ (by omega)) (by unfold isB; omega) rfl rfl 0 (by decide) (hta _ kw_50) rfl rfl dX2_loadColumns_30 ?_
    refine q_getN (v := .int (G 1 2)) (host := RX5) (C := RX4) (T := TX4) (N := 5) (ci := 4) hx hb hta kw_X4 hown hK hw 1 (hcs _ (by omega)) (by unfold isB; omega) rfl rfl 2 (by decide) (by decide +kernel) rfl rfl dX2_loadColumns_33 ?_
    refine lv_icmp_ge (tgt := 72) hx hb dX2_loadColumns_36 (by decide) (fun c3 => ?_) (fun c3 => ?_)
    · have h := h.1 c3
      exact k72 G _ _ _ h hw (lv_sub hl [0, 1, 2] rfl)
    · have h := h.2 c3
      refine lv_aload_n hx hb dX2_loadColumns_39 rfl (lv_at hl 0 rfl) ?_
      refine q_get (v := .ref (w.1 10)) (C := RX2) (T := TX2) (N := 11) (ci := 2) hx hb hta kw_X2 hown hK hw 2 (hcs _ (by omega)) (by unfold isB; omega) rfl rfl 1 (by decide) (hta _ kw_51) rfl rfl dX2_loadColumns_40 ?_
      refine lv_iconst (v := 0) hx hb dX2_loadColumns_43 (by decide) ?_
      obtain ⟨hin4, h⟩ := h
      have hv5 : 38 ≤ (38 + cl (0 : Int32)) ∧ (38 + cl (0 : Int32)) < 45 := vp_iv hin4
      refine q_aald (b := 38) (n := 7) hx hb hK hw (a := 10) (hcs _ (by omega)) (by unfold isO; omega) rfl rfl hin4 dX2_loadColumns_44 ?_
      refine lv_iload_n hx hb dX2_loadColumns_45 rfl (lv_at hl 3 rfl) ?_
      refine lv_bipush (v := 6) hx hb dX2_loadColumns_46 (by decide) ?_
      refine lv_imul hx hb dX2_loadColumns_48 ?_
      refine lv_aload_n hx hb dX2_loadColumns_49 rfl (lv_at hl 0 rfl) ?_
      refine q_get (v := .int (G 2 5)) (C := RX2) (T := TX2) (N := 11) (ci := 2) hx hb hta kw_X2 hown hK hw 2 (hcs _ (by omega)) (by unfold isB; omega) rfl rfl 5 (by decide) (hta _ kw_49) rfl rfl dX2_loadColumns_50 ?_
      refine lv_iadd hx hb dX2_loadColumns_53 ?_
      refine lv_aload_n hx hb dX2_loadColumns_54 rfl (lv_at hl 0 rfl) ?_
      refine q_get (v := .ref (w.1 1)) (C := RX2) (T := TX2) (N := 11) (ci := 2) hx hb hta kw_X2 hown hK hw 2 (hcs _ (by omega)) (by unfold isB; omega) rfl rfl 0 (by decide) (hta _ kw_50) rfl rfl dX2_loadColumns_55 ?_
      refine q_getN (v := .ref (w.1 8)) (host := RX5) (C := RX4) (T := TX4) (N := 5) (ci := 4) hx hb hta kw_X4 hown hK hw 1 (hcs _ (by omega)) (by unfold isB; omega) rfl rfl 3 (by decide) (by decide +kernel) rfl rfl dX2_loadColumns_58 ?_
      refine lv_iload_n hx hb dX2_loadColumns_61 rfl (lv_at hl 2 rfl) ?_
      obtain ⟨hin6, h⟩ := h
      have hv7 : 32 ≤ (32 + cl v2) ∧ (32 + cl v2) < 38 := vp_iv hin6
      refine q_aald (b := 32) (n := 6) hx hb hK hw (a := 8) (hcs _ (by omega)) (by unfold isO; omega) rfl rfl hin6 dX2_loadColumns_62 ?_
      refine lv_iload_n hx hb dX2_loadColumns_63 rfl (lv_at hl 3 rfl) ?_
      obtain ⟨hin8, h⟩ := h
      refine q_iald (n := 12) hx hb hK hw (hcs _ (by omega)) (isI_row (by omega) (by omega)) (ln_iv32 hv7) hin8 dX2_loadColumns_64 ?_
      obtain ⟨hin9, h⟩ := h
      refine q_iast (n := 78) hx hb hK hw (hcs _ (by omega)) (isI_row (by omega) (by omega)) (ln_iv38 hv5) hin9 dX2_loadColumns_65 (fun H locs G65 eG65 hw => ?_)
      have h := h G65 eG65
      refine lv_iinc (v := (v3 + (1 : Int32))) (lv' := [(3, .int (v3 + (1 : Int32))), (0, .ref (w.1 2)), (1, .int v1), (2, .int v2)]) hx hb dX2_loadColumns_66 hl (k := 3) rfl rfl (by decide) rfl (fun ls hl => ?_)
      refine lv_goto (tgt := 28) hx hb dX2_loadColumns_69 (by decide) ?_
      exact ih (v3 + (1 : Int32)) G65 _ _ _ h hw (lv_sub hl [1, 2, 3, 0] rfl)
set_option maxHeartbeats 4000000 in
set_option maxRecDepth 100000 in
theorem lX2_loadColumns_7 {p : Program} {l : Launch} {e : Env} {s : State} {m : MethodId} {args : Array Value} {below : List Frame} {meth : Method} {c : Code} {Q : State → Prop} {w : WE} {cs : List Nat} {A : Nat → Prop} {H0 : Heap} (C : CallFix p m c cX2_loadColumns 4 s args wsX2_loadColumns RX2) (hK : KW w s) (hcs : ∀ c, c < 56 → c ∈ cs) (v1 : Int32) (B : BS) {K88 : GS → Prop} (k88 : ∀ (G : GS) (H : Heap) (locs : List Loc) (ls : Array Slot), K88 G → WO w cs A H0 G B H locs → lv_has ls 4 [] → W p l e (rmW 0) s m args below meth c H locs 0 0 Q (F0 m 88 ls [])) : ∀ (n : Nat) (v2 : Int32) (G : GS) (H : Heap) (locs : List Loc) (ls : Array Slot), wlX2_loadColumns_7 K88 v1 n v2 G → WO w cs A H0 G B H locs → lv_has ls 4 [(0, .ref (w.1 2)), (1, .int v1), (2, .int v2)] → W p l e (rmW 0) s m args below meth c H locs 0 0 Q (F0 m 7 ls []) := by
  have hx := C.1
  have hb := C.2.1
  have hown := C.2.2.2.1
  have hta := fun w h => C.2.2.2.2 w (List.mem_cons_of_mem _ h)
  intro n
  induction n with
  | zero => intro v2 G H locs ls h hw hl; exact False.elim h
  | succ n ih =>
    intro v2 G H locs ls h hw hl
    refine lv_iload_n hx hb dX2_loadColumns_7 rfl (lv_at hl 2 rfl) ?_
    refine lv_aload_n hx hb dX2_loadColumns_8 rfl (lv_at hl 0 rfl) ?_
    refine q_get (v := .ref (w.1 1)) (C := RX2) (T := TX2) (N := 11) (ci := 2) hx hb hta kw_X2 hown hK hw 2 (hcs _ (by omega)) (by unfold isB; omega) rfl rfl 0 (by decide) (hta _ kw_50) rfl rfl dX2_loadColumns_9 ?_
    refine q_getN (v := .int (G 1 1)) (host := RX5) (C := RX4) (T := TX4) (N := 5) (ci := 4) hx hb hta kw_X4 hown hK hw 1 (hcs _ (by omega)) (by unfold isB; omega) rfl rfl 1 (by decide) (by decide +kernel) rfl rfl dX2_loadColumns_12 ?_
    refine lv_icmp_ge (tgt := 88) hx hb dX2_loadColumns_15 (by decide) (fun c1 => ?_) (fun c1 => ?_)
    · have h := h.1 c1
      exact k88 G _ _ _ h hw (lv_sub hl [] rfl)
    · have h := h.2 c1
      refine lv_iload_n hx hb dX2_loadColumns_18 rfl (lv_at hl 1 rfl) ?_
      refine lv_iload_n hx hb dX2_loadColumns_19 rfl (lv_at hl 2 rfl) ?_
      refine lv_ishr hx hb dX2_loadColumns_20 ?_
      refine lv_iconst (v := 1) hx hb dX2_loadColumns_21 (by decide) ?_
      refine lv_iand hx hb dX2_loadColumns_22 ?_
      refine lv_if_ne (tgt := 82) hx hb dX2_loadColumns_23 (by decide) (fun c2 => ?_) (fun c2 => ?_)
      · have h := h.1 c2
        refine lv_iinc (v := (v2 + (1 : Int32))) (lv' := [(2, .int (v2 + (1 : Int32))), (0, .ref (w.1 2)), (1, .int v1)]) hx hb dX2_loadColumns_82 hl (k := 2) rfl rfl (by decide) rfl (fun ls hl => ?_)
        refine lv_goto (tgt := 7) hx hb dX2_loadColumns_85 (by decide) ?_
        exact ih (v2 + (1 : Int32)) G _ _ _ h hw (lv_sub hl [1, 2, 0] rfl)
      · have h := h.2 c2
        refine lv_iconst (v := 0) hx hb dX2_loadColumns_26 (by decide) ?_
        refine lv_istore_n (lv' := [(3, .int (0 : Int32)), (0, .ref (w.1 2)), (1, .int v1), (2, .int v2)]) hx hb dX2_loadColumns_27 rfl hl (by decide) rfl (fun ls hl => ?_)
        obtain ⟨n28, h⟩ := h
        refine lX2_loadColumns_28 C hK hcs v1 v2 B (K72 := _) ?_ n28 (0 : Int32) G _ _ _ h hw (lv_sub hl [1, 2, 3, 0] rfl)
        · intro G_72 H locs ls h hw hl
          refine lv_aload_n hx hb dX2_loadColumns_72 rfl (lv_at hl 0 rfl) ?_
          refine lv_dup hx hb dX2_loadColumns_73 rfl ?_
          refine q_get (v := .int (G_72 2 5)) (C := RX2) (T := TX2) (N := 11) (ci := 2) hx hb hta kw_X2 hown hK hw 2 (hcs _ (by omega)) (by unfold isB; omega) rfl rfl 5 (by decide) (hta _ kw_49) rfl rfl dX2_loadColumns_74 ?_
          refine lv_iconst (v := 1) hx hb dX2_loadColumns_77 (by decide) ?_
          refine lv_iadd hx hb dX2_loadColumns_78 ?_
          refine q_put (x := ((G_72 2 5) + (1 : Int32))) (C := RX2) (T := TX2) (N := 11) (ci := 2) hx hb hta kw_X2 tyX2 tyX2_ok nmX2 hown hK hw 2 (hcs _ (by omega)) (by unfold isB; omega) rfl rfl 5 (by decide) (hta _ kw_49) rfl rfl rfl (Nat.le_of_ble_eq_true rfl) rfl dX2_loadColumns_79 (fun H locs G79 eG79 hw => ?_)
          have h := h G79 eG79
          refine lv_iinc (v := (v2 + (1 : Int32))) (lv' := [(2, .int (v2 + (1 : Int32))), (0, .ref (w.1 2)), (1, .int v1)]) hx hb dX2_loadColumns_82 hl (k := 2) rfl rfl (by decide) rfl (fun ls hl => ?_)
          refine lv_goto (tgt := 7) hx hb dX2_loadColumns_85 (by decide) ?_
          exact ih (v2 + (1 : Int32)) G79 _ _ _ h hw (lv_sub hl [1, 2, 0] rfl)
set_option maxHeartbeats 4000000 in
set_option maxRecDepth 100000 in
theorem mX2_loadColumns (l : Launch) (w : WE) (cs : List Nat) (hcs : ∀ c, c < 56 → c ∈ cs) (sz : Nat) (G : GS) (B : BS) (v1 : Int32) (P : GS → Prop) (h : wX2_loadColumns v1 G P) : Met l yX2_loadColumns wsX2_loadColumns (rmW 0) (PcW w cs sz G B [.ref (w.1 2), .int v1]) (QV w cs sz (fun G1 B1 => P G1 ∧ B = B1)) 0 0 (AA w cs sz) := by
  refine metW (own := RX2) [.ref (w.1 2), .int v1] (by decide +kernel) rfl rfl (Nat.le_of_ble_eq_true rfl) ?_
  intro p e s m below meth c ls hsz C hr hK hw hl
  subst hsz
  have hx := C.1
  have hb := C.2.1
  have hown := C.2.2.2.1
  have hta := fun w h => C.2.2.2.2 w (List.mem_cons_of_mem _ h)
  have hl : lv_has ls 4 [(0, .ref (w.1 2)), (1, .int v1)] := hl
  refine lv_aload_n hx hb dX2_loadColumns_0 rfl (lv_at hl 0 rfl) ?_
  refine lv_iconst (v := 0) hx hb dX2_loadColumns_1 (by decide) ?_
  refine q_put (x := (0 : Int32)) (C := RX2) (T := TX2) (N := 11) (ci := 2) hx hb hta kw_X2 tyX2 tyX2_ok nmX2 hown hK hw 2 (hcs _ (by omega)) (by unfold isB; omega) rfl rfl 5 (by decide) (hta _ kw_49) rfl rfl rfl (Nat.le_of_ble_eq_true rfl) rfl dX2_loadColumns_2 (fun H locs G2 eG2 hw => ?_)
  have h := h G2 eG2
  refine lv_iconst (v := 0) hx hb dX2_loadColumns_5 (by decide) ?_
  refine lv_istore_n (lv' := [(2, .int (0 : Int32)), (0, .ref (w.1 2)), (1, .int v1)]) hx hb dX2_loadColumns_6 rfl hl (by decide) rfl (fun ls hl => ?_)
  obtain ⟨n7, h⟩ := h
  refine lX2_loadColumns_7 C hK hcs v1 B (K88 := _) ?_ n7 (0 : Int32) G2 _ _ _ h hw (lv_sub hl [1, 2, 0] rfl)
  · intro G_88 H locs ls h hw hl
    exact q_retv hx hb hr hw ⟨h, rfl⟩ dX2_loadColumns_88
def wlX2_loadSums_6 (K48 : GS → Prop) (a1 : Nat) (v2 : Int32) : Nat → Int32 → Int32 → GS → Prop
  | 0, _, _, _ => False
  | n6 + 1, v3, v4, G => (((G 1 1) ≤ v4 → K48 G) ∧ (¬ (G 1 1) ≤ v4 → ((¬ ((v2 >>> (v4 &&& (31 : Int32))) &&& (1 : Int32)) = 0 → wlX2_loadSums_6 K48 a1 v2 n6 v3 (v4 + (1 : Int32)) G) ∧ (((v2 >>> (v4 &&& (31 : Int32))) &&& (1 : Int32)) = 0 → (vp_in (0 : Int32) 7 ∧ (vp_in v4 (ln a1) ∧ (vp_in v3 78 ∧ (∀ G38 : GS, G38 = wr G (38 + cl (0 : Int32)) (cl v3) (G a1 (cl v4)) → wlX2_loadSums_6 K48 a1 v2 n6 (v3 + (1 : Int32)) (v4 + (1 : Int32)) G38))))))))
def wX2_loadSums (a1 : Nat) (v2 : Int32) (G : GS) (P : GS → Prop) : Prop := (∃ z6 : Nat, wlX2_loadSums_6 (fun G_48 => P G_48) a1 v2 z6 (72 : Int32) (0 : Int32) G)
set_option maxHeartbeats 4000000 in
set_option maxRecDepth 100000 in
theorem lX2_loadSums_6 {p : Program} {l : Launch} {e : Env} {s : State} {m : MethodId} {args : Array Value} {below : List Frame} {meth : Method} {c : Code} {Q : State → Prop} {w : WE} {cs : List Nat} {A : Nat → Prop} {H0 : Heap} (C : CallFix p m c cX2_loadSums 5 s args wsX2_loadSums RX2) (hK : KW w s) (hcs : ∀ c, c < 56 → c ∈ cs) (a1 : Nat) (ha1I : isI a1) (ha1C : a1 ∈ cs) (v2 : Int32) (B : BS) {K48 : GS → Prop} (k48 : ∀ (G : GS) (H : Heap) (locs : List Loc) (ls : Array Slot), K48 G → WO w cs A H0 G B H locs → lv_has ls 5 [] → W p l e (rmW 0) s m args below meth c H locs 0 0 Q (F0 m 48 ls [])) : ∀ (n : Nat) (v3 : Int32) (v4 : Int32) (G : GS) (H : Heap) (locs : List Loc) (ls : Array Slot), wlX2_loadSums_6 K48 a1 v2 n v3 v4 G → WO w cs A H0 G B H locs → lv_has ls 5 [(0, .ref (w.1 2)), (1, .ref (w.1 a1)), (2, .int v2), (3, .int v3), (4, .int v4)] → W p l e (rmW 0) s m args below meth c H locs 0 0 Q (F0 m 6 ls []) := by
  have hx := C.1
  have hb := C.2.1
  have hown := C.2.2.2.1
  have hta := fun w h => C.2.2.2.2 w (List.mem_cons_of_mem _ h)
  intro n
  induction n with
  | zero => intro v3 v4 G H locs ls h hw hl; exact False.elim h
  | succ n ih =>
    intro v3 v4 G H locs ls h hw hl
    refine lv_iload hx hb dX2_loadSums_6 (lv_at hl 4 rfl) ?_
    refine lv_aload_n hx hb dX2_loadSums_8 rfl (lv_at hl 0 rfl) ?_
    refine q_get (v := .ref (w.1 1)) (C := RX2) (T := TX2) (N := 11) (ci := 2) hx hb hta kw_X2 hown hK hw 2 (hcs _ (by omega)) (by unfold isB; omega) rfl rfl 0 (by decide) (hta _ kw_50) rfl rfl dX2_loadSums_9 ?_
    refine q_getN (v := .int (G 1 1)) (host := RX5) (C := RX4) (T := TX4) (N := 5) (ci := 4) hx hb hta kw_X4 hown hK hw 1 (hcs _ (by omega)) (by unfold isB; omega) rfl rfl 1 (by decide) (by decide +kernel) rfl rfl dX2_loadSums_12 ?_
    refine lv_icmp_ge (tgt := 48) hx hb dX2_loadSums_15 (by decide) (fun c1 => ?_) (fun c1 => ?_)
    · have h := h.1 c1
      exact k48 G _ _ _ h hw (lv_sub hl [] rfl)
    · have h := h.2 c1
      refine lv_iload_n hx hb dX2_loadSums_18 rfl (lv_at hl 2 rfl) ?_
      refine lv_iload hx hb dX2_loadSums_19 (lv_at hl 4 rfl) ?_
      refine lv_ishr hx hb dX2_loadSums_21 ?_
      refine lv_iconst (v := 1) hx hb dX2_loadSums_22 (by decide) ?_
      refine lv_iand hx hb dX2_loadSums_23 ?_
      refine lv_if_ne (tgt := 42) hx hb dX2_loadSums_24 (by decide) (fun c2 => ?_) (fun c2 => ?_)
      · have h := h.1 c2
        refine lv_iinc (v := (v4 + (1 : Int32))) (lv' := [(4, .int (v4 + (1 : Int32))), (0, .ref (w.1 2)), (1, .ref (w.1 a1)), (2, .int v2), (3, .int v3)]) hx hb dX2_loadSums_42 hl (k := 4) rfl rfl (by decide) rfl (fun ls hl => ?_)
        refine lv_goto (tgt := 6) hx hb dX2_loadSums_45 (by decide) ?_
        exact ih v3 (v4 + (1 : Int32)) G _ _ _ h hw (lv_sub hl [1, 2, 3, 4, 0] rfl)
      · have h := h.2 c2
        refine lv_aload_n hx hb dX2_loadSums_27 rfl (lv_at hl 0 rfl) ?_
        refine q_get (v := .ref (w.1 10)) (C := RX2) (T := TX2) (N := 11) (ci := 2) hx hb hta kw_X2 hown hK hw 2 (hcs _ (by omega)) (by unfold isB; omega) rfl rfl 1 (by decide) (hta _ kw_51) rfl rfl dX2_loadSums_28 ?_
        refine lv_iconst (v := 0) hx hb dX2_loadSums_31 (by decide) ?_
        obtain ⟨hin3, h⟩ := h
        have hv4 : 38 ≤ (38 + cl (0 : Int32)) ∧ (38 + cl (0 : Int32)) < 45 := vp_iv hin3
        refine q_aald (b := 38) (n := 7) hx hb hK hw (a := 10) (hcs _ (by omega)) (by unfold isO; omega) rfl rfl hin3 dX2_loadSums_32 ?_
        refine lv_iload_n hx hb dX2_loadSums_33 rfl (lv_at hl 3 rfl) ?_
        refine lv_aload_n hx hb dX2_loadSums_34 rfl (lv_at hl 1 rfl) ?_
        refine lv_iload hx hb dX2_loadSums_35 (lv_at hl 4 rfl) ?_
        obtain ⟨hin5, h⟩ := h
        refine q_iald (n := (ln a1)) hx hb hK hw ha1C ha1I rfl hin5 dX2_loadSums_37 ?_
        obtain ⟨hin6, h⟩ := h
        refine q_iast (n := 78) hx hb hK hw (hcs _ (by omega)) (isI_row (by omega) (by omega)) (ln_iv38 hv4) hin6 dX2_loadSums_38 (fun H locs G38 eG38 hw => ?_)
        have h := h G38 eG38
        refine lv_iinc (v := (v3 + (1 : Int32))) (lv' := [(3, .int (v3 + (1 : Int32))), (0, .ref (w.1 2)), (1, .ref (w.1 a1)), (2, .int v2), (4, .int v4)]) hx hb dX2_loadSums_39 hl (k := 3) rfl rfl (by decide) rfl (fun ls hl => ?_)
        refine lv_iinc (v := (v4 + (1 : Int32))) (lv' := [(4, .int (v4 + (1 : Int32))), (3, .int (v3 + (1 : Int32))), (0, .ref (w.1 2)), (1, .ref (w.1 a1)), (2, .int v2)]) hx hb dX2_loadSums_42 hl (k := 4) rfl rfl (by decide) rfl (fun ls hl => ?_)
        refine lv_goto (tgt := 6) hx hb dX2_loadSums_45 (by decide) ?_
        exact ih (v3 + (1 : Int32)) (v4 + (1 : Int32)) G38 _ _ _ h hw (lv_sub hl [2, 3, 4, 1, 0] rfl)
set_option maxHeartbeats 4000000 in
set_option maxRecDepth 100000 in
theorem mX2_loadSums (l : Launch) (w : WE) (cs : List Nat) (hcs : ∀ c, c < 56 → c ∈ cs) (sz : Nat) (G : GS) (B : BS) (a1 : Nat) (ha1I : isI a1) (ha1C : a1 ∈ cs) (v2 : Int32) (P : GS → Prop) (h : wX2_loadSums a1 v2 G P) : Met l yX2_loadSums wsX2_loadSums (rmW 0) (PcW w cs sz G B [.ref (w.1 2), .ref (w.1 a1), .int v2]) (QV w cs sz (fun G1 B1 => P G1 ∧ B = B1)) 0 0 (AA w cs sz) := by
  refine metW (own := RX2) [.ref (w.1 2), .ref (w.1 a1), .int v2] (by decide +kernel) rfl rfl (Nat.le_of_ble_eq_true rfl) ?_
  intro p e s m below meth c ls hsz C hr hK hw hl
  subst hsz
  have hx := C.1
  have hb := C.2.1
  have hown := C.2.2.2.1
  have hta := fun w h => C.2.2.2.2 w (List.mem_cons_of_mem _ h)
  have hl : lv_has ls 5 [(0, .ref (w.1 2)), (1, .ref (w.1 a1)), (2, .int v2)] := hl
  refine lv_bipush (v := 72) hx hb dX2_loadSums_0 (by decide) ?_
  refine lv_istore_n (lv' := [(3, .int (72 : Int32)), (0, .ref (w.1 2)), (1, .ref (w.1 a1)), (2, .int v2)]) hx hb dX2_loadSums_2 rfl hl (by decide) rfl (fun ls hl => ?_)
  refine lv_iconst (v := 0) hx hb dX2_loadSums_3 (by decide) ?_
  refine lv_istore (lv' := [(4, .int (0 : Int32)), (3, .int (72 : Int32)), (0, .ref (w.1 2)), (1, .ref (w.1 a1)), (2, .int v2)]) hx hb dX2_loadSums_4 hl (by decide) rfl (fun ls hl => ?_)
  obtain ⟨n6, h⟩ := h
  refine lX2_loadSums_6 C hK hcs a1 ha1I ha1C v2 B (K48 := _) ?_ n6 (72 : Int32) (0 : Int32) G _ _ _ h hw (lv_sub hl [2, 3, 4, 1, 0] rfl)
  · intro G_48 H locs ls h hw hl
    exact q_retv hx hb hr hw ⟨h, rfl⟩ dX2_loadSums_48
def wlX2_firstPlace_2 (K32 : Int32 → Prop) (v1 : Int32) (v2 : Int32) (G : GS) : Nat → Int32 → Prop
  | 0, _ => False
  | n2 + 1, v3 => (((G 2 5) ≤ v3 → K32 v3) ∧ (¬ (G 2 5) ≤ v3 → (vp_in v1 7 ∧ (vp_in ((v2 * (6 : Int32)) + v3) 78 ∧ ((¬ (G (38 + cl v1) (cl ((v2 * (6 : Int32)) + v3))) = 0 → K32 v3) ∧ ((G (38 + cl v1) (cl ((v2 * (6 : Int32)) + v3))) = 0 → wlX2_firstPlace_2 K32 v1 v2 G n2 (v3 + (1 : Int32))))))))
def wX2_firstPlace (v1 : Int32) (v2 : Int32) (G : GS) (P : Int32 → Prop) : Prop := (∃ z2 : Nat, wlX2_firstPlace_2 (fun x3_32 => P x3_32) v1 v2 G z2 (0 : Int32))
set_option maxHeartbeats 4000000 in
set_option maxRecDepth 100000 in
theorem lX2_firstPlace_2 {p : Program} {l : Launch} {e : Env} {s : State} {m : MethodId} {args : Array Value} {below : List Frame} {meth : Method} {c : Code} {Q : State → Prop} {w : WE} {cs : List Nat} {A : Nat → Prop} {H0 : Heap} (C : CallFix p m c cX2_firstPlace 4 s args wsX2_firstPlace RX2) (hK : KW w s) (hcs : ∀ c, c < 56 → c ∈ cs) (v1 : Int32) (v2 : Int32) (G : GS) (B : BS) {K32 : Int32 → Prop} (k32 : ∀ (y3 : Int32) (H : Heap) (locs : List Loc) (ls : Array Slot), K32 y3 → WO w cs A H0 G B H locs → lv_has ls 4 [(3, .int y3)] → W p l e (rmW 0) s m args below meth c H locs 0 0 Q (F0 m 32 ls [])) : ∀ (n : Nat) (v3 : Int32) (H : Heap) (locs : List Loc) (ls : Array Slot), wlX2_firstPlace_2 K32 v1 v2 G n v3 → WO w cs A H0 G B H locs → lv_has ls 4 [(0, .ref (w.1 2)), (1, .int v1), (2, .int v2), (3, .int v3)] → W p l e (rmW 0) s m args below meth c H locs 0 0 Q (F0 m 2 ls []) := by
  have hx := C.1
  have hb := C.2.1
  have hown := C.2.2.2.1
  have hta := fun w h => C.2.2.2.2 w (List.mem_cons_of_mem _ h)
  intro n
  induction n with
  | zero => intro v3 H locs ls h hw hl; exact False.elim h
  | succ n ih =>
    intro v3 H locs ls h hw hl
    refine lv_iload_n hx hb dX2_firstPlace_2 rfl (lv_at hl 3 rfl) ?_
    refine lv_aload_n hx hb dX2_firstPlace_3 rfl (lv_at hl 0 rfl) ?_
    refine q_get (v := .int (G 2 5)) (C := RX2) (T := TX2) (N := 11) (ci := 2) hx hb hta kw_X2 hown hK hw 2 (hcs _ (by omega)) (by unfold isB; omega) rfl rfl 5 (by decide) (hta _ kw_49) rfl rfl dX2_firstPlace_4 ?_
    refine lv_icmp_ge (tgt := 32) hx hb dX2_firstPlace_7 (by decide) (fun c1 => ?_) (fun c1 => ?_)
    · have h := h.1 c1
      exact k32 v3 _ _ _ h hw (lv_sub hl [3] rfl)
    · have h := h.2 c1
      refine lv_aload_n hx hb dX2_firstPlace_10 rfl (lv_at hl 0 rfl) ?_
      refine q_get (v := .ref (w.1 10)) (C := RX2) (T := TX2) (N := 11) (ci := 2) hx hb hta kw_X2 hown hK hw 2 (hcs _ (by omega)) (by unfold isB; omega) rfl rfl 1 (by decide) (hta _ kw_51) rfl rfl dX2_firstPlace_11 ?_
      refine lv_iload_n hx hb dX2_firstPlace_14 rfl (lv_at hl 1 rfl) ?_
      obtain ⟨hin2, h⟩ := h
      have hv3 : 38 ≤ (38 + cl v1) ∧ (38 + cl v1) < 45 := vp_iv hin2
      refine q_aald (b := 38) (n := 7) hx hb hK hw (a := 10) (hcs _ (by omega)) (by unfold isO; omega) rfl rfl hin2 dX2_firstPlace_15 ?_
      refine lv_iload_n hx hb dX2_firstPlace_16 rfl (lv_at hl 2 rfl) ?_
      refine lv_bipush (v := 6) hx hb dX2_firstPlace_17 (by decide) ?_
      refine lv_imul hx hb dX2_firstPlace_19 ?_
      refine lv_iload_n hx hb dX2_firstPlace_20 rfl (lv_at hl 3 rfl) ?_
      refine lv_iadd hx hb dX2_firstPlace_21 ?_
      obtain ⟨hin4, h⟩ := h
      refine q_iald (n := 78) hx hb hK hw (hcs _ (by omega)) (isI_row (by omega) (by omega)) (ln_iv38 hv3) hin4 dX2_firstPlace_22 ?_
      refine lv_if_ne (tgt := 32) hx hb dX2_firstPlace_23 (by decide) (fun c5 => ?_) (fun c5 => ?_)
      · have h := h.1 c5
        exact k32 v3 _ _ _ h hw (lv_sub hl [3] rfl)
      · have h := h.2 c5
        refine lv_iinc (v := (v3 + (1 : Int32))) (lv' := [(3, .int (v3 + (1 : Int32))), (0, .ref (w.1 2)), (1, .int v1), (2, .int v2)]) hx hb dX2_firstPlace_26 hl (k := 3) rfl rfl (by decide) rfl (fun ls hl => ?_)
        refine lv_goto (tgt := 2) hx hb dX2_firstPlace_29 (by decide) ?_
        exact ih (v3 + (1 : Int32)) _ _ _ h hw (lv_sub hl [1, 2, 3, 0] rfl)
set_option maxHeartbeats 4000000 in
set_option maxRecDepth 100000 in
theorem mX2_firstPlace (l : Launch) (w : WE) (cs : List Nat) (hcs : ∀ c, c < 56 → c ∈ cs) (sz : Nat) (G : GS) (B : BS) (v1 : Int32) (v2 : Int32) (P : Int32 → Prop) (h : wX2_firstPlace v1 v2 G P) : Met l yX2_firstPlace wsX2_firstPlace (rmW 0) (PcW w cs sz G B [.ref (w.1 2), .int v1, .int v2]) (QI w cs sz (fun r G1 B1 => P r ∧ G = G1 ∧ B = B1)) 0 0 (AA w cs sz) := by
  refine metW (own := RX2) [.ref (w.1 2), .int v1, .int v2] (by decide +kernel) rfl rfl (Nat.le_of_ble_eq_true rfl) ?_
  intro p e s m below meth c ls hsz C hr hK hw hl
  subst hsz
  have hx := C.1
  have hb := C.2.1
  have hown := C.2.2.2.1
  have hta := fun w h => C.2.2.2.2 w (List.mem_cons_of_mem _ h)
  have hl : lv_has ls 4 [(0, .ref (w.1 2)), (1, .int v1), (2, .int v2)] := hl
  refine lv_iconst (v := 0) hx hb dX2_firstPlace_0 (by decide) ?_
  refine lv_istore_n (lv' := [(3, .int (0 : Int32)), (0, .ref (w.1 2)), (1, .int v1), (2, .int v2)]) hx hb dX2_firstPlace_1 rfl hl (by decide) rfl (fun ls hl => ?_)
  obtain ⟨n2, h⟩ := h
  refine lX2_firstPlace_2 C hK hcs v1 v2 G B (K32 := _) ?_ n2 (0 : Int32) _ _ _ h hw (lv_sub hl [1, 2, 3, 0] rfl)
  · intro x3_32 H locs ls h hw hl
    refine lv_iload_n hx hb dX2_firstPlace_32 rfl (lv_at hl 0 rfl) ?_
    exact q_reti hx hb hr hw ⟨h, rfl, rfl⟩ dX2_firstPlace_33
def wX2_isNought (v1 : Int32) (v2 : Int32) (G : GS) (P : Int32 → Prop) : Prop := (wX2_firstPlace v1 v2 G (fun r3 => ((¬ r3 = (G 2 5) → P (0 : Int32)) ∧ (r3 = (G 2 5) → P (1 : Int32)))))
set_option maxHeartbeats 4000000 in
set_option maxRecDepth 100000 in
theorem mX2_isNought (l : Launch) (w : WE) (cs : List Nat) (hcs : ∀ c, c < 56 → c ∈ cs) (sz : Nat) (G : GS) (B : BS) (v1 : Int32) (v2 : Int32) (P : Int32 → Prop) (h : wX2_isNought v1 v2 G P) : Met l yX2_isNought wsX2_isNought (rmW 1) (PcW w cs sz G B [.ref (w.1 2), .int v1, .int v2]) (QI w cs sz (fun r G1 B1 => P r ∧ G = G1 ∧ B = B1)) 0 0 (AA w cs sz) := by
  refine metW (own := RX2) [.ref (w.1 2), .int v1, .int v2] (by decide +kernel) rfl rfl (Nat.le_of_ble_eq_true rfl) ?_
  intro p e s m below meth c ls hsz C hr hK hw hl
  subst hsz
  have hx := C.1
  have hb := C.2.1
  have hown := C.2.2.2.1
  have hta := fun w h => C.2.2.2.2 w (List.mem_cons_of_mem _ h)
  have hl : lv_has ls 3 [(0, .ref (w.1 2)), (1, .int v1), (2, .int v2)] := hl
  refine lv_aload_n hx hb dX2_isNought_0 rfl (lv_at hl 0 rfl) ?_
  refine lv_iload_n hx hb dX2_isNought_1 rfl (lv_at hl 1 rfl) ?_
  refine lv_iload_n hx hb dX2_isNought_2 rfl (lv_at hl 2 rfl) ?_
  refine q_calli hw (va_runV (As := [.int v1, .int v2]) (rest := []) C (mX2_firstPlace l w cs (fun c h => hcs c (by omega)) _ G B v1 v2 _ h) (cwV 2 hta (gVw kw_53 kw_54 kw_55 kw_56 kw_52) rfl rfl rfl (by decide +kernel) ⟨Nat.le_of_ble_eq_true rfl, Nat.le_of_ble_eq_true rfl⟩) (preV hK hw 2 (hcs _ (by omega)) (by unfold isB; omega) rfl rfl _) rfl rfl hl.1 rfl (lv_room (Nat.le_of_ble_eq_true rfl)) dX2_isNought_3 ⟨Nat.le_refl 0, Nat.le_refl 0⟩) (fun r3 G3 B3 H locs h hw => ?_)
  obtain ⟨h, e1, e2⟩ := h; subst e1; subst e2
  refine lv_aload_n hx hb dX2_isNought_6 rfl (lv_at hl 0 rfl) ?_
  refine q_get (v := .int (G 2 5)) (C := RX2) (T := TX2) (N := 11) (ci := 2) hx hb hta kw_X2 hown hK hw 2 (hcs _ (by omega)) (by unfold isB; omega) rfl rfl 5 (by decide) (hta _ kw_49) rfl rfl dX2_isNought_7 ?_
  refine lv_icmp_ne (tgt := 17) hx hb dX2_isNought_10 (by decide) (fun c1 => ?_) (fun c1 => ?_)
  · have h := h.1 c1
    refine lv_iconst (v := 0) hx hb dX2_isNought_17 (by decide) ?_
    exact q_retz hx hb hr hw (Or.inl rfl) ⟨h, rfl, rfl⟩ dX2_isNought_18
  · have h := h.2 c1
    refine lv_iconst (v := 1) hx hb dX2_isNought_13 (by decide) ?_
    refine lv_goto (tgt := 18) hx hb dX2_isNought_14 (by decide) ?_
    exact q_retz hx hb hr hw (Or.inr rfl) ⟨h, rfl, rfl⟩ dX2_isNought_18
def wlX2_factorAt_24 (K82 : Int32 → Prop) (v1 : Int32) (v2 : Int32) (G : GS) : Nat → Int32 → Int32 → Prop
  | 0, _, _ => False
  | n24 + 1, v3, v4 => (((G 2 6) ≤ v4 → K82 v3) ∧ (¬ (G 2 6) ≤ v4 → (vp_in v4 7 ∧ (vp_in (G 11 (cl v4)) 12 ∧ (vp_in v1 7 ∧ (vp_in v4 7 ∧ (vp_in (((G 11 (cl v4)) * (6 : Int32)) + v2) 78 ∧ (∀ x75 : Int32, x75 = (v3 + ((G 13 (cl (G 11 (cl v4)))) * ((G 1 0) - (G (38 + cl v1) (cl (((G 11 (cl v4)) * (6 : Int32)) + v2)))))) → wlX2_factorAt_24 K82 v1 v2 G n24 x75 (v4 + (1 : Int32))))))))))
def wX2_factorAt (v1 : Int32) (G : GS) (P : Int32 → Prop) : Prop := (vp_in v1 7 ∧ (∀ x6 : Int32, x6 = (G 12 (cl v1)) → (vp_in v1 7 ∧ (vp_in ((72 : Int32) + x6) 78 ∧ (∀ x18 : Int32, x18 = (G (38 + cl v1) (cl ((72 : Int32) + x6))) → (∀ x22 : Int32, x22 = (v1 + (1 : Int32)) → (∃ z24 : Nat, wlX2_factorAt_24 (fun x3_82 => (¬ (G 1 0) = 0 ∧ (vp_in v1 7 ∧ (vp_in v1 7 ∧ (vp_in (((G 11 (cl v1)) * (6 : Int32)) + x6) 78 ∧ (wX4_quotient (x3_82 - x3_82 / (G 1 0) * (G 1 0)) (G (38 + cl v1) (cl (((G 11 (cl v1)) * (6 : Int32)) + x6))) G (fun r113 => P r113))))))) v1 x6 G z24 x18 x22)))))))
set_option maxHeartbeats 4000000 in
set_option maxRecDepth 100000 in
theorem lX2_factorAt_24 {p : Program} {l : Launch} {e : Env} {s : State} {m : MethodId} {args : Array Value} {below : List Frame} {meth : Method} {c : Code} {Q : State → Prop} {w : WE} {cs : List Nat} {A : Nat → Prop} {H0 : Heap} (C : CallFix p m c cX2_factorAt 5 s args wsX2_factorAt RX2) (hK : KW w s) (hcs : ∀ c, c < 56 → c ∈ cs) (v1 : Int32) (v2 : Int32) (G : GS) (B : BS) {K82 : Int32 → Prop} (k82 : ∀ (y3 : Int32) (H : Heap) (locs : List Loc) (ls : Array Slot), K82 y3 → WO w cs A H0 G B H locs → lv_has ls 5 [(0, .ref (w.1 2)), (1, .int v1), (2, .int v2), (3, .int y3)] → W p l e (rmW 1) s m args below meth c H locs 0 0 Q (F0 m 82 ls [])) : ∀ (n : Nat) (v3 : Int32) (v4 : Int32) (H : Heap) (locs : List Loc) (ls : Array Slot), wlX2_factorAt_24 K82 v1 v2 G n v3 v4 → WO w cs A H0 G B H locs → lv_has ls 5 [(0, .ref (w.1 2)), (1, .int v1), (2, .int v2), (3, .int v3), (4, .int v4)] → W p l e (rmW 1) s m args below meth c H locs 0 0 Q (F0 m 24 ls []) := by
  have hx := C.1
  have hb := C.2.1
  have hown := C.2.2.2.1
  have hta := fun w h => C.2.2.2.2 w (List.mem_cons_of_mem _ h)
  intro n
  induction n with
  | zero => intro v3 v4 H locs ls h hw hl; exact False.elim h
  | succ n ih =>
    intro v3 v4 H locs ls h hw hl
    refine lv_iload hx hb dX2_factorAt_24 (lv_at hl 4 rfl) ?_
    refine lv_aload_n hx hb dX2_factorAt_26 rfl (lv_at hl 0 rfl) ?_
    refine q_get (v := .int (G 2 6)) (C := RX2) (T := TX2) (N := 11) (ci := 2) hx hb hta kw_X2 hown hK hw 2 (hcs _ (by omega)) (by unfold isB; omega) rfl rfl 6 (by decide) (hta _ kw_58) rfl rfl dX2_factorAt_27 ?_
    refine lv_icmp_ge (tgt := 82) hx hb dX2_factorAt_30 (by decide) (fun c5 => ?_) (fun c5 => ?_)
    · have h := h.1 c5
      exact k82 v3 _ _ _ h hw (lv_sub hl [0, 1, 2, 3] rfl)
    · have h := h.2 c5
      refine lv_iload_n hx hb dX2_factorAt_33 rfl (lv_at hl 3 rfl) ?_
      refine lv_aload_n hx hb dX2_factorAt_34 rfl (lv_at hl 0 rfl) ?_
      refine q_get (v := .ref (w.1 13)) (C := RX2) (T := TX2) (N := 11) (ci := 2) hx hb hta kw_X2 hown hK hw 2 (hcs _ (by omega)) (by unfold isB; omega) rfl rfl 4 (by decide) (hta _ kw_59) rfl rfl dX2_factorAt_35 ?_
      refine lv_aload_n hx hb dX2_factorAt_38 rfl (lv_at hl 0 rfl) ?_
      refine q_get (v := .ref (w.1 11)) (C := RX2) (T := TX2) (N := 11) (ci := 2) hx hb hta kw_X2 hown hK hw 2 (hcs _ (by omega)) (by unfold isB; omega) rfl rfl 2 (by decide) (hta _ kw_60) rfl rfl dX2_factorAt_39 ?_
      refine lv_iload hx hb dX2_factorAt_42 (lv_at hl 4 rfl) ?_
      obtain ⟨hin6, h⟩ := h
      refine q_iald (n := 7) hx hb hK hw (hcs _ (by omega)) (by unfold isI; omega) rfl hin6 dX2_factorAt_44 ?_
      obtain ⟨hin7, h⟩ := h
      refine q_iald (n := 12) hx hb hK hw (hcs _ (by omega)) (by unfold isI; omega) rfl hin7 dX2_factorAt_45 ?_
      refine lv_aload_n hx hb dX2_factorAt_46 rfl (lv_at hl 0 rfl) ?_
      refine q_get (v := .ref (w.1 1)) (C := RX2) (T := TX2) (N := 11) (ci := 2) hx hb hta kw_X2 hown hK hw 2 (hcs _ (by omega)) (by unfold isB; omega) rfl rfl 0 (by decide) (hta _ kw_50) rfl rfl dX2_factorAt_47 ?_
      refine q_getN (v := .int (G 1 0)) (host := RX5) (C := RX4) (T := TX4) (N := 5) (ci := 4) hx hb hta kw_X4 hown hK hw 1 (hcs _ (by omega)) (by unfold isB; omega) rfl rfl 0 (by decide) (by decide +kernel) rfl rfl dX2_factorAt_50 ?_
      refine lv_aload_n hx hb dX2_factorAt_53 rfl (lv_at hl 0 rfl) ?_
      refine q_get (v := .ref (w.1 10)) (C := RX2) (T := TX2) (N := 11) (ci := 2) hx hb hta kw_X2 hown hK hw 2 (hcs _ (by omega)) (by unfold isB; omega) rfl rfl 1 (by decide) (hta _ kw_51) rfl rfl dX2_factorAt_54 ?_
      refine lv_iload_n hx hb dX2_factorAt_57 rfl (lv_at hl 1 rfl) ?_
      obtain ⟨hin8, h⟩ := h
      have hv9 : 38 ≤ (38 + cl v1) ∧ (38 + cl v1) < 45 := vp_iv hin8
      refine q_aald (b := 38) (n := 7) hx hb hK hw (a := 10) (hcs _ (by omega)) (by unfold isO; omega) rfl rfl hin8 dX2_factorAt_58 ?_
      refine lv_aload_n hx hb dX2_factorAt_59 rfl (lv_at hl 0 rfl) ?_
      refine q_get (v := .ref (w.1 11)) (C := RX2) (T := TX2) (N := 11) (ci := 2) hx hb hta kw_X2 hown hK hw 2 (hcs _ (by omega)) (by unfold isB; omega) rfl rfl 2 (by decide) (hta _ kw_60) rfl rfl dX2_factorAt_60 ?_
      refine lv_iload hx hb dX2_factorAt_63 (lv_at hl 4 rfl) ?_
      obtain ⟨hin10, h⟩ := h
      refine q_iald (n := 7) hx hb hK hw (hcs _ (by omega)) (by unfold isI; omega) rfl hin10 dX2_factorAt_65 ?_
      refine lv_bipush (v := 6) hx hb dX2_factorAt_66 (by decide) ?_
      refine lv_imul hx hb dX2_factorAt_68 ?_
      refine lv_iload_n hx hb dX2_factorAt_69 rfl (lv_at hl 2 rfl) ?_
      refine lv_iadd hx hb dX2_factorAt_70 ?_
      obtain ⟨hin11, h⟩ := h
      refine q_iald (n := 78) hx hb hK hw (hcs _ (by omega)) (isI_row (by omega) (by omega)) (ln_iv38 hv9) hin11 dX2_factorAt_71 ?_
      refine lv_isub hx hb dX2_factorAt_72 ?_
      refine lv_imul hx hb dX2_factorAt_73 ?_
      refine lv_iadd hx hb dX2_factorAt_74 ?_
      refine lv_topi (fun x75 ex75 => ?_)
      have h := h x75 ex75
      refine lv_istore_n (lv' := [(3, .int x75), (0, .ref (w.1 2)), (1, .int v1), (2, .int v2), (4, .int v4)]) hx hb dX2_factorAt_75 rfl hl (by decide) rfl (fun ls hl => ?_)
      refine lv_iinc (v := (v4 + (1 : Int32))) (lv' := [(4, .int (v4 + (1 : Int32))), (3, .int x75), (0, .ref (w.1 2)), (1, .int v1), (2, .int v2)]) hx hb dX2_factorAt_76 hl (k := 4) rfl rfl (by decide) rfl (fun ls hl => ?_)
      refine lv_goto (tgt := 24) hx hb dX2_factorAt_79 (by decide) ?_
      exact ih x75 (v4 + (1 : Int32)) _ _ _ h hw (lv_sub hl [2, 3, 4, 1, 0] rfl)
set_option maxHeartbeats 4000000 in
set_option maxRecDepth 100000 in
theorem mX2_factorAt (l : Launch) (w : WE) (cs : List Nat) (hcs : ∀ c, c < 56 → c ∈ cs) (sz : Nat) (G : GS) (B : BS) (v1 : Int32) (P : Int32 → Prop) (h : wX2_factorAt v1 G P) : Met l yX2_factorAt wsX2_factorAt (rmW 1) (PcW w cs sz G B [.ref (w.1 2), .int v1]) (QI w cs sz (fun r G1 B1 => P r ∧ G = G1 ∧ B = B1)) 0 0 (AA w cs sz) := by
  refine metW (own := RX2) [.ref (w.1 2), .int v1] (by decide +kernel) rfl rfl (Nat.le_of_ble_eq_true rfl) ?_
  intro p e s m below meth c ls hsz C hr hK hw hl
  subst hsz
  have hx := C.1
  have hb := C.2.1
  have hown := C.2.2.2.1
  have hta := fun w h => C.2.2.2.2 w (List.mem_cons_of_mem _ h)
  have hl : lv_has ls 5 [(0, .ref (w.1 2)), (1, .int v1)] := hl
  refine lv_aload_n hx hb dX2_factorAt_0 rfl (lv_at hl 0 rfl) ?_
  refine q_get (v := .ref (w.1 12)) (C := RX2) (T := TX2) (N := 11) (ci := 2) hx hb hta kw_X2 hown hK hw 2 (hcs _ (by omega)) (by unfold isB; omega) rfl rfl 3 (by decide) (hta _ kw_57) rfl rfl dX2_factorAt_1 ?_
  refine lv_iload_n hx hb dX2_factorAt_4 rfl (lv_at hl 1 rfl) ?_
  obtain ⟨hin1, h⟩ := h
  refine q_iald (n := 7) hx hb hK hw (hcs _ (by omega)) (by unfold isI; omega) rfl hin1 dX2_factorAt_5 ?_
  refine lv_topi (fun x6 ex6 => ?_)
  have h := h x6 ex6
  refine lv_istore_n (lv' := [(2, .int x6), (0, .ref (w.1 2)), (1, .int v1)]) hx hb dX2_factorAt_6 rfl hl (by decide) rfl (fun ls hl => ?_)
  refine lv_aload_n hx hb dX2_factorAt_7 rfl (lv_at hl 1 rfl) ?_
  refine q_get (v := .ref (w.1 10)) (C := RX2) (T := TX2) (N := 11) (ci := 2) hx hb hta kw_X2 hown hK hw 2 (hcs _ (by omega)) (by unfold isB; omega) rfl rfl 1 (by decide) (hta _ kw_51) rfl rfl dX2_factorAt_8 ?_
  refine lv_iload_n hx hb dX2_factorAt_11 rfl (lv_at hl 2 rfl) ?_
  obtain ⟨hin2, h⟩ := h
  have hv3 : 38 ≤ (38 + cl v1) ∧ (38 + cl v1) < 45 := vp_iv hin2
  refine q_aald (b := 38) (n := 7) hx hb hK hw (a := 10) (hcs _ (by omega)) (by unfold isO; omega) rfl rfl hin2 dX2_factorAt_12 ?_
  refine lv_bipush (v := 72) hx hb dX2_factorAt_13 (by decide) ?_
  refine lv_iload_n hx hb dX2_factorAt_15 rfl (lv_at hl 0 rfl) ?_
  refine lv_iadd hx hb dX2_factorAt_16 ?_
  obtain ⟨hin4, h⟩ := h
  refine q_iald (n := 78) hx hb hK hw (hcs _ (by omega)) (isI_row (by omega) (by omega)) (ln_iv38 hv3) hin4 dX2_factorAt_17 ?_
  refine lv_topi (fun x18 ex18 => ?_)
  have h := h x18 ex18
  refine lv_istore_n (lv' := [(3, .int x18), (2, .int x6), (0, .ref (w.1 2)), (1, .int v1)]) hx hb dX2_factorAt_18 rfl hl (by decide) rfl (fun ls hl => ?_)
  refine lv_iload_n hx hb dX2_factorAt_19 rfl (lv_at hl 3 rfl) ?_
  refine lv_iconst (v := 1) hx hb dX2_factorAt_20 (by decide) ?_
  refine lv_iadd hx hb dX2_factorAt_21 ?_
  refine lv_topi (fun x22 ex22 => ?_)
  have h := h x22 ex22
  refine lv_istore (lv' := [(4, .int x22), (3, .int x18), (2, .int x6), (0, .ref (w.1 2)), (1, .int v1)]) hx hb dX2_factorAt_22 hl (by decide) rfl (fun ls hl => ?_)
  obtain ⟨n24, h⟩ := h
  refine lX2_factorAt_24 C hK hcs v1 x6 G B (K82 := _) ?_ n24 x18 x22 _ _ _ h hw (lv_sub hl [3, 4, 2, 1, 0] rfl)
  · intro x3_82 H locs ls h hw hl
    refine lv_aload_n hx hb dX2_factorAt_82 rfl (lv_at hl 0 rfl) ?_
    refine q_get (v := .ref (w.1 1)) (C := RX2) (T := TX2) (N := 11) (ci := 2) hx hb hta kw_X2 hown hK hw 2 (hcs _ (by omega)) (by unfold isB; omega) rfl rfl 0 (by decide) (hta _ kw_50) rfl rfl dX2_factorAt_83 ?_
    refine lv_iload_n hx hb dX2_factorAt_86 rfl (lv_at hl 3 rfl) ?_
    refine lv_aload_n hx hb dX2_factorAt_87 rfl (lv_at hl 0 rfl) ?_
    refine q_get (v := .ref (w.1 1)) (C := RX2) (T := TX2) (N := 11) (ci := 2) hx hb hta kw_X2 hown hK hw 2 (hcs _ (by omega)) (by unfold isB; omega) rfl rfl 0 (by decide) (hta _ kw_50) rfl rfl dX2_factorAt_88 ?_
    refine q_getN (v := .int (G 1 0)) (host := RX5) (C := RX4) (T := TX4) (N := 5) (ci := 4) hx hb hta kw_X4 hown hK hw 1 (hcs _ (by omega)) (by unfold isB; omega) rfl rfl 0 (by decide) (by decide +kernel) rfl rfl dX2_factorAt_91 ?_
    obtain ⟨hz12, h⟩ := h
    refine lv_irem hx hb dX2_factorAt_94 hz12 ?_
    refine lv_aload_n hx hb dX2_factorAt_95 rfl (lv_at hl 0 rfl) ?_
    refine q_get (v := .ref (w.1 10)) (C := RX2) (T := TX2) (N := 11) (ci := 2) hx hb hta kw_X2 hown hK hw 2 (hcs _ (by omega)) (by unfold isB; omega) rfl rfl 1 (by decide) (hta _ kw_51) rfl rfl dX2_factorAt_96 ?_
    refine lv_iload_n hx hb dX2_factorAt_99 rfl (lv_at hl 1 rfl) ?_
    obtain ⟨hin13, h⟩ := h
    have hv14 : 38 ≤ (38 + cl v1) ∧ (38 + cl v1) < 45 := vp_iv hin13
    refine q_aald (b := 38) (n := 7) hx hb hK hw (a := 10) (hcs _ (by omega)) (by unfold isO; omega) rfl rfl hin13 dX2_factorAt_100 ?_
    refine lv_aload_n hx hb dX2_factorAt_101 rfl (lv_at hl 0 rfl) ?_
    refine q_get (v := .ref (w.1 11)) (C := RX2) (T := TX2) (N := 11) (ci := 2) hx hb hta kw_X2 hown hK hw 2 (hcs _ (by omega)) (by unfold isB; omega) rfl rfl 2 (by decide) (hta _ kw_60) rfl rfl dX2_factorAt_102 ?_
    refine lv_iload_n hx hb dX2_factorAt_105 rfl (lv_at hl 1 rfl) ?_
    obtain ⟨hin15, h⟩ := h
    refine q_iald (n := 7) hx hb hK hw (hcs _ (by omega)) (by unfold isI; omega) rfl hin15 dX2_factorAt_106 ?_
    refine lv_bipush (v := 6) hx hb dX2_factorAt_107 (by decide) ?_
    refine lv_imul hx hb dX2_factorAt_109 ?_
    refine lv_iload_n hx hb dX2_factorAt_110 rfl (lv_at hl 2 rfl) ?_
    refine lv_iadd hx hb dX2_factorAt_111 ?_
    obtain ⟨hin16, h⟩ := h
    refine q_iald (n := 78) hx hb hK hw (hcs _ (by omega)) (isI_row (by omega) (by omega)) (ln_iv38 hv14) hin16 dX2_factorAt_112 ?_
    refine q_calli hw (va_runV (As := [.int (x3_82 - x3_82 / (G 1 0) * (G 1 0)), .int (G (38 + cl v1) (cl (((G 11 (cl v1)) * (6 : Int32)) + x6)))]) (rest := []) C (mX4_quotient l w cs (fun c h => hcs c (by omega)) _ G B (x3_82 - x3_82 / (G 1 0) * (G 1 0)) (G (38 + cl v1) (cl (((G 11 (cl v1)) * (6 : Int32)) + x6))) _ h) (cwV 2 hta (gVw kw_61 kw_34 kw_35 kw_36 kw_32) rfl rfl rfl (by decide +kernel) ⟨Nat.le_of_ble_eq_true rfl, Nat.le_of_ble_eq_true rfl⟩) (preV hK hw 1 (hcs _ (by omega)) (by unfold isB; omega) rfl rfl _) rfl rfl hl.1 rfl (lv_room (Nat.le_of_ble_eq_true rfl)) dX2_factorAt_113 ⟨Nat.le_refl 0, Nat.le_refl 0⟩) (fun r113 G113 B113 H locs h hw => ?_)
    obtain ⟨h, e1, e2⟩ := h; subst e1; subst e2
    exact q_reti hx hb hr hw ⟨h, rfl, rfl⟩ dX2_factorAt_116
def wlX2_noteTelling_38 (K64 : GS → Prop) : Nat → Int32 → GS → Prop
  | 0, _, _ => False
  | n38 + 1, v2, G => ((v2 < 0 → K64 G) ∧ (¬ v2 < 0 → (vp_in v2 7 ∧ (wX2_factorAt v2 G (fun r54 => (vp_in (G 11 (cl v2)) 12 ∧ (∀ G57 : GS, G57 = wr G 13 (cl (G 11 (cl v2))) r54 → wlX2_noteTelling_38 K64 n38 (v2 + (-1 : Int32)) G57)))))))
def wX2_noteTelling (v1 : Int32) (G : GS) (P : GS → Prop) : Prop := (∀ G7 : GS, G7 = wr G 2 8 ((G 2 8) + (1 : Int32)) → (((G7 2 8) ≤ (1 : Int32) → (∀ G21 : GS, G21 = wr G7 2 9 v1 → (wX5_clear 13 G21 (fun G28 => (∀ x37 : Int32, x37 = ((G28 2 6) - (1 : Int32)) → (∃ z38 : Nat, wlX2_noteTelling_38 (fun G_64 => P G_64) z38 x37 G28)))))) ∧ (¬ (G7 2 8) ≤ (1 : Int32) → P G7)))
set_option maxHeartbeats 4000000 in
set_option maxRecDepth 100000 in
theorem lX2_noteTelling_38 {p : Program} {l : Launch} {e : Env} {s : State} {m : MethodId} {args : Array Value} {below : List Frame} {meth : Method} {c : Code} {Q : State → Prop} {w : WE} {cs : List Nat} {A : Nat → Prop} {H0 : Heap} (C : CallFix p m c cX2_noteTelling 3 s args wsX2_noteTelling RX2) (hK : KW w s) (hcs : ∀ c, c < 56 → c ∈ cs) (B : BS) {K64 : GS → Prop} (k64 : ∀ (G : GS) (H : Heap) (locs : List Loc) (ls : Array Slot), K64 G → WO w cs A H0 G B H locs → lv_has ls 3 [] → W p l e (rmW 2) s m args below meth c H locs 0 0 Q (F0 m 64 ls [])) : ∀ (n : Nat) (v2 : Int32) (G : GS) (H : Heap) (locs : List Loc) (ls : Array Slot), wlX2_noteTelling_38 K64 n v2 G → WO w cs A H0 G B H locs → lv_has ls 3 [(0, .ref (w.1 2)), (2, .int v2)] → W p l e (rmW 2) s m args below meth c H locs 0 0 Q (F0 m 38 ls []) := by
  have hx := C.1
  have hb := C.2.1
  have hown := C.2.2.2.1
  have hta := fun w h => C.2.2.2.2 w (List.mem_cons_of_mem _ h)
  intro n
  induction n with
  | zero => intro v2 G H locs ls h hw hl; exact False.elim h
  | succ n ih =>
    intro v2 G H locs ls h hw hl
    refine lv_iload_n hx hb dX2_noteTelling_38 rfl (lv_at hl 1 rfl) ?_
    refine lv_if_lt (tgt := 64) hx hb dX2_noteTelling_39 (by decide) (fun c2 => ?_) (fun c2 => ?_)
    · have h := h.1 c2
      exact k64 G _ _ _ h hw (lv_sub hl [] rfl)
    · have h := h.2 c2
      refine lv_aload_n hx hb dX2_noteTelling_42 rfl (lv_at hl 0 rfl) ?_
      refine q_get (v := .ref (w.1 13)) (C := RX2) (T := TX2) (N := 11) (ci := 2) hx hb hta kw_X2 hown hK hw 2 (hcs _ (by omega)) (by unfold isB; omega) rfl rfl 4 (by decide) (hta _ kw_59) rfl rfl dX2_noteTelling_43 ?_
      refine lv_aload_n hx hb dX2_noteTelling_46 rfl (lv_at hl 0 rfl) ?_
      refine q_get (v := .ref (w.1 11)) (C := RX2) (T := TX2) (N := 11) (ci := 2) hx hb hta kw_X2 hown hK hw 2 (hcs _ (by omega)) (by unfold isB; omega) rfl rfl 2 (by decide) (hta _ kw_60) rfl rfl dX2_noteTelling_47 ?_
      refine lv_iload_n hx hb dX2_noteTelling_50 rfl (lv_at hl 1 rfl) ?_
      obtain ⟨hin3, h⟩ := h
      refine q_iald (n := 7) hx hb hK hw (hcs _ (by omega)) (by unfold isI; omega) rfl hin3 dX2_noteTelling_51 ?_
      refine lv_aload_n hx hb dX2_noteTelling_52 rfl (lv_at hl 0 rfl) ?_
      refine lv_iload_n hx hb dX2_noteTelling_53 rfl (lv_at hl 1 rfl) ?_
      refine q_calli hw (va_runV (As := [.int v2]) (rest := [.int (G 11 (cl v2)), .ref (w.1 13)]) C (mX2_factorAt l w cs (fun c h => hcs c (by omega)) _ G B v2 _ h) (cwV 1 hta (gVw kw_65 kw_66 kw_67 kw_56 kw_64) rfl rfl rfl (by decide +kernel) ⟨Nat.le_of_ble_eq_true rfl, Nat.le_of_ble_eq_true rfl⟩) (preV hK hw 2 (hcs _ (by omega)) (by unfold isB; omega) rfl rfl _) rfl rfl hl.1 rfl (lv_room (Nat.le_of_ble_eq_true rfl)) dX2_noteTelling_54 ⟨Nat.le_refl 0, Nat.le_refl 0⟩) (fun r54 G54 B54 H locs h hw => ?_)
      obtain ⟨h, e1, e2⟩ := h; subst e1; subst e2
      obtain ⟨hin4, h⟩ := h
      refine q_iast (n := 12) hx hb hK hw (hcs _ (by omega)) (by unfold isI; omega) rfl hin4 dX2_noteTelling_57 (fun H locs G57 eG57 hw => ?_)
      have h := h G57 eG57
      refine lv_iinc (v := (v2 + (-1 : Int32))) (lv' := [(2, .int (v2 + (-1 : Int32))), (0, .ref (w.1 2))]) hx hb dX2_noteTelling_58 hl (k := 1) rfl rfl (by decide) rfl (fun ls hl => ?_)
      refine lv_goto (tgt := 38) hx hb dX2_noteTelling_61 (by decide) ?_
      exact ih (v2 + (-1 : Int32)) G57 _ _ _ h hw (lv_sub hl [1, 0] rfl)
set_option maxHeartbeats 4000000 in
set_option maxRecDepth 100000 in
theorem mX2_noteTelling (l : Launch) (w : WE) (cs : List Nat) (hcs : ∀ c, c < 56 → c ∈ cs) (sz : Nat) (G : GS) (B : BS) (v1 : Int32) (P : GS → Prop) (h : wX2_noteTelling v1 G P) : Met l yX2_noteTelling wsX2_noteTelling (rmW 2) (PcW w cs sz G B [.ref (w.1 2), .int v1]) (QV w cs sz (fun G1 B1 => P G1 ∧ B = B1)) 0 0 (AA w cs sz) := by
  refine metW (own := RX2) [.ref (w.1 2), .int v1] (by decide +kernel) rfl rfl (Nat.le_of_ble_eq_true rfl) ?_
  intro p e s m below meth c ls hsz C hr hK hw hl
  subst hsz
  have hx := C.1
  have hb := C.2.1
  have hown := C.2.2.2.1
  have hta := fun w h => C.2.2.2.2 w (List.mem_cons_of_mem _ h)
  have hl : lv_has ls 3 [(0, .ref (w.1 2)), (1, .int v1)] := hl
  refine lv_aload_n hx hb dX2_noteTelling_0 rfl (lv_at hl 0 rfl) ?_
  refine lv_dup hx hb dX2_noteTelling_1 rfl ?_
  refine q_get (v := .int (G 2 8)) (C := RX2) (T := TX2) (N := 11) (ci := 2) hx hb hta kw_X2 hown hK hw 2 (hcs _ (by omega)) (by unfold isB; omega) rfl rfl 8 (by decide) (hta _ kw_62) rfl rfl dX2_noteTelling_2 ?_
  refine lv_iconst (v := 1) hx hb dX2_noteTelling_5 (by decide) ?_
  refine lv_iadd hx hb dX2_noteTelling_6 ?_
  refine q_put (x := ((G 2 8) + (1 : Int32))) (C := RX2) (T := TX2) (N := 11) (ci := 2) hx hb hta kw_X2 tyX2 tyX2_ok nmX2 hown hK hw 2 (hcs _ (by omega)) (by unfold isB; omega) rfl rfl 8 (by decide) (hta _ kw_62) rfl rfl rfl (Nat.le_of_ble_eq_true rfl) rfl dX2_noteTelling_7 (fun H locs G7 eG7 hw => ?_)
  have h := h G7 eG7
  refine lv_aload_n hx hb dX2_noteTelling_10 rfl (lv_at hl 0 rfl) ?_
  refine q_get (v := .int (G7 2 8)) (C := RX2) (T := TX2) (N := 11) (ci := 2) hx hb hta kw_X2 hown hK hw 2 (hcs _ (by omega)) (by unfold isB; omega) rfl rfl 8 (by decide) (hta _ kw_62) rfl rfl dX2_noteTelling_11 ?_
  refine lv_iconst (v := 1) hx hb dX2_noteTelling_14 (by decide) ?_
  refine lv_icmp_le (tgt := 19) hx hb dX2_noteTelling_15 (by decide) (fun c1 => ?_) (fun c1 => ?_)
  · have h := h.1 c1
    refine lv_aload_n hx hb dX2_noteTelling_19 rfl (lv_at hl 0 rfl) ?_
    refine lv_iload_n hx hb dX2_noteTelling_20 rfl (lv_at hl 1 rfl) ?_
    refine q_put (x := v1) (C := RX2) (T := TX2) (N := 11) (ci := 2) hx hb hta kw_X2 tyX2 tyX2_ok nmX2 hown hK hw 2 (hcs _ (by omega)) (by unfold isB; omega) rfl rfl 9 (by decide) (hta _ kw_63) rfl rfl rfl (Nat.le_of_ble_eq_true rfl) rfl dX2_noteTelling_21 (fun H locs G21 eG21 hw => ?_)
    have h := h G21 eG21
    refine lv_aload_n hx hb dX2_noteTelling_24 rfl (lv_at hl 0 rfl) ?_
    refine q_get (v := .ref (w.1 13)) (C := RX2) (T := TX2) (N := 11) (ci := 2) hx hb hta kw_X2 hown hK hw 2 (hcs _ (by omega)) (by unfold isB; omega) rfl rfl 4 (by decide) (hta _ kw_59) rfl rfl dX2_noteTelling_25 ?_
    refine q_callv hw (va_runSN (As := [.ref (w.1 13)]) (rest := []) C (mX5_clear l w cs _ G21 B 13 (by unfold isI; omega) (hcs _ (by omega)) _ h) ⟨va_cnB 1 hta (gNw kw_29) rfl rfl rfl (hK.2 (.methodLinkNest RX2 95 yX5_clear RX5) (by decide +kernel)) (hta _ kw_30) (by decide +kernel) ⟨Nat.le_of_ble_eq_true rfl, Nat.le_of_ble_eq_true rfl⟩, hta _ kw_31, trivial⟩ (preS hK hw _) rfl rfl hl.1 rfl (lv_room (Nat.le_of_ble_eq_true rfl)) dX2_noteTelling_28 ⟨Nat.le_refl 0, Nat.le_refl 0⟩) (fun G28 B28 H locs h hw => ?_)
    obtain ⟨h, e2⟩ := h; subst e2
    refine lv_aload_n hx hb dX2_noteTelling_31 rfl (lv_at hl 0 rfl) ?_
    refine q_get (v := .int (G28 2 6)) (C := RX2) (T := TX2) (N := 11) (ci := 2) hx hb hta kw_X2 hown hK hw 2 (hcs _ (by omega)) (by unfold isB; omega) rfl rfl 6 (by decide) (hta _ kw_58) rfl rfl dX2_noteTelling_32 ?_
    refine lv_iconst (v := 1) hx hb dX2_noteTelling_35 (by decide) ?_
    refine lv_isub hx hb dX2_noteTelling_36 ?_
    refine lv_topi (fun x37 ex37 => ?_)
    have h := h x37 ex37
    refine lv_istore_n (lv' := [(2, .int x37), (0, .ref (w.1 2)), (1, .int v1)]) hx hb dX2_noteTelling_37 rfl hl (by decide) rfl (fun ls hl => ?_)
    obtain ⟨n38, h⟩ := h
    refine lX2_noteTelling_38 C hK hcs B (K64 := _) ?_ n38 x37 G28 _ _ _ h hw (lv_sub hl [1, 0] rfl)
    · intro G_64 H locs ls h hw hl
      exact q_retv hx hb hr hw ⟨h, rfl⟩ dX2_noteTelling_64
  · have h := h.2 c1
    exact q_retv hx hb hr hw ⟨h, rfl⟩ dX2_noteTelling_18
def wlX2_takeOutOf_69 (K123 : GS → Prop) (a4 : Nat) (a5 : Nat) (v6 : Int32) (v7 : Int32) (v8 : Int32) (v9 : Int32) : Nat → Int32 → GS → Prop
  | 0, _, _ => False
  | n69 + 1, v10, G => (((G 2 5) ≤ v10 → K123 G) ∧ (¬ (G 2 5) ≤ v10 → (vp_in (v6 + v10) 78 ∧ (vp_in (v7 + v10) 78 ∧ (¬ (G 1 0) = 0 ∧ (vp_in (v6 + v10) 78 ∧ (∀ G116 : GS, G116 = wr G a5 (cl (v6 + v10)) ((((G a4 (cl (v6 + v10))) * v8) + ((G a4 (cl (v7 + v10))) * v9)) - (((G a4 (cl (v6 + v10))) * v8) + ((G a4 (cl (v7 + v10))) * v9)) / (G 1 0) * (G 1 0)) → wlX2_takeOutOf_69 K123 a4 a5 v6 v7 v8 v9 n69 (v10 + (1 : Int32)) G116)))))))
def wX2_takeOutOf (v1 : Int32) (v2 : Int32) (v3 : Int32) (G : GS) (P : GS → Prop) : Prop := (vp_in v2 7 ∧ (vp_in (v2 + (1 : Int32)) 7 ∧ (∀ x22 : Int32, x22 = (v1 * (6 : Int32)) → (∀ x28 : Int32, x28 = (v3 * (6 : Int32)) → (vp_in v2 7 ∧ (vp_in (x28 + (G 12 (cl v2))) 78 ∧ (∀ x42 : Int32, x42 = (G (38 + cl v2) (cl (x28 + (G 12 (cl v2))))) → (vp_in v2 7 ∧ (vp_in (x22 + (G 12 (cl v2))) 78 ∧ (∀ x64 : Int32, x64 = ((G 1 0) - (G (38 + cl v2) (cl (x22 + (G 12 (cl v2)))))) → (∃ z69 : Nat, wlX2_takeOutOf_69 (fun G_123 => P G_123) (38 + cl v2) (38 + cl (v2 + (1 : Int32))) x22 x28 x42 x64 z69 (0 : Int32) G)))))))))))
set_option maxHeartbeats 4000000 in
set_option maxRecDepth 100000 in
theorem lX2_takeOutOf_69 {p : Program} {l : Launch} {e : Env} {s : State} {m : MethodId} {args : Array Value} {below : List Frame} {meth : Method} {c : Code} {Q : State → Prop} {w : WE} {cs : List Nat} {A : Nat → Prop} {H0 : Heap} (C : CallFix p m c cX2_takeOutOf 11 s args wsX2_takeOutOf RX2) (hK : KW w s) (hcs : ∀ c, c < 56 → c ∈ cs) (a4 : Nat) (ha4 : 38 ≤ a4 ∧ a4 < 45) (a5 : Nat) (ha5 : 38 ≤ a5 ∧ a5 < 45) (v6 : Int32) (v7 : Int32) (v8 : Int32) (v9 : Int32) (B : BS) {K123 : GS → Prop} (k123 : ∀ (G : GS) (H : Heap) (locs : List Loc) (ls : Array Slot), K123 G → WO w cs A H0 G B H locs → lv_has ls 11 [] → W p l e (rmW 0) s m args below meth c H locs 0 0 Q (F0 m 123 ls [])) : ∀ (n : Nat) (v10 : Int32) (G : GS) (H : Heap) (locs : List Loc) (ls : Array Slot), wlX2_takeOutOf_69 K123 a4 a5 v6 v7 v8 v9 n v10 G → WO w cs A H0 G B H locs → lv_has ls 11 [(0, .ref (w.1 2)), (4, .ref (w.1 a4)), (5, .ref (w.1 a5)), (6, .int v6), (7, .int v7), (8, .int v8), (9, .int v9), (10, .int v10)] → W p l e (rmW 0) s m args below meth c H locs 0 0 Q (F0 m 69 ls []) := by
  have hx := C.1
  have hb := C.2.1
  have hown := C.2.2.2.1
  have hta := fun w h => C.2.2.2.2 w (List.mem_cons_of_mem _ h)
  intro n
  induction n with
  | zero => intro v10 G H locs ls h hw hl; exact False.elim h
  | succ n ih =>
    intro v10 G H locs ls h hw hl
    refine lv_iload hx hb dX2_takeOutOf_69 (lv_at hl 7 rfl) ?_
    refine lv_aload_n hx hb dX2_takeOutOf_71 rfl (lv_at hl 0 rfl) ?_
    refine q_get (v := .int (G 2 5)) (C := RX2) (T := TX2) (N := 11) (ci := 2) hx hb hta kw_X2 hown hK hw 2 (hcs _ (by omega)) (by unfold isB; omega) rfl rfl 5 (by decide) (hta _ kw_49) rfl rfl dX2_takeOutOf_72 ?_
    refine lv_icmp_ge (tgt := 123) hx hb dX2_takeOutOf_75 (by decide) (fun c9 => ?_) (fun c9 => ?_)
    · have h := h.1 c9
      exact k123 G _ _ _ h hw (lv_sub hl [] rfl)
    · have h := h.2 c9
      refine lv_aload hx hb dX2_takeOutOf_78 (lv_at hl 2 rfl) ?_
      refine lv_iload hx hb dX2_takeOutOf_80 (lv_at hl 3 rfl) ?_
      refine lv_iload hx hb dX2_takeOutOf_82 (lv_at hl 7 rfl) ?_
      refine lv_iadd hx hb dX2_takeOutOf_84 ?_
      refine lv_aload hx hb dX2_takeOutOf_85 (lv_at hl 1 rfl) ?_
      refine lv_iload hx hb dX2_takeOutOf_87 (lv_at hl 3 rfl) ?_
      refine lv_iload hx hb dX2_takeOutOf_89 (lv_at hl 7 rfl) ?_
      refine lv_iadd hx hb dX2_takeOutOf_91 ?_
      obtain ⟨hin10, h⟩ := h
      refine q_iald (n := 78) hx hb hK hw (hcs _ (by omega)) (isI_row (by omega) (by omega)) (ln_iv38 ha4) hin10 dX2_takeOutOf_92 ?_
      refine lv_iload hx hb dX2_takeOutOf_93 (lv_at hl 5 rfl) ?_
      refine lv_imul hx hb dX2_takeOutOf_95 ?_
      refine lv_aload hx hb dX2_takeOutOf_96 (lv_at hl 1 rfl) ?_
      refine lv_iload hx hb dX2_takeOutOf_98 (lv_at hl 4 rfl) ?_
      refine lv_iload hx hb dX2_takeOutOf_100 (lv_at hl 7 rfl) ?_
      refine lv_iadd hx hb dX2_takeOutOf_102 ?_
      obtain ⟨hin11, h⟩ := h
      refine q_iald (n := 78) hx hb hK hw (hcs _ (by omega)) (isI_row (by omega) (by omega)) (ln_iv38 ha4) hin11 dX2_takeOutOf_103 ?_
      refine lv_iload hx hb dX2_takeOutOf_104 (lv_at hl 6 rfl) ?_
      refine lv_imul hx hb dX2_takeOutOf_106 ?_
      refine lv_iadd hx hb dX2_takeOutOf_107 ?_
      refine lv_aload_n hx hb dX2_takeOutOf_108 rfl (lv_at hl 0 rfl) ?_
      refine q_get (v := .ref (w.1 1)) (C := RX2) (T := TX2) (N := 11) (ci := 2) hx hb hta kw_X2 hown hK hw 2 (hcs _ (by omega)) (by unfold isB; omega) rfl rfl 0 (by decide) (hta _ kw_50) rfl rfl dX2_takeOutOf_109 ?_
      refine q_getN (v := .int (G 1 0)) (host := RX5) (C := RX4) (T := TX4) (N := 5) (ci := 4) hx hb hta kw_X4 hown hK hw 1 (hcs _ (by omega)) (by unfold isB; omega) rfl rfl 0 (by decide) (by decide +kernel) rfl rfl dX2_takeOutOf_112 ?_
      obtain ⟨hz12, h⟩ := h
      refine lv_irem hx hb dX2_takeOutOf_115 hz12 ?_
      obtain ⟨hin13, h⟩ := h
      refine q_iast (n := 78) hx hb hK hw (hcs _ (by omega)) (isI_row (by omega) (by omega)) (ln_iv38 ha5) hin13 dX2_takeOutOf_116 (fun H locs G116 eG116 hw => ?_)
      have h := h G116 eG116
      refine lv_iinc (v := (v10 + (1 : Int32))) (lv' := [(10, .int (v10 + (1 : Int32))), (0, .ref (w.1 2)), (4, .ref (w.1 a4)), (5, .ref (w.1 a5)), (6, .int v6), (7, .int v7), (8, .int v8), (9, .int v9)]) hx hb dX2_takeOutOf_117 hl (k := 7) rfl rfl (by decide) rfl (fun ls hl => ?_)
      refine lv_goto (tgt := 69) hx hb dX2_takeOutOf_120 (by decide) ?_
      exact ih (v10 + (1 : Int32)) G116 _ _ _ h hw (lv_sub hl [1, 2, 3, 4, 5, 6, 7, 0] rfl)
set_option maxHeartbeats 4000000 in
set_option maxRecDepth 100000 in
theorem mX2_takeOutOf (l : Launch) (w : WE) (cs : List Nat) (hcs : ∀ c, c < 56 → c ∈ cs) (sz : Nat) (G : GS) (B : BS) (v1 : Int32) (v2 : Int32) (v3 : Int32) (P : GS → Prop) (h : wX2_takeOutOf v1 v2 v3 G P) : Met l yX2_takeOutOf wsX2_takeOutOf (rmW 0) (PcW w cs sz G B [.ref (w.1 2), .int v1, .int v2, .int v3]) (QV w cs sz (fun G1 B1 => P G1 ∧ B = B1)) 0 0 (AA w cs sz) := by
  refine metW (own := RX2) [.ref (w.1 2), .int v1, .int v2, .int v3] (by decide +kernel) rfl rfl (Nat.le_of_ble_eq_true rfl) ?_
  intro p e s m below meth c ls hsz C hr hK hw hl
  subst hsz
  have hx := C.1
  have hb := C.2.1
  have hown := C.2.2.2.1
  have hta := fun w h => C.2.2.2.2 w (List.mem_cons_of_mem _ h)
  have hl : lv_has ls 11 [(0, .ref (w.1 2)), (1, .int v1), (2, .int v2), (3, .int v3)] := hl
  refine lv_aload_n hx hb dX2_takeOutOf_0 rfl (lv_at hl 0 rfl) ?_
  refine q_get (v := .ref (w.1 10)) (C := RX2) (T := TX2) (N := 11) (ci := 2) hx hb hta kw_X2 hown hK hw 2 (hcs _ (by omega)) (by unfold isB; omega) rfl rfl 1 (by decide) (hta _ kw_51) rfl rfl dX2_takeOutOf_1 ?_
  refine lv_iload_n hx hb dX2_takeOutOf_4 rfl (lv_at hl 2 rfl) ?_
  obtain ⟨hin1, h⟩ := h
  have hv2 : 38 ≤ (38 + cl v2) ∧ (38 + cl v2) < 45 := vp_iv hin1
  refine q_aald (b := 38) (n := 7) hx hb hK hw (a := 10) (hcs _ (by omega)) (by unfold isO; omega) rfl rfl hin1 dX2_takeOutOf_5 ?_
  refine lv_astore (lv' := [(4, .ref (w.1 (38 + cl v2))), (0, .ref (w.1 2)), (1, .int v1), (2, .int v2), (3, .int v3)]) hx hb dX2_takeOutOf_6 hl (by decide) rfl (fun ls hl => ?_)
  refine lv_aload_n hx hb dX2_takeOutOf_8 rfl (lv_at hl 1 rfl) ?_
  refine q_get (v := .ref (w.1 10)) (C := RX2) (T := TX2) (N := 11) (ci := 2) hx hb hta kw_X2 hown hK hw 2 (hcs _ (by omega)) (by unfold isB; omega) rfl rfl 1 (by decide) (hta _ kw_51) rfl rfl dX2_takeOutOf_9 ?_
  refine lv_iload_n hx hb dX2_takeOutOf_12 rfl (lv_at hl 3 rfl) ?_
  refine lv_iconst (v := 1) hx hb dX2_takeOutOf_13 (by decide) ?_
  refine lv_iadd hx hb dX2_takeOutOf_14 ?_
  obtain ⟨hin3, h⟩ := h
  have hv4 : 38 ≤ (38 + cl (v2 + (1 : Int32))) ∧ (38 + cl (v2 + (1 : Int32))) < 45 := vp_iv hin3
  refine q_aald (b := 38) (n := 7) hx hb hK hw (a := 10) (hcs _ (by omega)) (by unfold isO; omega) rfl rfl hin3 dX2_takeOutOf_15 ?_
  refine lv_astore (lv' := [(5, .ref (w.1 (38 + cl (v2 + (1 : Int32))))), (4, .ref (w.1 (38 + cl v2))), (0, .ref (w.1 2)), (1, .int v1), (2, .int v2), (3, .int v3)]) hx hb dX2_takeOutOf_16 hl (by decide) rfl (fun ls hl => ?_)
  refine lv_iload_n hx hb dX2_takeOutOf_18 rfl (lv_at hl 3 rfl) ?_
  refine lv_bipush (v := 6) hx hb dX2_takeOutOf_19 (by decide) ?_
  refine lv_imul hx hb dX2_takeOutOf_21 ?_
  refine lv_topi (fun x22 ex22 => ?_)
  have h := h x22 ex22
  refine lv_istore (lv' := [(6, .int x22), (5, .ref (w.1 (38 + cl (v2 + (1 : Int32))))), (4, .ref (w.1 (38 + cl v2))), (0, .ref (w.1 2)), (1, .int v1), (2, .int v2), (3, .int v3)]) hx hb dX2_takeOutOf_22 hl (by decide) rfl (fun ls hl => ?_)
  refine lv_iload_n hx hb dX2_takeOutOf_24 rfl (lv_at hl 6 rfl) ?_
  refine lv_bipush (v := 6) hx hb dX2_takeOutOf_25 (by decide) ?_
  refine lv_imul hx hb dX2_takeOutOf_27 ?_
  refine lv_topi (fun x28 ex28 => ?_)
  have h := h x28 ex28
  refine lv_istore (lv' := [(7, .int x28), (6, .int x22), (5, .ref (w.1 (38 + cl (v2 + (1 : Int32))))), (4, .ref (w.1 (38 + cl v2))), (0, .ref (w.1 2)), (1, .int v1), (2, .int v2), (3, .int v3)]) hx hb dX2_takeOutOf_28 hl (by decide) rfl (fun ls hl => ?_)
  refine lv_aload hx hb dX2_takeOutOf_30 (lv_at hl 3 rfl) ?_
  refine lv_iload hx hb dX2_takeOutOf_32 (lv_at hl 0 rfl) ?_
  refine lv_aload_n hx hb dX2_takeOutOf_34 rfl (lv_at hl 4 rfl) ?_
  refine q_get (v := .ref (w.1 12)) (C := RX2) (T := TX2) (N := 11) (ci := 2) hx hb hta kw_X2 hown hK hw 2 (hcs _ (by omega)) (by unfold isB; omega) rfl rfl 3 (by decide) (hta _ kw_57) rfl rfl dX2_takeOutOf_35 ?_
  refine lv_iload_n hx hb dX2_takeOutOf_38 rfl (lv_at hl 6 rfl) ?_
  obtain ⟨hin5, h⟩ := h
  refine q_iald (n := 7) hx hb hK hw (hcs _ (by omega)) (by unfold isI; omega) rfl hin5 dX2_takeOutOf_39 ?_
  refine lv_iadd hx hb dX2_takeOutOf_40 ?_
  obtain ⟨hin6, h⟩ := h
  refine q_iald (n := 78) hx hb hK hw (hcs _ (by omega)) (isI_row (by omega) (by omega)) (ln_iv38 hv2) hin6 dX2_takeOutOf_41 ?_
  refine lv_topi (fun x42 ex42 => ?_)
  have h := h x42 ex42
  refine lv_istore (lv' := [(8, .int x42), (7, .int x28), (6, .int x22), (5, .ref (w.1 (38 + cl (v2 + (1 : Int32))))), (4, .ref (w.1 (38 + cl v2))), (0, .ref (w.1 2)), (1, .int v1), (2, .int v2), (3, .int v3)]) hx hb dX2_takeOutOf_42 hl (by decide) rfl (fun ls hl => ?_)
  refine lv_aload_n hx hb dX2_takeOutOf_44 rfl (lv_at hl 5 rfl) ?_
  refine q_get (v := .ref (w.1 1)) (C := RX2) (T := TX2) (N := 11) (ci := 2) hx hb hta kw_X2 hown hK hw 2 (hcs _ (by omega)) (by unfold isB; omega) rfl rfl 0 (by decide) (hta _ kw_50) rfl rfl dX2_takeOutOf_45 ?_
  refine q_getN (v := .int (G 1 0)) (host := RX5) (C := RX4) (T := TX4) (N := 5) (ci := 4) hx hb hta kw_X4 hown hK hw 1 (hcs _ (by omega)) (by unfold isB; omega) rfl rfl 0 (by decide) (by decide +kernel) rfl rfl dX2_takeOutOf_48 ?_
  refine lv_aload hx hb dX2_takeOutOf_51 (lv_at hl 4 rfl) ?_
  refine lv_iload hx hb dX2_takeOutOf_53 (lv_at hl 2 rfl) ?_
  refine lv_aload_n hx hb dX2_takeOutOf_55 rfl (lv_at hl 5 rfl) ?_
  refine q_get (v := .ref (w.1 12)) (C := RX2) (T := TX2) (N := 11) (ci := 2) hx hb hta kw_X2 hown hK hw 2 (hcs _ (by omega)) (by unfold isB; omega) rfl rfl 3 (by decide) (hta _ kw_57) rfl rfl dX2_takeOutOf_56 ?_
  refine lv_iload_n hx hb dX2_takeOutOf_59 rfl (lv_at hl 7 rfl) ?_
  obtain ⟨hin7, h⟩ := h
  refine q_iald (n := 7) hx hb hK hw (hcs _ (by omega)) (by unfold isI; omega) rfl hin7 dX2_takeOutOf_60 ?_
  refine lv_iadd hx hb dX2_takeOutOf_61 ?_
  obtain ⟨hin8, h⟩ := h
  refine q_iald (n := 78) hx hb hK hw (hcs _ (by omega)) (isI_row (by omega) (by omega)) (ln_iv38 hv2) hin8 dX2_takeOutOf_62 ?_
  refine lv_isub hx hb dX2_takeOutOf_63 ?_
  refine lv_topi (fun x64 ex64 => ?_)
  have h := h x64 ex64
  refine lv_istore (lv' := [(9, .int x64), (8, .int x42), (7, .int x28), (6, .int x22), (5, .ref (w.1 (38 + cl (v2 + (1 : Int32))))), (4, .ref (w.1 (38 + cl v2))), (0, .ref (w.1 2)), (1, .int v1), (2, .int v2), (3, .int v3)]) hx hb dX2_takeOutOf_64 hl (by decide) rfl (fun ls hl => ?_)
  refine lv_iconst (v := 0) hx hb dX2_takeOutOf_66 (by decide) ?_
  refine lv_istore (lv' := [(10, .int (0 : Int32)), (9, .int x64), (8, .int x42), (7, .int x28), (6, .int x22), (5, .ref (w.1 (38 + cl (v2 + (1 : Int32))))), (4, .ref (w.1 (38 + cl v2))), (0, .ref (w.1 2)), (1, .int v1), (2, .int v2), (3, .int v3)]) hx hb dX2_takeOutOf_67 hl (by decide) rfl (fun ls hl => ?_)
  obtain ⟨n69, h⟩ := h
  refine lX2_takeOutOf_69 C hK hcs (38 + cl v2) hv2 (38 + cl (v2 + (1 : Int32))) hv4 x22 x28 x42 x64 B (K123 := _) ?_ n69 (0 : Int32) G _ _ _ h hw (lv_sub hl [7, 6, 5, 4, 3, 2, 1, 0] rfl)
  · intro G_123 H locs ls h hw hl
    exact q_retv hx hb hr hw ⟨h, rfl⟩ dX2_takeOutOf_123
def wlX2_takeOut_22 (K42 : GS → Prop) (v1 : Int32) (v2 : Int32) (v3 : Int32) : Nat → Int32 → GS → Prop
  | 0, _, _ => False
  | n22 + 1, v4, G => ((v3 ≤ v4 → K42 G) ∧ (¬ v3 ≤ v4 → (wX2_takeOutOf v4 v1 v2 G (fun G33 => wlX2_takeOut_22 K42 v1 v2 v3 n22 (v4 + (1 : Int32)) G33))))
def wX2_takeOut (v1 : Int32) (v2 : Int32) (v3 : Int32) (G : GS) (P : GS → Prop) : Prop := (vp_in v1 7 ∧ (∀ G6 : GS, G6 = wr G 11 (cl v1) v2 → (wX2_firstPlace v1 v2 G6 (fun r15 => (vp_in v1 7 ∧ (∀ G18 : GS, G18 = wr G6 12 (cl v1) r15 → (∃ z22 : Nat, wlX2_takeOut_22 (fun G_42 => P G_42) v1 v2 v3 z22 (0 : Int32) G18)))))))
set_option maxHeartbeats 4000000 in
set_option maxRecDepth 100000 in
theorem lX2_takeOut_22 {p : Program} {l : Launch} {e : Env} {s : State} {m : MethodId} {args : Array Value} {below : List Frame} {meth : Method} {c : Code} {Q : State → Prop} {w : WE} {cs : List Nat} {A : Nat → Prop} {H0 : Heap} (C : CallFix p m c cX2_takeOut 5 s args wsX2_takeOut RX2) (hK : KW w s) (hcs : ∀ c, c < 56 → c ∈ cs) (v1 : Int32) (v2 : Int32) (v3 : Int32) (B : BS) {K42 : GS → Prop} (k42 : ∀ (G : GS) (H : Heap) (locs : List Loc) (ls : Array Slot), K42 G → WO w cs A H0 G B H locs → lv_has ls 5 [] → W p l e (rmW 1) s m args below meth c H locs 0 0 Q (F0 m 42 ls [])) : ∀ (n : Nat) (v4 : Int32) (G : GS) (H : Heap) (locs : List Loc) (ls : Array Slot), wlX2_takeOut_22 K42 v1 v2 v3 n v4 G → WO w cs A H0 G B H locs → lv_has ls 5 [(0, .ref (w.1 2)), (1, .int v1), (2, .int v2), (3, .int v3), (4, .int v4)] → W p l e (rmW 1) s m args below meth c H locs 0 0 Q (F0 m 22 ls []) := by
  have hx := C.1
  have hb := C.2.1
  have hown := C.2.2.2.1
  have hta := fun w h => C.2.2.2.2 w (List.mem_cons_of_mem _ h)
  intro n
  induction n with
  | zero => intro v4 G H locs ls h hw hl; exact False.elim h
  | succ n ih =>
    intro v4 G H locs ls h hw hl
    refine lv_iload hx hb dX2_takeOut_22 (lv_at hl 4 rfl) ?_
    refine lv_iload_n hx hb dX2_takeOut_24 rfl (lv_at hl 3 rfl) ?_
    refine lv_icmp_ge (tgt := 42) hx hb dX2_takeOut_25 (by decide) (fun c3 => ?_) (fun c3 => ?_)
    · have h := h.1 c3
      exact k42 G _ _ _ h hw (lv_sub hl [] rfl)
    · have h := h.2 c3
      refine lv_aload_n hx hb dX2_takeOut_28 rfl (lv_at hl 0 rfl) ?_
      refine lv_iload hx hb dX2_takeOut_29 (lv_at hl 4 rfl) ?_
      refine lv_iload_n hx hb dX2_takeOut_31 rfl (lv_at hl 1 rfl) ?_
      refine lv_iload_n hx hb dX2_takeOut_32 rfl (lv_at hl 2 rfl) ?_
      refine q_callv hw (va_runV (As := [.int v4, .int v1, .int v2]) (rest := []) C (mX2_takeOutOf l w cs (fun c h => hcs c (by omega)) _ G B v4 v1 v2 _ h) (cwV 3 hta (gVw kw_69 kw_70 kw_71 kw_56 kw_68) rfl rfl rfl (by decide +kernel) ⟨Nat.le_of_ble_eq_true rfl, Nat.le_of_ble_eq_true rfl⟩) (preV hK hw 2 (hcs _ (by omega)) (by unfold isB; omega) rfl rfl _) rfl rfl hl.1 rfl (lv_room (Nat.le_of_ble_eq_true rfl)) dX2_takeOut_33 ⟨Nat.le_refl 0, Nat.le_refl 0⟩) (fun G33 B33 H locs h hw => ?_)
      obtain ⟨h, e2⟩ := h; subst e2
      refine lv_iinc (v := (v4 + (1 : Int32))) (lv' := [(4, .int (v4 + (1 : Int32))), (0, .ref (w.1 2)), (1, .int v1), (2, .int v2), (3, .int v3)]) hx hb dX2_takeOut_36 hl (k := 4) rfl rfl (by decide) rfl (fun ls hl => ?_)
      refine lv_goto (tgt := 22) hx hb dX2_takeOut_39 (by decide) ?_
      exact ih (v4 + (1 : Int32)) G33 _ _ _ h hw (lv_sub hl [1, 2, 3, 4, 0] rfl)
set_option maxHeartbeats 4000000 in
set_option maxRecDepth 100000 in
theorem mX2_takeOut (l : Launch) (w : WE) (cs : List Nat) (hcs : ∀ c, c < 56 → c ∈ cs) (sz : Nat) (G : GS) (B : BS) (v1 : Int32) (v2 : Int32) (v3 : Int32) (P : GS → Prop) (h : wX2_takeOut v1 v2 v3 G P) : Met l yX2_takeOut wsX2_takeOut (rmW 1) (PcW w cs sz G B [.ref (w.1 2), .int v1, .int v2, .int v3]) (QV w cs sz (fun G1 B1 => P G1 ∧ B = B1)) 0 0 (AA w cs sz) := by
  refine metW (own := RX2) [.ref (w.1 2), .int v1, .int v2, .int v3] (by decide +kernel) rfl rfl (Nat.le_of_ble_eq_true rfl) ?_
  intro p e s m below meth c ls hsz C hr hK hw hl
  subst hsz
  have hx := C.1
  have hb := C.2.1
  have hown := C.2.2.2.1
  have hta := fun w h => C.2.2.2.2 w (List.mem_cons_of_mem _ h)
  have hl : lv_has ls 5 [(0, .ref (w.1 2)), (1, .int v1), (2, .int v2), (3, .int v3)] := hl
  refine lv_aload_n hx hb dX2_takeOut_0 rfl (lv_at hl 0 rfl) ?_
  refine q_get (v := .ref (w.1 11)) (C := RX2) (T := TX2) (N := 11) (ci := 2) hx hb hta kw_X2 hown hK hw 2 (hcs _ (by omega)) (by unfold isB; omega) rfl rfl 2 (by decide) (hta _ kw_60) rfl rfl dX2_takeOut_1 ?_
  refine lv_iload_n hx hb dX2_takeOut_4 rfl (lv_at hl 1 rfl) ?_
  refine lv_iload_n hx hb dX2_takeOut_5 rfl (lv_at hl 2 rfl) ?_
  obtain ⟨hin1, h⟩ := h
  refine q_iast (n := 7) hx hb hK hw (hcs _ (by omega)) (by unfold isI; omega) rfl hin1 dX2_takeOut_6 (fun H locs G6 eG6 hw => ?_)
  have h := h G6 eG6
  refine lv_aload_n hx hb dX2_takeOut_7 rfl (lv_at hl 0 rfl) ?_
  refine q_get (v := .ref (w.1 12)) (C := RX2) (T := TX2) (N := 11) (ci := 2) hx hb hta kw_X2 hown hK hw 2 (hcs _ (by omega)) (by unfold isB; omega) rfl rfl 3 (by decide) (hta _ kw_57) rfl rfl dX2_takeOut_8 ?_
  refine lv_iload_n hx hb dX2_takeOut_11 rfl (lv_at hl 1 rfl) ?_
  refine lv_aload_n hx hb dX2_takeOut_12 rfl (lv_at hl 0 rfl) ?_
  refine lv_iload_n hx hb dX2_takeOut_13 rfl (lv_at hl 1 rfl) ?_
  refine lv_iload_n hx hb dX2_takeOut_14 rfl (lv_at hl 2 rfl) ?_
  refine q_calli hw (va_runV (As := [.int v1, .int v2]) (rest := [.int v1, .ref (w.1 12)]) C (mX2_firstPlace l w cs (fun c h => hcs c (by omega)) _ G6 B v1 v2 _ h) (cwV 2 hta (gVw kw_53 kw_54 kw_55 kw_56 kw_52) rfl rfl rfl (by decide +kernel) ⟨Nat.le_of_ble_eq_true rfl, Nat.le_of_ble_eq_true rfl⟩) (preV hK hw 2 (hcs _ (by omega)) (by unfold isB; omega) rfl rfl _) rfl rfl hl.1 rfl (lv_room (Nat.le_of_ble_eq_true rfl)) dX2_takeOut_15 ⟨Nat.le_refl 0, Nat.le_refl 0⟩) (fun r15 G15 B15 H locs h hw => ?_)
  obtain ⟨h, e1, e2⟩ := h; subst e1; subst e2
  obtain ⟨hin2, h⟩ := h
  refine q_iast (n := 7) hx hb hK hw (hcs _ (by omega)) (by unfold isI; omega) rfl hin2 dX2_takeOut_18 (fun H locs G18 eG18 hw => ?_)
  have h := h G18 eG18
  refine lv_iconst (v := 0) hx hb dX2_takeOut_19 (by decide) ?_
  refine lv_istore (lv' := [(4, .int (0 : Int32)), (0, .ref (w.1 2)), (1, .int v1), (2, .int v2), (3, .int v3)]) hx hb dX2_takeOut_20 hl (by decide) rfl (fun ls hl => ?_)
  obtain ⟨n22, h⟩ := h
  refine lX2_takeOut_22 C hK hcs v1 v2 v3 B (K42 := _) ?_ n22 (0 : Int32) G18 _ _ _ h hw (lv_sub hl [1, 2, 3, 4, 0] rfl)
  · intro G_42 H locs ls h hw hl
    exact q_retv hx hb hr hw ⟨h, rfl⟩ dX2_takeOut_42
abbrev RecTX2_seekTelling : Type := Int32 → Int32 → Int32 → GS → (GS → Prop) → Prop
def RecMX2_seekTelling (l : Launch) (w : WE) (RX2_seek : RecTX2_seekTelling) (rn : Nat) : Prop := ∀ (cs : List Nat) (hcs : ∀ c, c < 56 → c ∈ cs) (sz : Nat) (G : GS) (B : BS) (v1 v2 v3 : Int32) (P : GS → Prop) (_ : RX2_seek v1 v2 v3 G P), Met l yX2_seekTelling wsX2_seekTelling (rmW rn) (PcW w cs sz G B [.ref (w.1 2), .int v1, .int v2, .int v3]) (QV w cs sz (fun G1 B1 => P G1 ∧ B = B1)) 0 0 (AA w cs sz)
def wX2_seekTellingWith (RX2_seek : RecTX2_seekTelling) (v1 : Int32) (v2 : Int32) (v3 : Int32) (G : GS) (P : GS → Prop) : Prop := (((v1 + (1 : Int32)) < (G 2 6) → (((0 : Int32) = 0 → (wX2_takeOut v1 v2 v2 G (fun G30 => (wX2_takeOutOf (12 : Int32) v1 v2 G30 (fun G38 => (RX2_seek (v1 + (1 : Int32)) v2 (v3 ||| ((1 : Int32) <<< (v2 &&& (31 : Int32)))) G38 (fun G51 => P G51))))))) ∧ (¬ (0 : Int32) = 0 → (wX2_takeOut v1 v2 (0 : Int32) G (fun G30 => (wX2_takeOutOf (12 : Int32) v1 v2 G30 (fun G38 => (RX2_seek (v1 + (1 : Int32)) v2 (v3 ||| ((1 : Int32) <<< (v2 &&& (31 : Int32)))) G38 (fun G51 => P G51))))))))) ∧ (¬ (v1 + (1 : Int32)) < (G 2 6) → (((1 : Int32) = 0 → (wX2_takeOut v1 v2 v2 G (fun G30 => (wX2_takeOutOf (12 : Int32) v1 v2 G30 (fun G38 => (RX2_seek (v1 + (1 : Int32)) v2 (v3 ||| ((1 : Int32) <<< (v2 &&& (31 : Int32)))) G38 (fun G51 => P G51))))))) ∧ (¬ (1 : Int32) = 0 → (wX2_takeOut v1 v2 (0 : Int32) G (fun G30 => (wX2_takeOutOf (12 : Int32) v1 v2 G30 (fun G38 => (RX2_seek (v1 + (1 : Int32)) v2 (v3 ||| ((1 : Int32) <<< (v2 &&& (31 : Int32)))) G38 (fun G51 => P G51))))))))))
set_option maxHeartbeats 4000000 in
set_option maxRecDepth 100000 in
theorem mX2_seekTellingWith {rn : Nat} (l : Launch) (w : WE) (cs : List Nat) (hcs : ∀ c, c < 56 → c ∈ cs) (sz : Nat) (G : GS) (B : BS) (v1 : Int32) (v2 : Int32) (v3 : Int32) (RX2_seek : RecTX2_seekTelling) (hRec : RecMX2_seekTelling l w RX2_seek rn) (hrn : 10 ≤ rn) (P : GS → Prop) (h : wX2_seekTellingWith RX2_seek v1 v2 v3 G P) : Met l yX2_seekTellingWith wsX2_seekTellingWith (rmW (rn + 1)) (PcW w cs sz G B [.ref (w.1 2), .int v1, .int v2, .int v3]) (QV w cs sz (fun G1 B1 => P G1 ∧ B = B1)) 0 0 (AA w cs sz) := by
  refine metW (own := RX2) [.ref (w.1 2), .int v1, .int v2, .int v3] (by decide +kernel) rfl rfl (Nat.le_of_ble_eq_true rfl) ?_
  intro p e s m below meth c ls hsz C hr hK hw hl
  subst hsz
  have hx := C.1
  have hb := C.2.1
  have hown := C.2.2.2.1
  have hta := fun w h => C.2.2.2.2 w (List.mem_cons_of_mem _ h)
  have hl : lv_has ls 5 [(0, .ref (w.1 2)), (1, .int v1), (2, .int v2), (3, .int v3)] := hl
  refine lv_iload_n hx hb dX2_seekTellingWith_0 rfl (lv_at hl 1 rfl) ?_
  refine lv_iconst (v := 1) hx hb dX2_seekTellingWith_1 (by decide) ?_
  refine lv_iadd hx hb dX2_seekTellingWith_2 ?_
  refine lv_aload_n hx hb dX2_seekTellingWith_3 rfl (lv_at hl 0 rfl) ?_
  refine q_get (v := .int (G 2 6)) (C := RX2) (T := TX2) (N := 11) (ci := 2) hx hb hta kw_X2 hown hK hw 2 (hcs _ (by omega)) (by unfold isB; omega) rfl rfl 6 (by decide) (hta _ kw_58) rfl rfl dX2_seekTellingWith_4 ?_
  refine lv_icmp_lt (tgt := 14) hx hb dX2_seekTellingWith_7 (by decide) (fun c1 => ?_) (fun c1 => ?_)
  · have h := h.1 c1
    refine lv_iconst (v := 0) hx hb dX2_seekTellingWith_14 (by decide) ?_
    refine lv_istore (lv' := [(4, .int (0 : Int32)), (0, .ref (w.1 2)), (1, .int v1), (2, .int v2), (3, .int v3)]) hx hb dX2_seekTellingWith_15 hl (by decide) rfl (fun ls hl => ?_)
    refine lv_aload_n hx hb dX2_seekTellingWith_17 rfl (lv_at hl 1 rfl) ?_
    refine lv_iload_n hx hb dX2_seekTellingWith_18 rfl (lv_at hl 2 rfl) ?_
    refine lv_iload_n hx hb dX2_seekTellingWith_19 rfl (lv_at hl 3 rfl) ?_
    refine lv_iload hx hb dX2_seekTellingWith_20 (lv_at hl 0 rfl) ?_
    refine lv_if_eq (tgt := 29) hx hb dX2_seekTellingWith_22 (by decide) (fun c2 => ?_) (fun c2 => ?_)
    · have h := h.1 c2
      refine lv_iload_n hx hb dX2_seekTellingWith_29 rfl (lv_at hl 3 rfl) ?_
      refine q_callv hw (va_runV (As := [.int v1, .int v2, .int v2]) (rest := []) C (mX2_takeOut l w cs (fun c h => hcs c (by omega)) _ G B v1 v2 v2 _ h) (cwV 3 hta (gVw kw_73 kw_74 kw_75 kw_56 kw_72) rfl rfl rfl (by decide +kernel) ⟨by simp only [rmW]; omega, by simp only [rmW]; omega⟩) (preV hK hw 2 (hcs _ (by omega)) (by unfold isB; omega) rfl rfl _) rfl rfl hl.1 rfl (lv_room (Nat.le_of_ble_eq_true rfl)) dX2_seekTellingWith_30 ⟨Nat.le_refl 0, Nat.le_refl 0⟩) (fun G30 B30 H locs h hw => ?_)
      obtain ⟨h, e2⟩ := h; subst e2
      refine lv_aload_n hx hb dX2_seekTellingWith_33 rfl (lv_at hl 1 rfl) ?_
      refine lv_bipush (v := 12) hx hb dX2_seekTellingWith_34 (by decide) ?_
      refine lv_iload_n hx hb dX2_seekTellingWith_36 rfl (lv_at hl 2 rfl) ?_
      refine lv_iload_n hx hb dX2_seekTellingWith_37 rfl (lv_at hl 3 rfl) ?_
      refine q_callv hw (va_runV (As := [.int (12 : Int32), .int v1, .int v2]) (rest := []) C (mX2_takeOutOf l w cs (fun c h => hcs c (by omega)) _ G30 B (12 : Int32) v1 v2 _ h) (cwV 3 hta (gVw kw_69 kw_70 kw_71 kw_56 kw_68) rfl rfl rfl (by decide +kernel) ⟨by simp only [rmW]; omega, by simp only [rmW]; omega⟩) (preV hK hw 2 (hcs _ (by omega)) (by unfold isB; omega) rfl rfl _) rfl rfl hl.1 rfl (lv_room (Nat.le_of_ble_eq_true rfl)) dX2_seekTellingWith_38 ⟨Nat.le_refl 0, Nat.le_refl 0⟩) (fun G38 B38 H locs h hw => ?_)
      obtain ⟨h, e2⟩ := h; subst e2
      refine lv_aload_n hx hb dX2_seekTellingWith_41 rfl (lv_at hl 1 rfl) ?_
      refine lv_iload_n hx hb dX2_seekTellingWith_42 rfl (lv_at hl 2 rfl) ?_
      refine lv_iconst (v := 1) hx hb dX2_seekTellingWith_43 (by decide) ?_
      refine lv_iadd hx hb dX2_seekTellingWith_44 ?_
      refine lv_iload_n hx hb dX2_seekTellingWith_45 rfl (lv_at hl 3 rfl) ?_
      refine lv_iload_n hx hb dX2_seekTellingWith_46 rfl (lv_at hl 4 rfl) ?_
      refine lv_iconst (v := 1) hx hb dX2_seekTellingWith_47 (by decide) ?_
      refine lv_iload_n hx hb dX2_seekTellingWith_48 rfl (lv_at hl 3 rfl) ?_
      refine lv_ishl hx hb dX2_seekTellingWith_49 ?_
      refine lv_ior hx hb dX2_seekTellingWith_50 ?_
      refine q_callv hw (va_runV (As := [.int (v1 + (1 : Int32)), .int v2, .int (v3 ||| ((1 : Int32) <<< (v2 &&& (31 : Int32))))]) (rest := []) C (hRec cs hcs _ G38 B (v1 + (1 : Int32)) v2 (v3 ||| ((1 : Int32) <<< (v2 &&& (31 : Int32)))) _ h) (cwV 3 hta (gVw kw_77 kw_78 kw_79 kw_56 kw_76) rfl rfl rfl (by decide +kernel) ⟨by simp only [rmW]; omega, by simp only [rmW]; omega⟩) (preV hK hw 2 (hcs _ (by omega)) (by unfold isB; omega) rfl rfl _) rfl rfl hl.1 rfl (lv_room (Nat.le_of_ble_eq_true rfl)) dX2_seekTellingWith_51 ⟨Nat.le_refl 0, Nat.le_refl 0⟩) (fun G51 B51 H locs h hw => ?_)
      obtain ⟨h, e2⟩ := h; subst e2
      exact q_retv hx hb hr hw ⟨h, rfl⟩ dX2_seekTellingWith_54
    · have h := h.2 c2
      refine lv_iconst (v := 0) hx hb dX2_seekTellingWith_25 (by decide) ?_
      refine lv_goto (tgt := 30) hx hb dX2_seekTellingWith_26 (by decide) ?_
      refine q_callv hw (va_runV (As := [.int v1, .int v2, .int (0 : Int32)]) (rest := []) C (mX2_takeOut l w cs (fun c h => hcs c (by omega)) _ G B v1 v2 (0 : Int32) _ h) (cwV 3 hta (gVw kw_73 kw_74 kw_75 kw_56 kw_72) rfl rfl rfl (by decide +kernel) ⟨by simp only [rmW]; omega, by simp only [rmW]; omega⟩) (preV hK hw 2 (hcs _ (by omega)) (by unfold isB; omega) rfl rfl _) rfl rfl hl.1 rfl (lv_room (Nat.le_of_ble_eq_true rfl)) dX2_seekTellingWith_30 ⟨Nat.le_refl 0, Nat.le_refl 0⟩) (fun G30 B30 H locs h hw => ?_)
      obtain ⟨h, e2⟩ := h; subst e2
      refine lv_aload_n hx hb dX2_seekTellingWith_33 rfl (lv_at hl 1 rfl) ?_
      refine lv_bipush (v := 12) hx hb dX2_seekTellingWith_34 (by decide) ?_
      refine lv_iload_n hx hb dX2_seekTellingWith_36 rfl (lv_at hl 2 rfl) ?_
      refine lv_iload_n hx hb dX2_seekTellingWith_37 rfl (lv_at hl 3 rfl) ?_
      refine q_callv hw (va_runV (As := [.int (12 : Int32), .int v1, .int v2]) (rest := []) C (mX2_takeOutOf l w cs (fun c h => hcs c (by omega)) _ G30 B (12 : Int32) v1 v2 _ h) (cwV 3 hta (gVw kw_69 kw_70 kw_71 kw_56 kw_68) rfl rfl rfl (by decide +kernel) ⟨by simp only [rmW]; omega, by simp only [rmW]; omega⟩) (preV hK hw 2 (hcs _ (by omega)) (by unfold isB; omega) rfl rfl _) rfl rfl hl.1 rfl (lv_room (Nat.le_of_ble_eq_true rfl)) dX2_seekTellingWith_38 ⟨Nat.le_refl 0, Nat.le_refl 0⟩) (fun G38 B38 H locs h hw => ?_)
      obtain ⟨h, e2⟩ := h; subst e2
      refine lv_aload_n hx hb dX2_seekTellingWith_41 rfl (lv_at hl 1 rfl) ?_
      refine lv_iload_n hx hb dX2_seekTellingWith_42 rfl (lv_at hl 2 rfl) ?_
      refine lv_iconst (v := 1) hx hb dX2_seekTellingWith_43 (by decide) ?_
      refine lv_iadd hx hb dX2_seekTellingWith_44 ?_
      refine lv_iload_n hx hb dX2_seekTellingWith_45 rfl (lv_at hl 3 rfl) ?_
      refine lv_iload_n hx hb dX2_seekTellingWith_46 rfl (lv_at hl 4 rfl) ?_
      refine lv_iconst (v := 1) hx hb dX2_seekTellingWith_47 (by decide) ?_
      refine lv_iload_n hx hb dX2_seekTellingWith_48 rfl (lv_at hl 3 rfl) ?_
      refine lv_ishl hx hb dX2_seekTellingWith_49 ?_
      refine lv_ior hx hb dX2_seekTellingWith_50 ?_
      refine q_callv hw (va_runV (As := [.int (v1 + (1 : Int32)), .int v2, .int (v3 ||| ((1 : Int32) <<< (v2 &&& (31 : Int32))))]) (rest := []) C (hRec cs hcs _ G38 B (v1 + (1 : Int32)) v2 (v3 ||| ((1 : Int32) <<< (v2 &&& (31 : Int32)))) _ h) (cwV 3 hta (gVw kw_77 kw_78 kw_79 kw_56 kw_76) rfl rfl rfl (by decide +kernel) ⟨by simp only [rmW]; omega, by simp only [rmW]; omega⟩) (preV hK hw 2 (hcs _ (by omega)) (by unfold isB; omega) rfl rfl _) rfl rfl hl.1 rfl (lv_room (Nat.le_of_ble_eq_true rfl)) dX2_seekTellingWith_51 ⟨Nat.le_refl 0, Nat.le_refl 0⟩) (fun G51 B51 H locs h hw => ?_)
      obtain ⟨h, e2⟩ := h; subst e2
      exact q_retv hx hb hr hw ⟨h, rfl⟩ dX2_seekTellingWith_54
  · have h := h.2 c1
    refine lv_iconst (v := 1) hx hb dX2_seekTellingWith_10 (by decide) ?_
    refine lv_goto (tgt := 15) hx hb dX2_seekTellingWith_11 (by decide) ?_
    refine lv_istore (lv' := [(4, .int (1 : Int32)), (0, .ref (w.1 2)), (1, .int v1), (2, .int v2), (3, .int v3)]) hx hb dX2_seekTellingWith_15 hl (by decide) rfl (fun ls hl => ?_)
    refine lv_aload_n hx hb dX2_seekTellingWith_17 rfl (lv_at hl 1 rfl) ?_
    refine lv_iload_n hx hb dX2_seekTellingWith_18 rfl (lv_at hl 2 rfl) ?_
    refine lv_iload_n hx hb dX2_seekTellingWith_19 rfl (lv_at hl 3 rfl) ?_
    refine lv_iload hx hb dX2_seekTellingWith_20 (lv_at hl 0 rfl) ?_
    refine lv_if_eq (tgt := 29) hx hb dX2_seekTellingWith_22 (by decide) (fun c3 => ?_) (fun c3 => ?_)
    · have h := h.1 c3
      refine lv_iload_n hx hb dX2_seekTellingWith_29 rfl (lv_at hl 3 rfl) ?_
      refine q_callv hw (va_runV (As := [.int v1, .int v2, .int v2]) (rest := []) C (mX2_takeOut l w cs (fun c h => hcs c (by omega)) _ G B v1 v2 v2 _ h) (cwV 3 hta (gVw kw_73 kw_74 kw_75 kw_56 kw_72) rfl rfl rfl (by decide +kernel) ⟨by simp only [rmW]; omega, by simp only [rmW]; omega⟩) (preV hK hw 2 (hcs _ (by omega)) (by unfold isB; omega) rfl rfl _) rfl rfl hl.1 rfl (lv_room (Nat.le_of_ble_eq_true rfl)) dX2_seekTellingWith_30 ⟨Nat.le_refl 0, Nat.le_refl 0⟩) (fun G30 B30 H locs h hw => ?_)
      obtain ⟨h, e2⟩ := h; subst e2
      refine lv_aload_n hx hb dX2_seekTellingWith_33 rfl (lv_at hl 1 rfl) ?_
      refine lv_bipush (v := 12) hx hb dX2_seekTellingWith_34 (by decide) ?_
      refine lv_iload_n hx hb dX2_seekTellingWith_36 rfl (lv_at hl 2 rfl) ?_
      refine lv_iload_n hx hb dX2_seekTellingWith_37 rfl (lv_at hl 3 rfl) ?_
      refine q_callv hw (va_runV (As := [.int (12 : Int32), .int v1, .int v2]) (rest := []) C (mX2_takeOutOf l w cs (fun c h => hcs c (by omega)) _ G30 B (12 : Int32) v1 v2 _ h) (cwV 3 hta (gVw kw_69 kw_70 kw_71 kw_56 kw_68) rfl rfl rfl (by decide +kernel) ⟨by simp only [rmW]; omega, by simp only [rmW]; omega⟩) (preV hK hw 2 (hcs _ (by omega)) (by unfold isB; omega) rfl rfl _) rfl rfl hl.1 rfl (lv_room (Nat.le_of_ble_eq_true rfl)) dX2_seekTellingWith_38 ⟨Nat.le_refl 0, Nat.le_refl 0⟩) (fun G38 B38 H locs h hw => ?_)
      obtain ⟨h, e2⟩ := h; subst e2
      refine lv_aload_n hx hb dX2_seekTellingWith_41 rfl (lv_at hl 1 rfl) ?_
      refine lv_iload_n hx hb dX2_seekTellingWith_42 rfl (lv_at hl 2 rfl) ?_
      refine lv_iconst (v := 1) hx hb dX2_seekTellingWith_43 (by decide) ?_
      refine lv_iadd hx hb dX2_seekTellingWith_44 ?_
      refine lv_iload_n hx hb dX2_seekTellingWith_45 rfl (lv_at hl 3 rfl) ?_
      refine lv_iload_n hx hb dX2_seekTellingWith_46 rfl (lv_at hl 4 rfl) ?_
      refine lv_iconst (v := 1) hx hb dX2_seekTellingWith_47 (by decide) ?_
      refine lv_iload_n hx hb dX2_seekTellingWith_48 rfl (lv_at hl 3 rfl) ?_
      refine lv_ishl hx hb dX2_seekTellingWith_49 ?_
      refine lv_ior hx hb dX2_seekTellingWith_50 ?_
      refine q_callv hw (va_runV (As := [.int (v1 + (1 : Int32)), .int v2, .int (v3 ||| ((1 : Int32) <<< (v2 &&& (31 : Int32))))]) (rest := []) C (hRec cs hcs _ G38 B (v1 + (1 : Int32)) v2 (v3 ||| ((1 : Int32) <<< (v2 &&& (31 : Int32)))) _ h) (cwV 3 hta (gVw kw_77 kw_78 kw_79 kw_56 kw_76) rfl rfl rfl (by decide +kernel) ⟨by simp only [rmW]; omega, by simp only [rmW]; omega⟩) (preV hK hw 2 (hcs _ (by omega)) (by unfold isB; omega) rfl rfl _) rfl rfl hl.1 rfl (lv_room (Nat.le_of_ble_eq_true rfl)) dX2_seekTellingWith_51 ⟨Nat.le_refl 0, Nat.le_refl 0⟩) (fun G51 B51 H locs h hw => ?_)
      obtain ⟨h, e2⟩ := h; subst e2
      exact q_retv hx hb hr hw ⟨h, rfl⟩ dX2_seekTellingWith_54
    · have h := h.2 c3
      refine lv_iconst (v := 0) hx hb dX2_seekTellingWith_25 (by decide) ?_
      refine lv_goto (tgt := 30) hx hb dX2_seekTellingWith_26 (by decide) ?_
      refine q_callv hw (va_runV (As := [.int v1, .int v2, .int (0 : Int32)]) (rest := []) C (mX2_takeOut l w cs (fun c h => hcs c (by omega)) _ G B v1 v2 (0 : Int32) _ h) (cwV 3 hta (gVw kw_73 kw_74 kw_75 kw_56 kw_72) rfl rfl rfl (by decide +kernel) ⟨by simp only [rmW]; omega, by simp only [rmW]; omega⟩) (preV hK hw 2 (hcs _ (by omega)) (by unfold isB; omega) rfl rfl _) rfl rfl hl.1 rfl (lv_room (Nat.le_of_ble_eq_true rfl)) dX2_seekTellingWith_30 ⟨Nat.le_refl 0, Nat.le_refl 0⟩) (fun G30 B30 H locs h hw => ?_)
      obtain ⟨h, e2⟩ := h; subst e2
      refine lv_aload_n hx hb dX2_seekTellingWith_33 rfl (lv_at hl 1 rfl) ?_
      refine lv_bipush (v := 12) hx hb dX2_seekTellingWith_34 (by decide) ?_
      refine lv_iload_n hx hb dX2_seekTellingWith_36 rfl (lv_at hl 2 rfl) ?_
      refine lv_iload_n hx hb dX2_seekTellingWith_37 rfl (lv_at hl 3 rfl) ?_
      refine q_callv hw (va_runV (As := [.int (12 : Int32), .int v1, .int v2]) (rest := []) C (mX2_takeOutOf l w cs (fun c h => hcs c (by omega)) _ G30 B (12 : Int32) v1 v2 _ h) (cwV 3 hta (gVw kw_69 kw_70 kw_71 kw_56 kw_68) rfl rfl rfl (by decide +kernel) ⟨by simp only [rmW]; omega, by simp only [rmW]; omega⟩) (preV hK hw 2 (hcs _ (by omega)) (by unfold isB; omega) rfl rfl _) rfl rfl hl.1 rfl (lv_room (Nat.le_of_ble_eq_true rfl)) dX2_seekTellingWith_38 ⟨Nat.le_refl 0, Nat.le_refl 0⟩) (fun G38 B38 H locs h hw => ?_)
      obtain ⟨h, e2⟩ := h; subst e2
      refine lv_aload_n hx hb dX2_seekTellingWith_41 rfl (lv_at hl 1 rfl) ?_
      refine lv_iload_n hx hb dX2_seekTellingWith_42 rfl (lv_at hl 2 rfl) ?_
      refine lv_iconst (v := 1) hx hb dX2_seekTellingWith_43 (by decide) ?_
      refine lv_iadd hx hb dX2_seekTellingWith_44 ?_
      refine lv_iload_n hx hb dX2_seekTellingWith_45 rfl (lv_at hl 3 rfl) ?_
      refine lv_iload_n hx hb dX2_seekTellingWith_46 rfl (lv_at hl 4 rfl) ?_
      refine lv_iconst (v := 1) hx hb dX2_seekTellingWith_47 (by decide) ?_
      refine lv_iload_n hx hb dX2_seekTellingWith_48 rfl (lv_at hl 3 rfl) ?_
      refine lv_ishl hx hb dX2_seekTellingWith_49 ?_
      refine lv_ior hx hb dX2_seekTellingWith_50 ?_
      refine q_callv hw (va_runV (As := [.int (v1 + (1 : Int32)), .int v2, .int (v3 ||| ((1 : Int32) <<< (v2 &&& (31 : Int32))))]) (rest := []) C (hRec cs hcs _ G38 B (v1 + (1 : Int32)) v2 (v3 ||| ((1 : Int32) <<< (v2 &&& (31 : Int32)))) _ h) (cwV 3 hta (gVw kw_77 kw_78 kw_79 kw_56 kw_76) rfl rfl rfl (by decide +kernel) ⟨by simp only [rmW]; omega, by simp only [rmW]; omega⟩) (preV hK hw 2 (hcs _ (by omega)) (by unfold isB; omega) rfl rfl _) rfl rfl hl.1 rfl (lv_room (Nat.le_of_ble_eq_true rfl)) dX2_seekTellingWith_51 ⟨Nat.le_refl 0, Nat.le_refl 0⟩) (fun G51 B51 H locs h hw => ?_)
      obtain ⟨h, e2⟩ := h; subst e2
      exact q_retv hx hb hr hw ⟨h, rfl⟩ dX2_seekTellingWith_54
def wlX2_seekTelling_45 (RX2_seek : RecTX2_seekTelling) (K86 : GS → Prop) (v1 : Int32) (v2 : Int32) (v3 : Int32) : Nat → Int32 → GS → Prop
  | 0, _, _ => False
  | n45 + 1, v5, G => ((v2 ≤ v5 → K86 G) ∧ (¬ v2 ≤ v5 → (((G 2 7) ≤ (G 2 8) → K86 G) ∧ (¬ (G 2 7) ≤ (G 2 8) → (wX2_isNought v1 v5 G (fun r66 => ((¬ r66 = 0 → wlX2_seekTelling_45 RX2_seek K86 v1 v2 v3 n45 (v5 + (1 : Int32)) G) ∧ (r66 = 0 → (wX2_seekTellingWith RX2_seek v1 v5 v3 G (fun G77 => wlX2_seekTelling_45 RX2_seek K86 v1 v2 v3 n45 (v5 + (1 : Int32)) G77))))))))))
def wX2_seekTellingB (RX2_seek : RecTX2_seekTelling) (v1 : Int32) (v2 : Int32) (v3 : Int32) (G : GS) (P : GS → Prop) : Prop := ((v1 < (G 2 6) → ((v1 < (6 : Int32) → (∀ x39 : Int32, x39 = (((G 2 6) - v1) - (1 : Int32)) → (∃ z45 : Nat, wlX2_seekTelling_45 RX2_seek (fun G_86 => P G_86) v1 v2 v3 z45 x39 G))) ∧ (¬ v1 < (6 : Int32) → P G))) ∧ (¬ v1 < (G 2 6) → (wX2_isNought v1 (12 : Int32) G (fun r12 => ((r12 = 0 → P G) ∧ (¬ r12 = 0 → (wX2_noteTelling v3 G (fun G20 => P G20))))))))
set_option maxHeartbeats 4000000 in
set_option maxRecDepth 100000 in
theorem lX2_seekTelling_45 {p : Program} {l : Launch} {e : Env} {s : State} {m : MethodId} {args : Array Value} {below : List Frame} {meth : Method} {c : Code} {Q : State → Prop} {w : WE} {cs : List Nat} {A : Nat → Prop} {H0 : Heap} {rn : Nat} {RX2_seek : RecTX2_seekTelling} (C : CallFix p m c cX2_seekTelling 6 s args wsX2_seekTelling RX2) (hK : KW w s) (hcs : ∀ c, c < 56 → c ∈ cs) (hRec : RecMX2_seekTelling l w RX2_seek rn) (hrn : 10 ≤ rn) (v1 : Int32) (v2 : Int32) (v3 : Int32) (B : BS) {K86 : GS → Prop} (k86 : ∀ (G : GS) (H : Heap) (locs : List Loc) (ls : Array Slot), K86 G → WO w cs A H0 G B H locs → lv_has ls 6 [] → W p l e (rmW (rn + 2)) s m args below meth c H locs 0 0 Q (F0 m 86 ls [])) : ∀ (n : Nat) (v5 : Int32) (G : GS) (H : Heap) (locs : List Loc) (ls : Array Slot), wlX2_seekTelling_45 RX2_seek K86 v1 v2 v3 n v5 G → WO w cs A H0 G B H locs → lv_has ls 6 [(0, .ref (w.1 2)), (1, .int v1), (2, .int v2), (3, .int v3), (5, .int v5)] → W p l e (rmW (rn + 2)) s m args below meth c H locs 0 0 Q (F0 m 45 ls []) := by
  have hx := C.1
  have hb := C.2.1
  have hown := C.2.2.2.1
  have hta := fun w h => C.2.2.2.2 w (List.mem_cons_of_mem _ h)
  intro n
  induction n with
  | zero => intro v5 G H locs ls h hw hl; exact False.elim h
  | succ n ih =>
    intro v5 G H locs ls h hw hl
    refine lv_iload hx hb dX2_seekTelling_45 (lv_at hl 4 rfl) ?_
    refine lv_iload_n hx hb dX2_seekTelling_47 rfl (lv_at hl 2 rfl) ?_
    refine lv_icmp_ge (tgt := 86) hx hb dX2_seekTelling_48 (by decide) (fun c3 => ?_) (fun c3 => ?_)
    · have h := h.1 c3
      exact k86 G _ _ _ h hw (lv_sub hl [] rfl)
    · have h := h.2 c3
      refine lv_aload_n hx hb dX2_seekTelling_51 rfl (lv_at hl 0 rfl) ?_
      refine q_get (v := .int (G 2 8)) (C := RX2) (T := TX2) (N := 11) (ci := 2) hx hb hta kw_X2 hown hK hw 2 (hcs _ (by omega)) (by unfold isB; omega) rfl rfl 8 (by decide) (hta _ kw_62) rfl rfl dX2_seekTelling_52 ?_
      refine lv_aload_n hx hb dX2_seekTelling_55 rfl (lv_at hl 0 rfl) ?_
      refine q_get (v := .int (G 2 7)) (C := RX2) (T := TX2) (N := 11) (ci := 2) hx hb hta kw_X2 hown hK hw 2 (hcs _ (by omega)) (by unfold isB; omega) rfl rfl 7 (by decide) (hta _ kw_80) rfl rfl dX2_seekTelling_56 ?_
      refine lv_icmp_ge (tgt := 86) hx hb dX2_seekTelling_59 (by decide) (fun c4 => ?_) (fun c4 => ?_)
      · have h := h.1 c4
        exact k86 G _ _ _ h hw (lv_sub hl [] rfl)
      · have h := h.2 c4
        refine lv_aload_n hx hb dX2_seekTelling_62 rfl (lv_at hl 0 rfl) ?_
        refine lv_iload_n hx hb dX2_seekTelling_63 rfl (lv_at hl 1 rfl) ?_
        refine lv_iload hx hb dX2_seekTelling_64 (lv_at hl 4 rfl) ?_
        refine q_calli hw (va_runV (As := [.int v1, .int v5]) (rest := []) C (mX2_isNought l w cs (fun c h => hcs c (by omega)) _ G B v1 v5 _ h) (cwV 2 hta (gVw kw_82 kw_83 kw_84 kw_56 kw_81) rfl rfl rfl (by decide +kernel) ⟨by simp only [rmW]; omega, by simp only [rmW]; omega⟩) (preV hK hw 2 (hcs _ (by omega)) (by unfold isB; omega) rfl rfl _) rfl rfl hl.1 rfl (lv_room (Nat.le_of_ble_eq_true rfl)) dX2_seekTelling_66 ⟨Nat.le_refl 0, Nat.le_refl 0⟩) (fun r66 G66 B66 H locs h hw => ?_)
        obtain ⟨h, e1, e2⟩ := h; subst e1; subst e2
        refine lv_if_ne (tgt := 80) hx hb dX2_seekTelling_69 (by decide) (fun c5 => ?_) (fun c5 => ?_)
        · have h := h.1 c5
          refine lv_iinc (v := (v5 + (1 : Int32))) (lv' := [(5, .int (v5 + (1 : Int32))), (0, .ref (w.1 2)), (1, .int v1), (2, .int v2), (3, .int v3)]) hx hb dX2_seekTelling_80 hl (k := 4) rfl rfl (by decide) rfl (fun ls hl => ?_)
          refine lv_goto (tgt := 45) hx hb dX2_seekTelling_83 (by decide) ?_
          exact ih (v5 + (1 : Int32)) G _ _ _ h hw (lv_sub hl [1, 2, 3, 4, 0] rfl)
        · have h := h.2 c5
          refine lv_aload_n hx hb dX2_seekTelling_72 rfl (lv_at hl 0 rfl) ?_
          refine lv_iload_n hx hb dX2_seekTelling_73 rfl (lv_at hl 1 rfl) ?_
          refine lv_iload hx hb dX2_seekTelling_74 (lv_at hl 4 rfl) ?_
          refine lv_iload_n hx hb dX2_seekTelling_76 rfl (lv_at hl 3 rfl) ?_
          refine q_callv hw (va_runV (As := [.int v1, .int v5, .int v3]) (rest := []) C (mX2_seekTellingWith l w cs hcs _ G B v1 v5 v3 RX2_seek hRec hrn _ h) (cwV 3 hta (gVw kw_86 kw_87 kw_88 kw_56 kw_85) rfl rfl rfl (by decide +kernel) ⟨by simp only [rmW]; omega, by simp only [rmW]; omega⟩) (preV hK hw 2 (hcs _ (by omega)) (by unfold isB; omega) rfl rfl _) rfl rfl hl.1 rfl (lv_room (Nat.le_of_ble_eq_true rfl)) dX2_seekTelling_77 ⟨Nat.le_refl 0, Nat.le_refl 0⟩) (fun G77 B77 H locs h hw => ?_)
          obtain ⟨h, e2⟩ := h; subst e2
          refine lv_iinc (v := (v5 + (1 : Int32))) (lv' := [(5, .int (v5 + (1 : Int32))), (0, .ref (w.1 2)), (1, .int v1), (2, .int v2), (3, .int v3)]) hx hb dX2_seekTelling_80 hl (k := 4) rfl rfl (by decide) rfl (fun ls hl => ?_)
          refine lv_goto (tgt := 45) hx hb dX2_seekTelling_83 (by decide) ?_
          exact ih (v5 + (1 : Int32)) G77 _ _ _ h hw (lv_sub hl [1, 2, 3, 4, 0] rfl)
set_option maxHeartbeats 4000000 in
set_option maxRecDepth 100000 in
theorem mX2_seekTellingB {rn : Nat} (l : Launch) (w : WE) (cs : List Nat) (hcs : ∀ c, c < 56 → c ∈ cs) (sz : Nat) (G : GS) (B : BS) (v1 : Int32) (v2 : Int32) (v3 : Int32) (RX2_seek : RecTX2_seekTelling) (hRec : RecMX2_seekTelling l w RX2_seek rn) (hrn : 10 ≤ rn) (P : GS → Prop) (h : wX2_seekTellingB RX2_seek v1 v2 v3 G P) : Met l yX2_seekTelling wsX2_seekTelling (rmW (rn + 2)) (PcW w cs sz G B [.ref (w.1 2), .int v1, .int v2, .int v3]) (QV w cs sz (fun G1 B1 => P G1 ∧ B = B1)) 0 0 (AA w cs sz) := by
  refine metW (own := RX2) [.ref (w.1 2), .int v1, .int v2, .int v3] (by decide +kernel) rfl rfl (Nat.le_of_ble_eq_true rfl) ?_
  intro p e s m below meth c ls hsz C hr hK hw hl
  subst hsz
  have hx := C.1
  have hb := C.2.1
  have hown := C.2.2.2.1
  have hta := fun w h => C.2.2.2.2 w (List.mem_cons_of_mem _ h)
  have hl : lv_has ls 6 [(0, .ref (w.1 2)), (1, .int v1), (2, .int v2), (3, .int v3)] := hl
  refine lv_iload_n hx hb dX2_seekTelling_0 rfl (lv_at hl 1 rfl) ?_
  refine lv_aload_n hx hb dX2_seekTelling_1 rfl (lv_at hl 0 rfl) ?_
  refine q_get (v := .int (G 2 6)) (C := RX2) (T := TX2) (N := 11) (ci := 2) hx hb hta kw_X2 hown hK hw 2 (hcs _ (by omega)) (by unfold isB; omega) rfl rfl 6 (by decide) (hta _ kw_58) rfl rfl dX2_seekTelling_2 ?_
  refine lv_icmp_lt (tgt := 24) hx hb dX2_seekTelling_5 (by decide) (fun c1 => ?_) (fun c1 => ?_)
  · have h := h.1 c1
    refine lv_iload_n hx hb dX2_seekTelling_24 rfl (lv_at hl 1 rfl) ?_
    refine lv_bipush (v := 6) hx hb dX2_seekTelling_25 (by decide) ?_
    refine lv_icmp_lt (tgt := 31) hx hb dX2_seekTelling_27 (by decide) (fun c2 => ?_) (fun c2 => ?_)
    · have h := h.1 c2
      refine lv_aload_n hx hb dX2_seekTelling_31 rfl (lv_at hl 0 rfl) ?_
      refine q_get (v := .int (G 2 6)) (C := RX2) (T := TX2) (N := 11) (ci := 2) hx hb hta kw_X2 hown hK hw 2 (hcs _ (by omega)) (by unfold isB; omega) rfl rfl 6 (by decide) (hta _ kw_58) rfl rfl dX2_seekTelling_32 ?_
      refine lv_iload_n hx hb dX2_seekTelling_35 rfl (lv_at hl 1 rfl) ?_
      refine lv_isub hx hb dX2_seekTelling_36 ?_
      refine lv_iconst (v := 1) hx hb dX2_seekTelling_37 (by decide) ?_
      refine lv_isub hx hb dX2_seekTelling_38 ?_
      refine lv_topi (fun x39 ex39 => ?_)
      have h := h x39 ex39
      refine lv_istore (lv' := [(4, .int x39), (0, .ref (w.1 2)), (1, .int v1), (2, .int v2), (3, .int v3)]) hx hb dX2_seekTelling_39 hl (by decide) rfl (fun ls hl => ?_)
      refine lv_iload hx hb dX2_seekTelling_41 (lv_at hl 0 rfl) ?_
      refine lv_istore (lv' := [(5, .int x39), (4, .int x39), (0, .ref (w.1 2)), (1, .int v1), (2, .int v2), (3, .int v3)]) hx hb dX2_seekTelling_43 hl (by decide) rfl (fun ls hl => ?_)
      obtain ⟨n45, h⟩ := h
      refine lX2_seekTelling_45 C hK hcs hRec hrn v1 v2 v3 B (K86 := _) ?_ n45 x39 G _ _ _ h hw (lv_sub hl [2, 3, 4, 5, 0] rfl)
      · intro G_86 H locs ls h hw hl
        exact q_retv hx hb hr hw ⟨h, rfl⟩ dX2_seekTelling_86
    · have h := h.2 c2
      exact q_retv hx hb hr hw ⟨h, rfl⟩ dX2_seekTelling_30
  · have h := h.2 c1
    refine lv_aload_n hx hb dX2_seekTelling_8 rfl (lv_at hl 0 rfl) ?_
    refine lv_iload_n hx hb dX2_seekTelling_9 rfl (lv_at hl 1 rfl) ?_
    refine lv_bipush (v := 12) hx hb dX2_seekTelling_10 (by decide) ?_
    refine q_calli hw (va_runV (As := [.int v1, .int (12 : Int32)]) (rest := []) C (mX2_isNought l w cs (fun c h => hcs c (by omega)) _ G B v1 (12 : Int32) _ h) (cwV 2 hta (gVw kw_82 kw_83 kw_84 kw_56 kw_81) rfl rfl rfl (by decide +kernel) ⟨by simp only [rmW]; omega, by simp only [rmW]; omega⟩) (preV hK hw 2 (hcs _ (by omega)) (by unfold isB; omega) rfl rfl _) rfl rfl hl.1 rfl (lv_room (Nat.le_of_ble_eq_true rfl)) dX2_seekTelling_12 ⟨Nat.le_refl 0, Nat.le_refl 0⟩) (fun r12 G12 B12 H locs h hw => ?_)
    obtain ⟨h, e1, e2⟩ := h; subst e1; subst e2
    refine lv_if_eq (tgt := 23) hx hb dX2_seekTelling_15 (by decide) (fun c6 => ?_) (fun c6 => ?_)
    · have h := h.1 c6
      exact q_retv hx hb hr hw ⟨h, rfl⟩ dX2_seekTelling_23
    · have h := h.2 c6
      refine lv_aload_n hx hb dX2_seekTelling_18 rfl (lv_at hl 0 rfl) ?_
      refine lv_iload_n hx hb dX2_seekTelling_19 rfl (lv_at hl 3 rfl) ?_
      refine q_callv hw (va_runV (As := [.int v3]) (rest := []) C (mX2_noteTelling l w cs (fun c h => hcs c (by omega)) _ G B v3 _ h) (cwV 1 hta (gVw kw_90 kw_91 kw_92 kw_56 kw_89) rfl rfl rfl (by decide +kernel) ⟨by simp only [rmW]; omega, by simp only [rmW]; omega⟩) (preV hK hw 2 (hcs _ (by omega)) (by unfold isB; omega) rfl rfl _) rfl rfl hl.1 rfl (lv_room (Nat.le_of_ble_eq_true rfl)) dX2_seekTelling_20 ⟨Nat.le_refl 0, Nat.le_refl 0⟩) (fun G20 B20 H locs h hw => ?_)
      obtain ⟨h, e2⟩ := h; subst e2
      exact q_retv hx hb hr hw ⟨h, rfl⟩ dX2_seekTelling_23
def wX2_seekTelling : Nat → RecTX2_seekTelling
  | 0 => fun _ _ _ _ _ => False
  | n + 1 => wX2_seekTellingB (wX2_seekTelling n)
theorem mX2_seekTellingR (l : Launch) (w : WE) : ∀ n : Nat, RecMX2_seekTelling l w (wX2_seekTelling n) (10 + 2 * n)
  | 0 => fun cs hcs sz G B v1 v2 v3 P h => False.elim h
  | n + 1 => fun cs hcs sz G B v1 v2 v3 P h => mX2_seekTellingB l w cs hcs sz G B v1 v2 v3 (wX2_seekTelling n) (mX2_seekTellingR l w n) (by omega) P h
theorem mX2_seekTellingN (l : Launch) (w : WE) (cs : List Nat) (hcs : ∀ c, c < 56 → c ∈ cs) (sz : Nat) (G : GS) (B : BS) (v1 v2 v3 : Int32) (P : GS → Prop) (h : wX2_seekTelling 8 v1 v2 v3 G P) : Met l yX2_seekTelling wsX2_seekTelling (rmW 26) (PcW w cs sz G B [.ref (w.1 2), .int v1, .int v2, .int v3]) (QV w cs sz (fun G1 B1 => P G1 ∧ B = B1)) 0 0 (AA w cs sz) := mX2_seekTellingR l w 8 cs hcs sz G B v1 v2 v3 P h
def wX2_waysToTell (a1 : Nat) (v2 : Int32) (v3 : Int32) (v4 : Int32) (G : GS) (P : Int32 → GS → Prop) : Prop := (wX2_loadColumns v2 G (fun G2 => (wX2_loadSums a1 v2 G2 (fun G8 => (∀ G13 : GS, G13 = wr G8 2 6 v3 → (∀ G19 : GS, G19 = wr G13 2 7 v4 → (∀ G24 : GS, G24 = wr G19 2 8 (0 : Int32) → (wX2_seekTelling 8 (0 : Int32) (G24 1 2) (0 : Int32) G24 (fun G37 => P (G37 2 8) G37)))))))))
set_option maxHeartbeats 4000000 in
set_option maxRecDepth 100000 in
theorem mX2_waysToTell (l : Launch) (w : WE) (cs : List Nat) (hcs : ∀ c, c < 56 → c ∈ cs) (sz : Nat) (G : GS) (B : BS) (a1 : Nat) (ha1I : isI a1) (ha1C : a1 ∈ cs) (v2 : Int32) (v3 : Int32) (v4 : Int32) (P : Int32 → GS → Prop) (h : wX2_waysToTell a1 v2 v3 v4 G P) : Met l yX2_waysToTell wsX2_waysToTell (rmW 27) (PcW w cs sz G B [.ref (w.1 2), .ref (w.1 a1), .int v2, .int v3, .int v4]) (QI w cs sz (fun r G1 B1 => P r G1 ∧ B = B1)) 0 0 (AA w cs sz) := by
  refine metW (own := RX2) [.ref (w.1 2), .ref (w.1 a1), .int v2, .int v3, .int v4] (by decide +kernel) rfl rfl (Nat.le_of_ble_eq_true rfl) ?_
  intro p e s m below meth c ls hsz C hr hK hw hl
  subst hsz
  have hx := C.1
  have hb := C.2.1
  have hown := C.2.2.2.1
  have hta := fun w h => C.2.2.2.2 w (List.mem_cons_of_mem _ h)
  have hl : lv_has ls 5 [(0, .ref (w.1 2)), (1, .ref (w.1 a1)), (2, .int v2), (3, .int v3), (4, .int v4)] := hl
  refine lv_aload_n hx hb dX2_waysToTell_0 rfl (lv_at hl 0 rfl) ?_
  refine lv_iload_n hx hb dX2_waysToTell_1 rfl (lv_at hl 2 rfl) ?_
  refine q_callv hw (va_runV (As := [.int v2]) (rest := []) C (mX2_loadColumns l w cs (fun c h => hcs c (by omega)) _ G B v2 _ h) (cwV 1 hta (gVw kw_94 kw_95 kw_96 kw_56 kw_93) rfl rfl rfl (by decide +kernel) ⟨Nat.le_of_ble_eq_true rfl, Nat.le_of_ble_eq_true rfl⟩) (preV hK hw 2 (hcs _ (by omega)) (by unfold isB; omega) rfl rfl _) rfl rfl hl.1 rfl (lv_room (Nat.le_of_ble_eq_true rfl)) dX2_waysToTell_2 ⟨Nat.le_refl 0, Nat.le_refl 0⟩) (fun G2 B2 H locs h hw => ?_)
  obtain ⟨h, e2⟩ := h; subst e2
  refine lv_aload_n hx hb dX2_waysToTell_5 rfl (lv_at hl 0 rfl) ?_
  refine lv_aload_n hx hb dX2_waysToTell_6 rfl (lv_at hl 1 rfl) ?_
  refine lv_iload_n hx hb dX2_waysToTell_7 rfl (lv_at hl 2 rfl) ?_
  refine q_callv hw (va_runV (As := [.ref (w.1 a1), .int v2]) (rest := []) C (mX2_loadSums l w cs (fun c h => hcs c (by omega)) _ G2 B a1 ha1I ha1C v2 _ h) (cwV 2 hta (gVw kw_98 kw_99 kw_100 kw_56 kw_97) rfl rfl rfl (by decide +kernel) ⟨Nat.le_of_ble_eq_true rfl, Nat.le_of_ble_eq_true rfl⟩) (preV hK hw 2 (hcs _ (by omega)) (by unfold isB; omega) rfl rfl _) rfl rfl hl.1 rfl (lv_room (Nat.le_of_ble_eq_true rfl)) dX2_waysToTell_8 ⟨Nat.le_refl 0, Nat.le_refl 0⟩) (fun G8 B8 H locs h hw => ?_)
  obtain ⟨h, e2⟩ := h; subst e2
  refine lv_aload_n hx hb dX2_waysToTell_11 rfl (lv_at hl 0 rfl) ?_
  refine lv_iload_n hx hb dX2_waysToTell_12 rfl (lv_at hl 3 rfl) ?_
  refine q_put (x := v3) (C := RX2) (T := TX2) (N := 11) (ci := 2) hx hb hta kw_X2 tyX2 tyX2_ok nmX2 hown hK hw 2 (hcs _ (by omega)) (by unfold isB; omega) rfl rfl 6 (by decide) (hta _ kw_58) rfl rfl rfl (Nat.le_of_ble_eq_true rfl) rfl dX2_waysToTell_13 (fun H locs G13 eG13 hw => ?_)
  have h := h G13 eG13
  refine lv_aload_n hx hb dX2_waysToTell_16 rfl (lv_at hl 0 rfl) ?_
  refine lv_iload hx hb dX2_waysToTell_17 (lv_at hl 4 rfl) ?_
  refine q_put (x := v4) (C := RX2) (T := TX2) (N := 11) (ci := 2) hx hb hta kw_X2 tyX2 tyX2_ok nmX2 hown hK hw 2 (hcs _ (by omega)) (by unfold isB; omega) rfl rfl 7 (by decide) (hta _ kw_80) rfl rfl rfl (Nat.le_of_ble_eq_true rfl) rfl dX2_waysToTell_19 (fun H locs G19 eG19 hw => ?_)
  have h := h G19 eG19
  refine lv_aload_n hx hb dX2_waysToTell_22 rfl (lv_at hl 0 rfl) ?_
  refine lv_iconst (v := 0) hx hb dX2_waysToTell_23 (by decide) ?_
  refine q_put (x := (0 : Int32)) (C := RX2) (T := TX2) (N := 11) (ci := 2) hx hb hta kw_X2 tyX2 tyX2_ok nmX2 hown hK hw 2 (hcs _ (by omega)) (by unfold isB; omega) rfl rfl 8 (by decide) (hta _ kw_62) rfl rfl rfl (Nat.le_of_ble_eq_true rfl) rfl dX2_waysToTell_24 (fun H locs G24 eG24 hw => ?_)
  have h := h G24 eG24
  refine lv_aload_n hx hb dX2_waysToTell_27 rfl (lv_at hl 0 rfl) ?_
  refine lv_iconst (v := 0) hx hb dX2_waysToTell_28 (by decide) ?_
  refine lv_aload_n hx hb dX2_waysToTell_29 rfl (lv_at hl 0 rfl) ?_
  refine q_get (v := .ref (w.1 1)) (C := RX2) (T := TX2) (N := 11) (ci := 2) hx hb hta kw_X2 hown hK hw 2 (hcs _ (by omega)) (by unfold isB; omega) rfl rfl 0 (by decide) (hta _ kw_50) rfl rfl dX2_waysToTell_30 ?_
  refine q_getN (v := .int (G24 1 2)) (host := RX5) (C := RX4) (T := TX4) (N := 5) (ci := 4) hx hb hta kw_X4 hown hK hw 1 (hcs _ (by omega)) (by unfold isB; omega) rfl rfl 2 (by decide) (by decide +kernel) rfl rfl dX2_waysToTell_33 ?_
  refine lv_iconst (v := 0) hx hb dX2_waysToTell_36 (by decide) ?_
  refine q_callv hw (va_runV (As := [.int (0 : Int32), .int (G24 1 2), .int (0 : Int32)]) (rest := []) C (mX2_seekTellingN l w cs (fun c h => hcs c (by omega)) _ G24 B (0 : Int32) (G24 1 2) (0 : Int32) _ h) (cwV 3 hta (gVw kw_77 kw_78 kw_79 kw_56 kw_76) rfl rfl rfl (by decide +kernel) ⟨Nat.le_of_ble_eq_true rfl, Nat.le_of_ble_eq_true rfl⟩) (preV hK hw 2 (hcs _ (by omega)) (by unfold isB; omega) rfl rfl _) rfl rfl hl.1 rfl (lv_room (Nat.le_of_ble_eq_true rfl)) dX2_waysToTell_37 ⟨Nat.le_refl 0, Nat.le_refl 0⟩) (fun G37 B37 H locs h hw => ?_)
  obtain ⟨h, e2⟩ := h; subst e2
  refine lv_aload_n hx hb dX2_waysToTell_40 rfl (lv_at hl 0 rfl) ?_
  refine q_get (v := .int (G37 2 8)) (C := RX2) (T := TX2) (N := 11) (ci := 2) hx hb hta kw_X2 hown hK hw 2 (hcs _ (by omega)) (by unfold isB; omega) rfl rfl 8 (by decide) (hta _ kw_62) rfl rfl dX2_waysToTell_41 ?_
  exact q_reti hx hb hr hw ⟨h, rfl⟩ dX2_waysToTell_44
def wlX2_rank_17 (K52 : Int32 → GS → Prop) : Nat → Int32 → Int32 → GS → Prop
  | 0, _, _, _ => False
  | n17 + 1, v1, v2, G => ((v2 < 0 → K52 v1 G) ∧ (¬ v2 < 0 → (((6 : Int32) ≤ v1 → K52 v1 G) ∧ (¬ (6 : Int32) ≤ v1 → (wX2_isNought v1 v2 G (fun r30 => ((¬ r30 = 0 → wlX2_rank_17 K52 n17 v1 (v2 + (-1 : Int32)) G) ∧ (r30 = 0 → (wX2_takeOut v1 v2 v2 G (fun G40 => wlX2_rank_17 K52 n17 (v1 + (1 : Int32)) (v2 + (-1 : Int32)) G40))))))))))
def wX2_rank (G : GS) (P : Int32 → GS → Prop) : Prop := (wX2_loadColumns (0 : Int32) G (fun G2 => (∀ x16 : Int32, x16 = ((G2 1 2) - (1 : Int32)) → (∃ z17 : Nat, wlX2_rank_17 (fun x1_52 G_52 => P x1_52 G_52) z17 (0 : Int32) x16 G2))))
set_option maxHeartbeats 4000000 in
set_option maxRecDepth 100000 in
theorem lX2_rank_17 {p : Program} {l : Launch} {e : Env} {s : State} {m : MethodId} {args : Array Value} {below : List Frame} {meth : Method} {c : Code} {Q : State → Prop} {w : WE} {cs : List Nat} {A : Nat → Prop} {H0 : Heap} (C : CallFix p m c cX2_rank 3 s args wsX2_rank RX2) (hK : KW w s) (hcs : ∀ c, c < 56 → c ∈ cs) (B : BS) {K52 : Int32 → GS → Prop} (k52 : ∀ (y1 : Int32) (G : GS) (H : Heap) (locs : List Loc) (ls : Array Slot), K52 y1 G → WO w cs A H0 G B H locs → lv_has ls 3 [(1, .int y1)] → W p l e (rmW 2) s m args below meth c H locs 0 0 Q (F0 m 52 ls [])) : ∀ (n : Nat) (v1 : Int32) (v2 : Int32) (G : GS) (H : Heap) (locs : List Loc) (ls : Array Slot), wlX2_rank_17 K52 n v1 v2 G → WO w cs A H0 G B H locs → lv_has ls 3 [(0, .ref (w.1 2)), (1, .int v1), (2, .int v2)] → W p l e (rmW 2) s m args below meth c H locs 0 0 Q (F0 m 17 ls []) := by
  have hx := C.1
  have hb := C.2.1
  have hown := C.2.2.2.1
  have hta := fun w h => C.2.2.2.2 w (List.mem_cons_of_mem _ h)
  intro n
  induction n with
  | zero => intro v1 v2 G H locs ls h hw hl; exact False.elim h
  | succ n ih =>
    intro v1 v2 G H locs ls h hw hl
    refine lv_iload_n hx hb dX2_rank_17 rfl (lv_at hl 2 rfl) ?_
    refine lv_if_lt (tgt := 52) hx hb dX2_rank_18 (by decide) (fun c1 => ?_) (fun c1 => ?_)
    · have h := h.1 c1
      exact k52 v1 G _ _ _ h hw (lv_sub hl [1] rfl)
    · have h := h.2 c1
      refine lv_iload_n hx hb dX2_rank_21 rfl (lv_at hl 1 rfl) ?_
      refine lv_bipush (v := 6) hx hb dX2_rank_22 (by decide) ?_
      refine lv_icmp_ge (tgt := 52) hx hb dX2_rank_24 (by decide) (fun c2 => ?_) (fun c2 => ?_)
      · have h := h.1 c2
        exact k52 v1 G _ _ _ h hw (lv_sub hl [1] rfl)
      · have h := h.2 c2
        refine lv_aload_n hx hb dX2_rank_27 rfl (lv_at hl 0 rfl) ?_
        refine lv_iload_n hx hb dX2_rank_28 rfl (lv_at hl 1 rfl) ?_
        refine lv_iload_n hx hb dX2_rank_29 rfl (lv_at hl 2 rfl) ?_
        refine q_calli hw (va_runV (As := [.int v1, .int v2]) (rest := []) C (mX2_isNought l w cs (fun c h => hcs c (by omega)) _ G B v1 v2 _ h) (cwV 2 hta (gVw kw_82 kw_83 kw_84 kw_56 kw_81) rfl rfl rfl (by decide +kernel) ⟨Nat.le_of_ble_eq_true rfl, Nat.le_of_ble_eq_true rfl⟩) (preV hK hw 2 (hcs _ (by omega)) (by unfold isB; omega) rfl rfl _) rfl rfl hl.1 rfl (lv_room (Nat.le_of_ble_eq_true rfl)) dX2_rank_30 ⟨Nat.le_refl 0, Nat.le_refl 0⟩) (fun r30 G30 B30 H locs h hw => ?_)
        obtain ⟨h, e1, e2⟩ := h; subst e1; subst e2
        refine lv_if_ne (tgt := 46) hx hb dX2_rank_33 (by decide) (fun c3 => ?_) (fun c3 => ?_)
        · have h := h.1 c3
          refine lv_iinc (v := (v2 + (-1 : Int32))) (lv' := [(2, .int (v2 + (-1 : Int32))), (0, .ref (w.1 2)), (1, .int v1)]) hx hb dX2_rank_46 hl (k := 2) rfl rfl (by decide) rfl (fun ls hl => ?_)
          refine lv_goto (tgt := 17) hx hb dX2_rank_49 (by decide) ?_
          exact ih v1 (v2 + (-1 : Int32)) G _ _ _ h hw (lv_sub hl [1, 2, 0] rfl)
        · have h := h.2 c3
          refine lv_aload_n hx hb dX2_rank_36 rfl (lv_at hl 0 rfl) ?_
          refine lv_iload_n hx hb dX2_rank_37 rfl (lv_at hl 1 rfl) ?_
          refine lv_iload_n hx hb dX2_rank_38 rfl (lv_at hl 2 rfl) ?_
          refine lv_iload_n hx hb dX2_rank_39 rfl (lv_at hl 2 rfl) ?_
          refine q_callv hw (va_runV (As := [.int v1, .int v2, .int v2]) (rest := []) C (mX2_takeOut l w cs (fun c h => hcs c (by omega)) _ G B v1 v2 v2 _ h) (cwV 3 hta (gVw kw_73 kw_74 kw_75 kw_56 kw_72) rfl rfl rfl (by decide +kernel) ⟨Nat.le_of_ble_eq_true rfl, Nat.le_of_ble_eq_true rfl⟩) (preV hK hw 2 (hcs _ (by omega)) (by unfold isB; omega) rfl rfl _) rfl rfl hl.1 rfl (lv_room (Nat.le_of_ble_eq_true rfl)) dX2_rank_40 ⟨Nat.le_refl 0, Nat.le_refl 0⟩) (fun G40 B40 H locs h hw => ?_)
          obtain ⟨h, e2⟩ := h; subst e2
          refine lv_iinc (v := (v1 + (1 : Int32))) (lv' := [(1, .int (v1 + (1 : Int32))), (0, .ref (w.1 2)), (2, .int v2)]) hx hb dX2_rank_43 hl (k := 1) rfl rfl (by decide) rfl (fun ls hl => ?_)
          refine lv_iinc (v := (v2 + (-1 : Int32))) (lv' := [(2, .int (v2 + (-1 : Int32))), (1, .int (v1 + (1 : Int32))), (0, .ref (w.1 2))]) hx hb dX2_rank_46 hl (k := 2) rfl rfl (by decide) rfl (fun ls hl => ?_)
          refine lv_goto (tgt := 17) hx hb dX2_rank_49 (by decide) ?_
          exact ih (v1 + (1 : Int32)) (v2 + (-1 : Int32)) G40 _ _ _ h hw (lv_sub hl [2, 1, 0] rfl)
set_option maxHeartbeats 4000000 in
set_option maxRecDepth 100000 in
theorem mX2_rank (l : Launch) (w : WE) (cs : List Nat) (hcs : ∀ c, c < 56 → c ∈ cs) (sz : Nat) (G : GS) (B : BS) (P : Int32 → GS → Prop) (h : wX2_rank G P) : Met l yX2_rank wsX2_rank (rmW 2) (PcW w cs sz G B [.ref (w.1 2)]) (QI w cs sz (fun r G1 B1 => P r G1 ∧ B = B1)) 0 0 (AA w cs sz) := by
  refine metW (own := RX2) [.ref (w.1 2)] (by decide +kernel) rfl rfl (Nat.le_of_ble_eq_true rfl) ?_
  intro p e s m below meth c ls hsz C hr hK hw hl
  subst hsz
  have hx := C.1
  have hb := C.2.1
  have hown := C.2.2.2.1
  have hta := fun w h => C.2.2.2.2 w (List.mem_cons_of_mem _ h)
  have hl : lv_has ls 3 [(0, .ref (w.1 2))] := hl
  refine lv_aload_n hx hb dX2_rank_0 rfl (lv_at hl 0 rfl) ?_
  refine lv_iconst (v := 0) hx hb dX2_rank_1 (by decide) ?_
  refine q_callv hw (va_runV (As := [.int (0 : Int32)]) (rest := []) C (mX2_loadColumns l w cs (fun c h => hcs c (by omega)) _ G B (0 : Int32) _ h) (cwV 1 hta (gVw kw_94 kw_95 kw_96 kw_56 kw_93) rfl rfl rfl (by decide +kernel) ⟨Nat.le_of_ble_eq_true rfl, Nat.le_of_ble_eq_true rfl⟩) (preV hK hw 2 (hcs _ (by omega)) (by unfold isB; omega) rfl rfl _) rfl rfl hl.1 rfl (lv_room (Nat.le_of_ble_eq_true rfl)) dX2_rank_2 ⟨Nat.le_refl 0, Nat.le_refl 0⟩) (fun G2 B2 H locs h hw => ?_)
  obtain ⟨h, e2⟩ := h; subst e2
  refine lv_iconst (v := 0) hx hb dX2_rank_5 (by decide) ?_
  refine lv_istore_n (lv' := [(1, .int (0 : Int32)), (0, .ref (w.1 2))]) hx hb dX2_rank_6 rfl hl (by decide) rfl (fun ls hl => ?_)
  refine lv_aload_n hx hb dX2_rank_7 rfl (lv_at hl 1 rfl) ?_
  refine q_get (v := .ref (w.1 1)) (C := RX2) (T := TX2) (N := 11) (ci := 2) hx hb hta kw_X2 hown hK hw 2 (hcs _ (by omega)) (by unfold isB; omega) rfl rfl 0 (by decide) (hta _ kw_50) rfl rfl dX2_rank_8 ?_
  refine q_getN (v := .int (G2 1 2)) (host := RX5) (C := RX4) (T := TX4) (N := 5) (ci := 4) hx hb hta kw_X4 hown hK hw 1 (hcs _ (by omega)) (by unfold isB; omega) rfl rfl 2 (by decide) (by decide +kernel) rfl rfl dX2_rank_11 ?_
  refine lv_iconst (v := 1) hx hb dX2_rank_14 (by decide) ?_
  refine lv_isub hx hb dX2_rank_15 ?_
  refine lv_topi (fun x16 ex16 => ?_)
  have h := h x16 ex16
  refine lv_istore_n (lv' := [(2, .int x16), (1, .int (0 : Int32)), (0, .ref (w.1 2))]) hx hb dX2_rank_16 rfl hl (by decide) rfl (fun ls hl => ?_)
  obtain ⟨n17, h⟩ := h
  refine lX2_rank_17 C hK hcs B (K52 := _) ?_ n17 (0 : Int32) x16 G2 _ _ _ h hw (lv_sub hl [2, 1, 0] rfl)
  · intro x1_52 G_52 H locs ls h hw hl
    refine lv_iload_n hx hb dX2_rank_52 rfl (lv_at hl 0 rfl) ?_
    exact q_reti hx hb hr hw ⟨h, rfl⟩ dX2_rank_53
abbrev RecTX2_seekBound : Type := Int32 → Int32 → GS → (GS → Prop) → Prop
def RecMX2_seekBound (l : Launch) (w : WE) (RX2_seek : RecTX2_seekBound) (rn : Nat) : Prop := ∀ (cs : List Nat) (hcs : ∀ c, c < 56 → c ∈ cs) (sz : Nat) (G : GS) (B : BS) (v1 v2 : Int32) (P : GS → Prop) (_ : RX2_seek v1 v2 G P), Met l yX2_seekBound wsX2_seekBound (rmW rn) (PcW w cs sz G B [.ref (w.1 2), .int v1, .int v2]) (QV w cs sz (fun G1 B1 => P G1 ∧ B = B1)) 0 0 (AA w cs sz)
def wX2_seekBoundTo (RX2_seek : RecTX2_seekBound) (v1 : Int32) (v2 : Int32) (G : GS) (P : GS → Prop) : Prop := (wX2_takeOut v1 v2 v2 G (fun G4 => (RX2_seek (v1 + (1 : Int32)) v2 G4 (fun G12 => P G12))))
set_option maxHeartbeats 4000000 in
set_option maxRecDepth 100000 in
theorem mX2_seekBoundTo {rn : Nat} (l : Launch) (w : WE) (cs : List Nat) (hcs : ∀ c, c < 56 → c ∈ cs) (sz : Nat) (G : GS) (B : BS) (v1 : Int32) (v2 : Int32) (RX2_seek : RecTX2_seekBound) (hRec : RecMX2_seekBound l w RX2_seek rn) (hrn : 10 ≤ rn) (P : GS → Prop) (h : wX2_seekBoundTo RX2_seek v1 v2 G P) : Met l yX2_seekBoundTo wsX2_seekBoundTo (rmW (rn + 1)) (PcW w cs sz G B [.ref (w.1 2), .int v1, .int v2]) (QV w cs sz (fun G1 B1 => P G1 ∧ B = B1)) 0 0 (AA w cs sz) := by
  refine metW (own := RX2) [.ref (w.1 2), .int v1, .int v2] (by decide +kernel) rfl rfl (Nat.le_of_ble_eq_true rfl) ?_
  intro p e s m below meth c ls hsz C hr hK hw hl
  subst hsz
  have hx := C.1
  have hb := C.2.1
  have hown := C.2.2.2.1
  have hta := fun w h => C.2.2.2.2 w (List.mem_cons_of_mem _ h)
  have hl : lv_has ls 3 [(0, .ref (w.1 2)), (1, .int v1), (2, .int v2)] := hl
  refine lv_aload_n hx hb dX2_seekBoundTo_0 rfl (lv_at hl 0 rfl) ?_
  refine lv_iload_n hx hb dX2_seekBoundTo_1 rfl (lv_at hl 1 rfl) ?_
  refine lv_iload_n hx hb dX2_seekBoundTo_2 rfl (lv_at hl 2 rfl) ?_
  refine lv_iload_n hx hb dX2_seekBoundTo_3 rfl (lv_at hl 2 rfl) ?_
  refine q_callv hw (va_runV (As := [.int v1, .int v2, .int v2]) (rest := []) C (mX2_takeOut l w cs (fun c h => hcs c (by omega)) _ G B v1 v2 v2 _ h) (cwV 3 hta (gVw kw_73 kw_74 kw_75 kw_56 kw_72) rfl rfl rfl (by decide +kernel) ⟨by simp only [rmW]; omega, by simp only [rmW]; omega⟩) (preV hK hw 2 (hcs _ (by omega)) (by unfold isB; omega) rfl rfl _) rfl rfl hl.1 rfl (lv_room (Nat.le_of_ble_eq_true rfl)) dX2_seekBoundTo_4 ⟨Nat.le_refl 0, Nat.le_refl 0⟩) (fun G4 B4 H locs h hw => ?_)
  obtain ⟨h, e2⟩ := h; subst e2
  refine lv_aload_n hx hb dX2_seekBoundTo_7 rfl (lv_at hl 0 rfl) ?_
  refine lv_iload_n hx hb dX2_seekBoundTo_8 rfl (lv_at hl 1 rfl) ?_
  refine lv_iconst (v := 1) hx hb dX2_seekBoundTo_9 (by decide) ?_
  refine lv_iadd hx hb dX2_seekBoundTo_10 ?_
  refine lv_iload_n hx hb dX2_seekBoundTo_11 rfl (lv_at hl 2 rfl) ?_
  refine q_callv hw (va_runV (As := [.int (v1 + (1 : Int32)), .int v2]) (rest := []) C (hRec cs hcs _ G4 B (v1 + (1 : Int32)) v2 _ h) (cwV 2 hta (gVw kw_102 kw_103 kw_104 kw_56 kw_101) rfl rfl rfl (by decide +kernel) ⟨by simp only [rmW]; omega, by simp only [rmW]; omega⟩) (preV hK hw 2 (hcs _ (by omega)) (by unfold isB; omega) rfl rfl _) rfl rfl hl.1 rfl (lv_room (Nat.le_of_ble_eq_true rfl)) dX2_seekBoundTo_12 ⟨Nat.le_refl 0, Nat.le_refl 0⟩) (fun G12 B12 H locs h hw => ?_)
  obtain ⟨h, e2⟩ := h; subst e2
  exact q_retv hx hb hr hw ⟨h, rfl⟩ dX2_seekBoundTo_15
def wlX2_seekBound_19 (K33 : Prop) (K47 : Prop) (v1 : Int32) (v2 : Int32) (G : GS) : Nat → Int32 → Prop
  | 0, _ => False
  | n19 + 1, v3 => ((v2 ≤ v3 → K47) ∧ (¬ v2 ≤ v3 → (wX2_isNought v1 v3 G (fun r27 => ((r27 = 0 → wlX2_seekBound_19 K33 K47 v1 v2 G n19 (v3 + (1 : Int32))) ∧ (¬ r27 = 0 → K33))))))
def wlX2_seekBound_49 (RX2_seek : RecTX2_seekBound) (K76 : GS → Prop) (v1 : Int32) (v2 : Int32) : Nat → Int32 → GS → Prop
  | 0, _, _ => False
  | n49 + 1, v3, G => ((v2 ≤ v3 → K76 G) ∧ (¬ v2 ≤ v3 → (((G 2 10) ≤ (v1 + (2 : Int32)) → K76 G) ∧ (¬ (G 2 10) ≤ (v1 + (2 : Int32)) → (wX2_seekBoundTo RX2_seek v1 v3 G (fun G67 => wlX2_seekBound_49 RX2_seek K76 v1 v2 n49 (v3 + (1 : Int32)) G67))))))
def wX2_seekBoundB (RX2_seek : RecTX2_seekBound) (v1 : Int32) (v2 : Int32) (G : GS) (P : GS → Prop) : Prop := (((G 2 10) ≤ (v1 + (1 : Int32)) → P G) ∧ (¬ (G 2 10) ≤ (v1 + (1 : Int32)) → ((v1 < (6 : Int32) → (∃ z19 : Nat, wlX2_seekBound_19 ((∀ G37 : GS, G37 = wr G 2 10 (v1 + (1 : Int32)) → P G37)) ((∃ z49 : Nat, wlX2_seekBound_49 RX2_seek (fun G_76 => P G_76) v1 v2 z49 (1 : Int32) G)) v1 v2 G z19 (0 : Int32))) ∧ (¬ v1 < (6 : Int32) → P G))))
set_option maxHeartbeats 4000000 in
set_option maxRecDepth 100000 in
theorem lX2_seekBound_19 {p : Program} {l : Launch} {e : Env} {s : State} {m : MethodId} {args : Array Value} {below : List Frame} {meth : Method} {c : Code} {Q : State → Prop} {w : WE} {cs : List Nat} {A : Nat → Prop} {H0 : Heap} {rn : Nat} (C : CallFix p m c cX2_seekBound 4 s args wsX2_seekBound RX2) (hK : KW w s) (hcs : ∀ c, c < 56 → c ∈ cs) (hrn : 10 ≤ rn) (v1 : Int32) (v2 : Int32) (G : GS) (B : BS) {K33 : Prop} {K47 : Prop} (k33 : ∀ (H : Heap) (locs : List Loc) (ls : Array Slot), K33 → WO w cs A H0 G B H locs → lv_has ls 4 [(0, .ref (w.1 2)), (1, .int v1)] → W p l e (rmW (rn + 2)) s m args below meth c H locs 0 0 Q (F0 m 33 ls [])) (k47 : ∀ (H : Heap) (locs : List Loc) (ls : Array Slot), K47 → WO w cs A H0 G B H locs → lv_has ls 4 [(0, .ref (w.1 2)), (1, .int v1), (2, .int v2)] → W p l e (rmW (rn + 2)) s m args below meth c H locs 0 0 Q (F0 m 47 ls [])) : ∀ (n : Nat) (v3 : Int32) (H : Heap) (locs : List Loc) (ls : Array Slot), wlX2_seekBound_19 K33 K47 v1 v2 G n v3 → WO w cs A H0 G B H locs → lv_has ls 4 [(0, .ref (w.1 2)), (1, .int v1), (2, .int v2), (3, .int v3)] → W p l e (rmW (rn + 2)) s m args below meth c H locs 0 0 Q (F0 m 19 ls []) := by
  have hx := C.1
  have hb := C.2.1
  have hown := C.2.2.2.1
  have hta := fun w h => C.2.2.2.2 w (List.mem_cons_of_mem _ h)
  intro n
  induction n with
  | zero => intro v3 H locs ls h hw hl; exact False.elim h
  | succ n ih =>
    intro v3 H locs ls h hw hl
    refine lv_iload_n hx hb dX2_seekBound_19 rfl (lv_at hl 3 rfl) ?_
    refine lv_iload_n hx hb dX2_seekBound_20 rfl (lv_at hl 2 rfl) ?_
    refine lv_icmp_ge (tgt := 47) hx hb dX2_seekBound_21 (by decide) (fun c3 => ?_) (fun c3 => ?_)
    · have h := h.1 c3
      exact k47 _ _ _ h hw (lv_sub hl [0, 1, 2] rfl)
    · have h := h.2 c3
      refine lv_aload_n hx hb dX2_seekBound_24 rfl (lv_at hl 0 rfl) ?_
      refine lv_iload_n hx hb dX2_seekBound_25 rfl (lv_at hl 1 rfl) ?_
      refine lv_iload_n hx hb dX2_seekBound_26 rfl (lv_at hl 3 rfl) ?_
      refine q_calli hw (va_runV (As := [.int v1, .int v3]) (rest := []) C (mX2_isNought l w cs (fun c h => hcs c (by omega)) _ G B v1 v3 _ h) (cwV 2 hta (gVw kw_82 kw_83 kw_84 kw_56 kw_81) rfl rfl rfl (by decide +kernel) ⟨by simp only [rmW]; omega, by simp only [rmW]; omega⟩) (preV hK hw 2 (hcs _ (by omega)) (by unfold isB; omega) rfl rfl _) rfl rfl hl.1 rfl (lv_room (Nat.le_of_ble_eq_true rfl)) dX2_seekBound_27 ⟨Nat.le_refl 0, Nat.le_refl 0⟩) (fun r27 G27 B27 H locs h hw => ?_)
      obtain ⟨h, e1, e2⟩ := h; subst e1; subst e2
      refine lv_if_eq (tgt := 41) hx hb dX2_seekBound_30 (by decide) (fun c4 => ?_) (fun c4 => ?_)
      · have h := h.1 c4
        refine lv_iinc (v := (v3 + (1 : Int32))) (lv' := [(3, .int (v3 + (1 : Int32))), (0, .ref (w.1 2)), (1, .int v1), (2, .int v2)]) hx hb dX2_seekBound_41 hl (k := 3) rfl rfl (by decide) rfl (fun ls hl => ?_)
        refine lv_goto (tgt := 19) hx hb dX2_seekBound_44 (by decide) ?_
        exact ih (v3 + (1 : Int32)) _ _ _ h hw (lv_sub hl [1, 2, 3, 0] rfl)
      · have h := h.2 c4
        exact k33 _ _ _ h hw (lv_sub hl [0, 1] rfl)
set_option maxHeartbeats 4000000 in
set_option maxRecDepth 100000 in
theorem lX2_seekBound_49 {p : Program} {l : Launch} {e : Env} {s : State} {m : MethodId} {args : Array Value} {below : List Frame} {meth : Method} {c : Code} {Q : State → Prop} {w : WE} {cs : List Nat} {A : Nat → Prop} {H0 : Heap} {rn : Nat} {RX2_seek : RecTX2_seekBound} (C : CallFix p m c cX2_seekBound 4 s args wsX2_seekBound RX2) (hK : KW w s) (hcs : ∀ c, c < 56 → c ∈ cs) (hRec : RecMX2_seekBound l w RX2_seek rn) (hrn : 10 ≤ rn) (v1 : Int32) (v2 : Int32) (B : BS) {K76 : GS → Prop} (k76 : ∀ (G : GS) (H : Heap) (locs : List Loc) (ls : Array Slot), K76 G → WO w cs A H0 G B H locs → lv_has ls 4 [] → W p l e (rmW (rn + 2)) s m args below meth c H locs 0 0 Q (F0 m 76 ls [])) : ∀ (n : Nat) (v3 : Int32) (G : GS) (H : Heap) (locs : List Loc) (ls : Array Slot), wlX2_seekBound_49 RX2_seek K76 v1 v2 n v3 G → WO w cs A H0 G B H locs → lv_has ls 4 [(0, .ref (w.1 2)), (1, .int v1), (2, .int v2), (3, .int v3)] → W p l e (rmW (rn + 2)) s m args below meth c H locs 0 0 Q (F0 m 49 ls []) := by
  have hx := C.1
  have hb := C.2.1
  have hown := C.2.2.2.1
  have hta := fun w h => C.2.2.2.2 w (List.mem_cons_of_mem _ h)
  intro n
  induction n with
  | zero => intro v3 G H locs ls h hw hl; exact False.elim h
  | succ n ih =>
    intro v3 G H locs ls h hw hl
    refine lv_iload_n hx hb dX2_seekBound_49 rfl (lv_at hl 3 rfl) ?_
    refine lv_iload_n hx hb dX2_seekBound_50 rfl (lv_at hl 2 rfl) ?_
    refine lv_icmp_ge (tgt := 76) hx hb dX2_seekBound_51 (by decide) (fun c5 => ?_) (fun c5 => ?_)
    · have h := h.1 c5
      exact k76 G _ _ _ h hw (lv_sub hl [] rfl)
    · have h := h.2 c5
      refine lv_iload_n hx hb dX2_seekBound_54 rfl (lv_at hl 1 rfl) ?_
      refine lv_iconst (v := 2) hx hb dX2_seekBound_55 (by decide) ?_
      refine lv_iadd hx hb dX2_seekBound_56 ?_
      refine lv_aload_n hx hb dX2_seekBound_57 rfl (lv_at hl 0 rfl) ?_
      refine q_get (v := .int (G 2 10)) (C := RX2) (T := TX2) (N := 11) (ci := 2) hx hb hta kw_X2 hown hK hw 2 (hcs _ (by omega)) (by unfold isB; omega) rfl rfl 10 (by decide) (hta _ kw_105) rfl rfl dX2_seekBound_58 ?_
      refine lv_icmp_ge (tgt := 76) hx hb dX2_seekBound_61 (by decide) (fun c6 => ?_) (fun c6 => ?_)
      · have h := h.1 c6
        exact k76 G _ _ _ h hw (lv_sub hl [] rfl)
      · have h := h.2 c6
        refine lv_aload_n hx hb dX2_seekBound_64 rfl (lv_at hl 0 rfl) ?_
        refine lv_iload_n hx hb dX2_seekBound_65 rfl (lv_at hl 1 rfl) ?_
        refine lv_iload_n hx hb dX2_seekBound_66 rfl (lv_at hl 3 rfl) ?_
        refine q_callv hw (va_runV (As := [.int v1, .int v3]) (rest := []) C (mX2_seekBoundTo l w cs hcs _ G B v1 v3 RX2_seek hRec hrn _ h) (cwV 2 hta (gVw kw_107 kw_108 kw_109 kw_56 kw_106) rfl rfl rfl (by decide +kernel) ⟨by simp only [rmW]; omega, by simp only [rmW]; omega⟩) (preV hK hw 2 (hcs _ (by omega)) (by unfold isB; omega) rfl rfl _) rfl rfl hl.1 rfl (lv_room (Nat.le_of_ble_eq_true rfl)) dX2_seekBound_67 ⟨Nat.le_refl 0, Nat.le_refl 0⟩) (fun G67 B67 H locs h hw => ?_)
        obtain ⟨h, e2⟩ := h; subst e2
        refine lv_iinc (v := (v3 + (1 : Int32))) (lv' := [(3, .int (v3 + (1 : Int32))), (0, .ref (w.1 2)), (1, .int v1), (2, .int v2)]) hx hb dX2_seekBound_70 hl (k := 3) rfl rfl (by decide) rfl (fun ls hl => ?_)
        refine lv_goto (tgt := 49) hx hb dX2_seekBound_73 (by decide) ?_
        exact ih (v3 + (1 : Int32)) G67 _ _ _ h hw (lv_sub hl [1, 2, 3, 0] rfl)
set_option maxHeartbeats 4000000 in
set_option maxRecDepth 100000 in
theorem mX2_seekBoundB {rn : Nat} (l : Launch) (w : WE) (cs : List Nat) (hcs : ∀ c, c < 56 → c ∈ cs) (sz : Nat) (G : GS) (B : BS) (v1 : Int32) (v2 : Int32) (RX2_seek : RecTX2_seekBound) (hRec : RecMX2_seekBound l w RX2_seek rn) (hrn : 10 ≤ rn) (P : GS → Prop) (h : wX2_seekBoundB RX2_seek v1 v2 G P) : Met l yX2_seekBound wsX2_seekBound (rmW (rn + 2)) (PcW w cs sz G B [.ref (w.1 2), .int v1, .int v2]) (QV w cs sz (fun G1 B1 => P G1 ∧ B = B1)) 0 0 (AA w cs sz) := by
  refine metW (own := RX2) [.ref (w.1 2), .int v1, .int v2] (by decide +kernel) rfl rfl (Nat.le_of_ble_eq_true rfl) ?_
  intro p e s m below meth c ls hsz C hr hK hw hl
  subst hsz
  have hx := C.1
  have hb := C.2.1
  have hown := C.2.2.2.1
  have hta := fun w h => C.2.2.2.2 w (List.mem_cons_of_mem _ h)
  have hl : lv_has ls 4 [(0, .ref (w.1 2)), (1, .int v1), (2, .int v2)] := hl
  refine lv_iload_n hx hb dX2_seekBound_0 rfl (lv_at hl 1 rfl) ?_
  refine lv_iconst (v := 1) hx hb dX2_seekBound_1 (by decide) ?_
  refine lv_iadd hx hb dX2_seekBound_2 ?_
  refine lv_aload_n hx hb dX2_seekBound_3 rfl (lv_at hl 0 rfl) ?_
  refine q_get (v := .int (G 2 10)) (C := RX2) (T := TX2) (N := 11) (ci := 2) hx hb hta kw_X2 hown hK hw 2 (hcs _ (by omega)) (by unfold isB; omega) rfl rfl 10 (by decide) (hta _ kw_105) rfl rfl dX2_seekBound_4 ?_
  refine lv_icmp_ge (tgt := 16) hx hb dX2_seekBound_7 (by decide) (fun c1 => ?_) (fun c1 => ?_)
  · have h := h.1 c1
    exact q_retv hx hb hr hw ⟨h, rfl⟩ dX2_seekBound_16
  · have h := h.2 c1
    refine lv_iload_n hx hb dX2_seekBound_10 rfl (lv_at hl 1 rfl) ?_
    refine lv_bipush (v := 6) hx hb dX2_seekBound_11 (by decide) ?_
    refine lv_icmp_lt (tgt := 17) hx hb dX2_seekBound_13 (by decide) (fun c2 => ?_) (fun c2 => ?_)
    · have h := h.1 c2
      refine lv_iconst (v := 0) hx hb dX2_seekBound_17 (by decide) ?_
      refine lv_istore_n (lv' := [(3, .int (0 : Int32)), (0, .ref (w.1 2)), (1, .int v1), (2, .int v2)]) hx hb dX2_seekBound_18 rfl hl (by decide) rfl (fun ls hl => ?_)
      obtain ⟨n19, h⟩ := h
      refine lX2_seekBound_19 C hK hcs hrn v1 v2 G B (K33 := _) (K47 := _) ?_ ?_ n19 (0 : Int32) _ _ _ h hw (lv_sub hl [1, 2, 3, 0] rfl)
      · intro H locs ls h hw hl
        refine lv_aload_n hx hb dX2_seekBound_33 rfl (lv_at hl 0 rfl) ?_
        refine lv_iload_n hx hb dX2_seekBound_34 rfl (lv_at hl 1 rfl) ?_
        refine lv_iconst (v := 1) hx hb dX2_seekBound_35 (by decide) ?_
        refine lv_iadd hx hb dX2_seekBound_36 ?_
        refine q_put (x := (v1 + (1 : Int32))) (C := RX2) (T := TX2) (N := 11) (ci := 2) hx hb hta kw_X2 tyX2 tyX2_ok nmX2 hown hK hw 2 (hcs _ (by omega)) (by unfold isB; omega) rfl rfl 10 (by decide) (hta _ kw_105) rfl rfl rfl (Nat.le_of_ble_eq_true rfl) rfl dX2_seekBound_37 (fun H locs G37 eG37 hw => ?_)
        have h := h G37 eG37
        exact q_retv hx hb hr hw ⟨h, rfl⟩ dX2_seekBound_40
      · intro H locs ls h hw hl
        refine lv_iconst (v := 1) hx hb dX2_seekBound_47 (by decide) ?_
        refine lv_istore_n (lv' := [(3, .int (1 : Int32)), (0, .ref (w.1 2)), (1, .int v1), (2, .int v2)]) hx hb dX2_seekBound_48 rfl hl (by decide) rfl (fun ls hl => ?_)
        obtain ⟨n49, h⟩ := h
        refine lX2_seekBound_49 C hK hcs hRec hrn v1 v2 B (K76 := _) ?_ n49 (1 : Int32) G _ _ _ h hw (lv_sub hl [1, 2, 3, 0] rfl)
        · intro G_76 H locs ls h hw hl
          exact q_retv hx hb hr hw ⟨h, rfl⟩ dX2_seekBound_76
    · have h := h.2 c2
      exact q_retv hx hb hr hw ⟨h, rfl⟩ dX2_seekBound_16
def wX2_seekBound : Nat → RecTX2_seekBound
  | 0 => fun _ _ _ _ => False
  | n + 1 => wX2_seekBoundB (wX2_seekBound n)
theorem mX2_seekBoundR (l : Launch) (w : WE) : ∀ n : Nat, RecMX2_seekBound l w (wX2_seekBound n) (10 + 2 * n)
  | 0 => fun cs hcs sz G B v1 v2 P h => False.elim h
  | n + 1 => fun cs hcs sz G B v1 v2 P h => mX2_seekBoundB l w cs hcs sz G B v1 v2 (wX2_seekBound n) (mX2_seekBoundR l w n) (by omega) P h
theorem mX2_seekBoundN (l : Launch) (w : WE) (cs : List Nat) (hcs : ∀ c, c < 56 → c ∈ cs) (sz : Nat) (G : GS) (B : BS) (v1 v2 : Int32) (P : GS → Prop) (h : wX2_seekBound 8 v1 v2 G P) : Met l yX2_seekBound wsX2_seekBound (rmW 26) (PcW w cs sz G B [.ref (w.1 2), .int v1, .int v2]) (QV w cs sz (fun G1 B1 => P G1 ∧ B = B1)) 0 0 (AA w cs sz) := mX2_seekBoundR l w 8 cs hcs sz G B v1 v2 P h
def wX2_spark (G : GS) (P : Int32 → GS → Prop) : Prop := (wX2_loadColumns (0 : Int32) G (fun G2 => (∀ G25 : GS, G25 = wr G2 2 10 ((if (G2 1 1) < (G2 1 2) then (G2 1 1) else (G2 1 2)) + (1 : Int32)) → (wX2_seekBound 8 (0 : Int32) (G25 1 2) G25 (fun G37 => P (G37 2 10) G37)))))
set_option maxHeartbeats 4000000 in
set_option maxRecDepth 100000 in
theorem mX2_spark (l : Launch) (w : WE) (cs : List Nat) (hcs : ∀ c, c < 56 → c ∈ cs) (sz : Nat) (G : GS) (B : BS) (P : Int32 → GS → Prop) (h : wX2_spark G P) : Met l yX2_spark wsX2_spark (rmW 27) (PcW w cs sz G B [.ref (w.1 2)]) (QI w cs sz (fun r G1 B1 => P r G1 ∧ B = B1)) 0 0 (AA w cs sz) := by
  refine metW (own := RX2) [.ref (w.1 2)] (by decide +kernel) rfl rfl (Nat.le_of_ble_eq_true rfl) ?_
  intro p e s m below meth c ls hsz C hr hK hw hl
  subst hsz
  have hx := C.1
  have hb := C.2.1
  have hown := C.2.2.2.1
  have hta := fun w h => C.2.2.2.2 w (List.mem_cons_of_mem _ h)
  have hl : lv_has ls 1 [(0, .ref (w.1 2))] := hl
  refine lv_aload_n hx hb dX2_spark_0 rfl (lv_at hl 0 rfl) ?_
  refine lv_iconst (v := 0) hx hb dX2_spark_1 (by decide) ?_
  refine q_callv hw (va_runV (As := [.int (0 : Int32)]) (rest := []) C (mX2_loadColumns l w cs (fun c h => hcs c (by omega)) _ G B (0 : Int32) _ h) (cwV 1 hta (gVw kw_94 kw_95 kw_96 kw_56 kw_93) rfl rfl rfl (by decide +kernel) ⟨Nat.le_of_ble_eq_true rfl, Nat.le_of_ble_eq_true rfl⟩) (preV hK hw 2 (hcs _ (by omega)) (by unfold isB; omega) rfl rfl _) rfl rfl hl.1 rfl (lv_room (Nat.le_of_ble_eq_true rfl)) dX2_spark_2 ⟨Nat.le_refl 0, Nat.le_refl 0⟩) (fun G2 B2 H locs h hw => ?_)
  obtain ⟨h, e2⟩ := h; subst e2
  refine lv_aload_n hx hb dX2_spark_5 rfl (lv_at hl 0 rfl) ?_
  refine lv_aload_n hx hb dX2_spark_6 rfl (lv_at hl 0 rfl) ?_
  refine q_get (v := .ref (w.1 1)) (C := RX2) (T := TX2) (N := 11) (ci := 2) hx hb hta kw_X2 hown hK hw 2 (hcs _ (by omega)) (by unfold isB; omega) rfl rfl 0 (by decide) (hta _ kw_50) rfl rfl dX2_spark_7 ?_
  refine q_getN (v := .int (G2 1 2)) (host := RX5) (C := RX4) (T := TX4) (N := 5) (ci := 4) hx hb hta kw_X4 hown hK hw 1 (hcs _ (by omega)) (by unfold isB; omega) rfl rfl 2 (by decide) (by decide +kernel) rfl rfl dX2_spark_10 ?_
  refine lv_aload_n hx hb dX2_spark_13 rfl (lv_at hl 0 rfl) ?_
  refine q_get (v := .ref (w.1 1)) (C := RX2) (T := TX2) (N := 11) (ci := 2) hx hb hta kw_X2 hown hK hw 2 (hcs _ (by omega)) (by unfold isB; omega) rfl rfl 0 (by decide) (hta _ kw_50) rfl rfl dX2_spark_14 ?_
  refine q_getN (v := .int (G2 1 1)) (host := RX5) (C := RX4) (T := TX4) (N := 5) (ci := 4) hx hb hta kw_X4 hown hK hw 1 (hcs _ (by omega)) (by unfold isB; omega) rfl rfl 1 (by decide) (by decide +kernel) rfl rfl dX2_spark_17 ?_
  refine va_mmin hx hb (C.2.2.1.trans hl.1.symm) hown (hta _ kw_110) (hta _ kw_1) (hta _ kw_2) (hta _ kw_3) (Nat.le_of_ble_eq_true rfl) (Nat.le_of_ble_eq_true rfl) (Nat.le_refl 0) (Nat.le_refl 0) dX2_spark_20 ?_
  refine lv_iconst (v := 1) hx hb dX2_spark_23 (by decide) ?_
  refine lv_iadd hx hb dX2_spark_24 ?_
  refine q_put (x := ((if (G2 1 1) < (G2 1 2) then (G2 1 1) else (G2 1 2)) + (1 : Int32))) (C := RX2) (T := TX2) (N := 11) (ci := 2) hx hb hta kw_X2 tyX2 tyX2_ok nmX2 hown hK hw 2 (hcs _ (by omega)) (by unfold isB; omega) rfl rfl 10 (by decide) (hta _ kw_105) rfl rfl rfl (Nat.le_of_ble_eq_true rfl) rfl dX2_spark_25 (fun H locs G25 eG25 hw => ?_)
  have h := h G25 eG25
  refine lv_aload_n hx hb dX2_spark_28 rfl (lv_at hl 0 rfl) ?_
  refine lv_iconst (v := 0) hx hb dX2_spark_29 (by decide) ?_
  refine lv_aload_n hx hb dX2_spark_30 rfl (lv_at hl 0 rfl) ?_
  refine q_get (v := .ref (w.1 1)) (C := RX2) (T := TX2) (N := 11) (ci := 2) hx hb hta kw_X2 hown hK hw 2 (hcs _ (by omega)) (by unfold isB; omega) rfl rfl 0 (by decide) (hta _ kw_50) rfl rfl dX2_spark_31 ?_
  refine q_getN (v := .int (G25 1 2)) (host := RX5) (C := RX4) (T := TX4) (N := 5) (ci := 4) hx hb hta kw_X4 hown hK hw 1 (hcs _ (by omega)) (by unfold isB; omega) rfl rfl 2 (by decide) (by decide +kernel) rfl rfl dX2_spark_34 ?_
  refine q_callv hw (va_runV (As := [.int (0 : Int32), .int (G25 1 2)]) (rest := []) C (mX2_seekBoundN l w cs (fun c h => hcs c (by omega)) _ G25 B (0 : Int32) (G25 1 2) _ h) (cwV 2 hta (gVw kw_102 kw_103 kw_104 kw_56 kw_101) rfl rfl rfl (by decide +kernel) ⟨Nat.le_of_ble_eq_true rfl, Nat.le_of_ble_eq_true rfl⟩) (preV hK hw 2 (hcs _ (by omega)) (by unfold isB; omega) rfl rfl _) rfl rfl hl.1 rfl (lv_room (Nat.le_of_ble_eq_true rfl)) dX2_spark_37 ⟨Nat.le_refl 0, Nat.le_refl 0⟩) (fun G37 B37 H locs h hw => ?_)
  obtain ⟨h, e2⟩ := h; subst e2
  refine lv_aload_n hx hb dX2_spark_40 rfl (lv_at hl 0 rfl) ?_
  refine q_get (v := .int (G37 2 10)) (C := RX2) (T := TX2) (N := 11) (ci := 2) hx hb hta kw_X2 hown hK hw 2 (hcs _ (by omega)) (by unfold isB; omega) rfl rfl 10 (by decide) (hta _ kw_105) rfl rfl dX2_spark_41 ?_
  exact q_reti hx hb hr hw ⟨h, rfl⟩ dX2_spark_44
