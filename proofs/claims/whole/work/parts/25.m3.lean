def wlX3_shape_22 (K44 : BS → Prop) : Nat → Int32 → BS → Prop
  | 0, _, _ => False
  | n22 + 1, v3, B => (((nI 384) ≤ v3 → K44 B) ∧ (¬ (nI 384) ≤ v3 → (vp_in v3 384 ∧ (∀ B37 : BS, B37 = wrL B 16 (cl v3) (0 : Int64) → wlX3_shape_22 K44 n22 (v3 + (1 : Int32)) B37))))
def wX3_shape (v1 : Int32) (v2 : Int32) (G : GS) (B : BS) (P : GS → BS → Prop) : Prop := (∀ G2 : GS, G2 = wr G 5 0 v1 → (∀ G7 : GS, G7 = wr G2 5 1 v2 → (∀ G12 : GS, G12 = wr G7 5 2 (0 : Int32) → (∀ G17 : GS, G17 = wr G12 5 3 (0 : Int32) → (∃ z22 : Nat, wlX3_shape_22 (fun B_44 => P G17 B_44) z22 (0 : Int32) B)))))
set_option maxHeartbeats 4000000 in
set_option maxRecDepth 100000 in
theorem lX3_shape_22 {p : Program} {l : Launch} {e : Env} {s : State} {m : MethodId} {args : Array Value} {below : List Frame} {meth : Method} {c : Code} {Q : State → Prop} {w : WE} {cs : List Nat} {A : Nat → Prop} {H0 : Heap} (C : CallFix p m c cX3_shape 4 s args wsX3_shape RX3) (hK : KW w s) (hcs : ∀ c, (c = 5 ∨ (16 ≤ c ∧ c < 20)) → c ∈ cs) (G : GS) {K44 : BS → Prop} (k44 : ∀ (B : BS) (H : Heap) (locs : List Loc) (ls : Array Slot), K44 B → WO w cs A H0 G B H locs → lv_has ls 4 [] → W p l e (rmW 0) s m args below meth c H locs 0 0 Q (F0 m 44 ls [])) : ∀ (n : Nat) (v3 : Int32) (B : BS) (H : Heap) (locs : List Loc) (ls : Array Slot), wlX3_shape_22 K44 n v3 B → WO w cs A H0 G B H locs → lv_has ls 4 [(0, .ref (w.1 5)), (3, .int v3)] → W p l e (rmW 0) s m args below meth c H locs 0 0 Q (F0 m 22 ls []) := by
  have hx := C.1
  have hb := C.2.1
  have hown := C.2.2.2.1
  have hta := fun w h => C.2.2.2.2 w (List.mem_cons_of_mem _ h)
  intro n
  induction n with
  | zero => intro v3 B H locs ls h hw hl; exact False.elim h
  | succ n ih =>
    intro v3 B H locs ls h hw hl
    refine lv_iload_n hx hb dX3_shape_22 rfl (lv_at hl 1 rfl) ?_
    refine lv_aload_n hx hb dX3_shape_23 rfl (lv_at hl 0 rfl) ?_
    refine q_get (v := .ref (w.1 16)) (C := RX3) (T := TX3) (N := 8) (ci := 3) hx hb hta kw_X3 hown hK hw 5 (hcs _ (by omega)) (by unfold isB; omega) rfl rfl 4 (by decide) (hta _ kw_164) rfl rfl dX3_shape_24 ?_
    refine q_alenJ (n := 384) hx hb hK hw (hcs _ (by omega)) (by unfold isJ; omega) rfl dX3_shape_27 ?_
    refine lv_icmp_ge (tgt := 44) hx hb dX3_shape_28 (by decide) (fun c1 => ?_) (fun c1 => ?_)
    · have h := h.1 c1
      exact k44 B _ _ _ h hw (lv_sub hl [] rfl)
    · have h := h.2 c1
      refine lv_aload_n hx hb dX3_shape_31 rfl (lv_at hl 0 rfl) ?_
      refine q_get (v := .ref (w.1 16)) (C := RX3) (T := TX3) (N := 8) (ci := 3) hx hb hta kw_X3 hown hK hw 5 (hcs _ (by omega)) (by unfold isB; omega) rfl rfl 4 (by decide) (hta _ kw_164) rfl rfl dX3_shape_32 ?_
      refine lv_iload_n hx hb dX3_shape_35 rfl (lv_at hl 1 rfl) ?_
      refine lv_lconst (v := 0) hx hb dX3_shape_36 (by decide) ?_
      obtain ⟨hin2, h⟩ := h
      refine q_last (n := 384) hx hb hK hw (hcs _ (by omega)) (by unfold isJ; omega) rfl hin2 dX3_shape_37 (fun H locs B37 eB37 hw => ?_)
      have h := h B37 eB37
      refine lv_iinc (v := (v3 + (1 : Int32))) (lv' := [(3, .int (v3 + (1 : Int32))), (0, .ref (w.1 5))]) hx hb dX3_shape_38 hl (k := 1) rfl rfl (by decide) rfl (fun ls hl => ?_)
      refine lv_goto (tgt := 22) hx hb dX3_shape_41 (by decide) ?_
      exact ih (v3 + (1 : Int32)) B37 _ _ _ h hw (lv_sub hl [1, 0] rfl)
set_option maxHeartbeats 4000000 in
set_option maxRecDepth 100000 in
theorem mX3_shape (l : Launch) (w : WE) (cs : List Nat) (hcs : ∀ c, (c = 5 ∨ (16 ≤ c ∧ c < 20)) → c ∈ cs) (sz : Nat) (G : GS) (B : BS) (v1 : Int32) (v2 : Int32) (P : GS → BS → Prop) (h : wX3_shape v1 v2 G B P) : Met l yX3_shape wsX3_shape (rmW 0) (PcW w cs sz G B [.ref (w.1 5), .int v1, .int v2]) (QV w cs sz (fun G1 B1 => P G1 B1)) 0 0 (AA w cs sz) := by
  refine metW (own := RX3) [.ref (w.1 5), .int v1, .int v2] (by decide +kernel) rfl rfl (Nat.le_of_ble_eq_true rfl) ?_
  intro p e s m below meth c ls hsz C hr hK hw hl
  subst hsz
  have hx := C.1
  have hb := C.2.1
  have hown := C.2.2.2.1
  have hta := fun w h => C.2.2.2.2 w (List.mem_cons_of_mem _ h)
  have hl : lv_has ls 4 [(0, .ref (w.1 5)), (1, .int v1), (2, .int v2)] := hl
  refine lv_aload_n hx hb dX3_shape_0 rfl (lv_at hl 0 rfl) ?_
  refine lv_iload_n hx hb dX3_shape_1 rfl (lv_at hl 1 rfl) ?_
  refine q_put (x := v1) (C := RX3) (T := TX3) (N := 8) (ci := 3) hx hb hta kw_X3 tyX3 tyX3_ok nmX3 hown hK hw 5 (hcs _ (by omega)) (by unfold isB; omega) rfl rfl 0 (by decide) (hta _ kw_160) rfl rfl rfl (Nat.le_of_ble_eq_true rfl) rfl dX3_shape_2 (fun H locs G2 eG2 hw => ?_)
  have h := h G2 eG2
  refine lv_aload_n hx hb dX3_shape_5 rfl (lv_at hl 0 rfl) ?_
  refine lv_iload_n hx hb dX3_shape_6 rfl (lv_at hl 2 rfl) ?_
  refine q_put (x := v2) (C := RX3) (T := TX3) (N := 8) (ci := 3) hx hb hta kw_X3 tyX3 tyX3_ok nmX3 hown hK hw 5 (hcs _ (by omega)) (by unfold isB; omega) rfl rfl 1 (by decide) (hta _ kw_161) rfl rfl rfl (Nat.le_of_ble_eq_true rfl) rfl dX3_shape_7 (fun H locs G7 eG7 hw => ?_)
  have h := h G7 eG7
  refine lv_aload_n hx hb dX3_shape_10 rfl (lv_at hl 0 rfl) ?_
  refine lv_iconst (v := 0) hx hb dX3_shape_11 (by decide) ?_
  refine q_put (x := (0 : Int32)) (C := RX3) (T := TX3) (N := 8) (ci := 3) hx hb hta kw_X3 tyX3 tyX3_ok nmX3 hown hK hw 5 (hcs _ (by omega)) (by unfold isB; omega) rfl rfl 2 (by decide) (hta _ kw_162) rfl rfl rfl (Nat.le_of_ble_eq_true rfl) rfl dX3_shape_12 (fun H locs G12 eG12 hw => ?_)
  have h := h G12 eG12
  refine lv_aload_n hx hb dX3_shape_15 rfl (lv_at hl 0 rfl) ?_
  refine lv_iconst (v := 0) hx hb dX3_shape_16 (by decide) ?_
  refine q_put (x := (0 : Int32)) (C := RX3) (T := TX3) (N := 8) (ci := 3) hx hb hta kw_X3 tyX3 tyX3_ok nmX3 hown hK hw 5 (hcs _ (by omega)) (by unfold isB; omega) rfl rfl 3 (by decide) (hta _ kw_163) rfl rfl rfl (Nat.le_of_ble_eq_true rfl) rfl dX3_shape_17 (fun H locs G17 eG17 hw => ?_)
  have h := h G17 eG17
  refine lv_iconst (v := 0) hx hb dX3_shape_20 (by decide) ?_
  refine lv_istore_n (lv' := [(3, .int (0 : Int32)), (0, .ref (w.1 5)), (1, .int v1), (2, .int v2)]) hx hb dX3_shape_21 rfl hl (by decide) rfl (fun ls hl => ?_)
  obtain ⟨n22, h⟩ := h
  refine lX3_shape_22 C hK hcs G17 (K44 := _) ?_ n22 (0 : Int32) B _ _ _ h hw (lv_sub hl [1, 0] rfl)
  · intro B_44 H locs ls h hw hl
    exact q_retv hx hb hr hw h dX3_shape_44
def wX3_bucketOf (v1 : Int32) (v2 : Int32) (G : GS) (P : Int32 → Prop) : Prop := (¬ (((5 : Int32) * v1) + (7 : Int32)) = 0 ∧ (¬ (G 5 1) = 0 ∧ P (((v2 * (((2 : Int32) * v1) + (3 : Int32))) + (v2 / (((5 : Int32) * v1) + (7 : Int32)))) - ((v2 * (((2 : Int32) * v1) + (3 : Int32))) + (v2 / (((5 : Int32) * v1) + (7 : Int32)))) / (G 5 1) * (G 5 1))))
set_option maxHeartbeats 4000000 in
set_option maxRecDepth 100000 in
theorem mX3_bucketOf (l : Launch) (w : WE) (cs : List Nat) (hcs : ∀ c, c < 56 → c ∈ cs) (sz : Nat) (G : GS) (B : BS) (v1 : Int32) (v2 : Int32) (P : Int32 → Prop) (h : wX3_bucketOf v1 v2 G P) : Met l yX3_bucketOf wsX3_bucketOf (rmW 0) (PcW w cs sz G B [.ref (w.1 5), .int v1, .int v2]) (QI w cs sz (fun r G1 B1 => P r ∧ G = G1 ∧ B = B1)) 0 0 (AA w cs sz) := by
  refine metW (own := RX3) [.ref (w.1 5), .int v1, .int v2] (by decide +kernel) rfl rfl (Nat.le_of_ble_eq_true rfl) ?_
  intro p e s m below meth c ls hsz C hr hK hw hl
  subst hsz
  have hx := C.1
  have hb := C.2.1
  have hown := C.2.2.2.1
  have hta := fun w h => C.2.2.2.2 w (List.mem_cons_of_mem _ h)
  have hl : lv_has ls 3 [(0, .ref (w.1 5)), (1, .int v1), (2, .int v2)] := hl
  refine lv_iload_n hx hb dX3_bucketOf_0 rfl (lv_at hl 2 rfl) ?_
  refine lv_iconst (v := 2) hx hb dX3_bucketOf_1 (by decide) ?_
  refine lv_iload_n hx hb dX3_bucketOf_2 rfl (lv_at hl 1 rfl) ?_
  refine lv_imul hx hb dX3_bucketOf_3 ?_
  refine lv_iconst (v := 3) hx hb dX3_bucketOf_4 (by decide) ?_
  refine lv_iadd hx hb dX3_bucketOf_5 ?_
  refine lv_imul hx hb dX3_bucketOf_6 ?_
  refine lv_iload_n hx hb dX3_bucketOf_7 rfl (lv_at hl 2 rfl) ?_
  refine lv_iconst (v := 5) hx hb dX3_bucketOf_8 (by decide) ?_
  refine lv_iload_n hx hb dX3_bucketOf_9 rfl (lv_at hl 1 rfl) ?_
  refine lv_imul hx hb dX3_bucketOf_10 ?_
  refine lv_bipush (v := 7) hx hb dX3_bucketOf_11 (by decide) ?_
  refine lv_iadd hx hb dX3_bucketOf_13 ?_
  obtain ⟨hz1, h⟩ := h
  refine lv_idiv hx hb dX3_bucketOf_14 hz1 ?_
  refine lv_iadd hx hb dX3_bucketOf_15 ?_
  refine lv_aload_n hx hb dX3_bucketOf_16 rfl (lv_at hl 0 rfl) ?_
  refine q_get (v := .int (G 5 1)) (C := RX3) (T := TX3) (N := 8) (ci := 3) hx hb hta kw_X3 hown hK hw 5 (hcs _ (by omega)) (by unfold isB; omega) rfl rfl 1 (by decide) (hta _ kw_161) rfl rfl dX3_bucketOf_17 ?_
  obtain ⟨hz2, h⟩ := h
  refine lv_irem hx hb dX3_bucketOf_20 hz2 ?_
  exact q_reti hx hb hr hw ⟨h, rfl, rfl⟩ dX3_bucketOf_21
def wlX3_join_11 (K80 : BS → Prop) (a1 : Nat) (v2 : Int32) (v3 : Int64) (v5 : Int64) (G : GS) : Nat → Int32 → BS → Prop
  | 0, _, _ => False
  | n11 + 1, v7, B => (((G 5 0) ≤ v7 → K80 B) ∧ (¬ (G 5 0) ≤ v7 → (wX3_bucketOf v7 v2 G (fun r26 => (wX3_start v7 r26 (fun r29 => (vp_in r29 (ln a1) ∧ (vp_in r29 (ln a1) ∧ (∀ B41 : BS, B41 = wrL B a1 (cl r29) ((B a1 (cl r29)) + v3) → (vp_in (r29 + (1 : Int32)) (ln a1) ∧ (vp_in (r29 + (1 : Int32)) (ln a1) ∧ (∀ B54 : BS, B54 = wrL B41 a1 (cl (r29 + (1 : Int32))) ((B41 a1 (cl (r29 + (1 : Int32)))) + (v3 * v2.toInt64)) → (vp_in (r29 + (2 : Int32)) (ln a1) ∧ (vp_in (r29 + (2 : Int32)) (ln a1) ∧ (∀ B73 : BS, B73 = wrL B54 a1 (cl (r29 + (2 : Int32))) (((B54 a1 (cl (r29 + (2 : Int32)))) + v5) - ((B54 a1 (cl (r29 + (2 : Int32)))) + v5) / (1000003 : Int64) * (1000003 : Int64)) → wlX3_join_11 K80 a1 v2 v3 v5 G n11 (v7 + (1 : Int32)) B73)))))))))))))))
def wX3_join (a1 : Nat) (v2 : Int32) (v3 : Int64) (G : GS) (B : BS) (P : BS → Prop) : Prop := (wX3_squareSum v2.toInt64 v3 (fun r3 => (∃ z11 : Nat, wlX3_join_11 (fun B_80 => P B_80) a1 v2 v3 r3 G z11 (0 : Int32) B)))
set_option maxHeartbeats 4000000 in
set_option maxRecDepth 100000 in
theorem lX3_join_11 {p : Program} {l : Launch} {e : Env} {s : State} {m : MethodId} {args : Array Value} {below : List Frame} {meth : Method} {c : Code} {Q : State → Prop} {w : WE} {cs : List Nat} {A : Nat → Prop} {H0 : Heap} (C : CallFix p m c cX3_join 9 s args wsX3_join RX3) (hK : KW w s) (hcs : ∀ c, c < 56 → c ∈ cs) (a1 : Nat) (ha1J : isJ a1) (ha1C : a1 ∈ cs) (v2 : Int32) (v3 : Int64) (v5 : Int64) (G : GS) {K80 : BS → Prop} (k80 : ∀ (B : BS) (H : Heap) (locs : List Loc) (ls : Array Slot), K80 B → WO w cs A H0 G B H locs → lv_has ls 9 [] → W p l e (rmW 2) s m args below meth c H locs 0 0 Q (F0 m 80 ls [])) : ∀ (n : Nat) (v7 : Int32) (B : BS) (H : Heap) (locs : List Loc) (ls : Array Slot), wlX3_join_11 K80 a1 v2 v3 v5 G n v7 B → WO w cs A H0 G B H locs → lv_has ls 9 [(0, .ref (w.1 5)), (1, .ref (w.1 a1)), (2, .int v2), (3, .long v3), (5, .long v5), (7, .int v7)] → W p l e (rmW 2) s m args below meth c H locs 0 0 Q (F0 m 11 ls []) := by
  have hx := C.1
  have hb := C.2.1
  have hown := C.2.2.2.1
  have hta := fun w h => C.2.2.2.2 w (List.mem_cons_of_mem _ h)
  intro n
  induction n with
  | zero => intro v7 B H locs ls h hw hl; exact False.elim h
  | succ n ih =>
    intro v7 B H locs ls h hw hl
    refine lv_iload hx hb dX3_join_11 (lv_at hl 5 rfl) ?_
    refine lv_aload_n hx hb dX3_join_13 rfl (lv_at hl 0 rfl) ?_
    refine q_get (v := .int (G 5 0)) (C := RX3) (T := TX3) (N := 8) (ci := 3) hx hb hta kw_X3 hown hK hw 5 (hcs _ (by omega)) (by unfold isB; omega) rfl rfl 0 (by decide) (hta _ kw_160) rfl rfl dX3_join_14 ?_
    refine lv_icmp_ge (tgt := 80) hx hb dX3_join_17 (by decide) (fun c1 => ?_) (fun c1 => ?_)
    · have h := h.1 c1
      exact k80 B _ _ _ h hw (lv_sub hl [] rfl)
    · have h := h.2 c1
      refine lv_iload hx hb dX3_join_20 (lv_at hl 5 rfl) ?_
      refine lv_aload_n hx hb dX3_join_22 rfl (lv_at hl 0 rfl) ?_
      refine lv_iload hx hb dX3_join_23 (lv_at hl 5 rfl) ?_
      refine lv_iload_n hx hb dX3_join_25 rfl (lv_at hl 2 rfl) ?_
      refine q_calli hw (va_runV (As := [.int v7, .int v2]) (rest := [.int v7]) C (mX3_bucketOf l w cs (fun c h => hcs c (by omega)) _ G B v7 v2 _ h) (cwV 2 hta (gVw kw_170 kw_171 kw_172 kw_168 kw_169) rfl rfl rfl (by decide +kernel) ⟨Nat.le_of_ble_eq_true rfl, Nat.le_of_ble_eq_true rfl⟩) (preV hK hw 5 (hcs _ (by omega)) (by unfold isB; omega) rfl rfl _) rfl rfl hl.1 rfl (lv_room (Nat.le_of_ble_eq_true rfl)) dX3_join_26 ⟨Nat.le_refl 0, Nat.le_refl 0⟩) (fun r26 G26 B26 H locs h hw => ?_)
      obtain ⟨h, e1, e2⟩ := h; subst e1; subst e2
      refine q_calli hw (va_runS (As := [.int v7, .int r26]) (rest := []) C (mX3_start l w cs _ G B v7 r26 _ h) (va_cwS 2 hta (gSw kw_174 kw_175 kw_168 kw_173) rfl rfl rfl (by decide +kernel) ⟨Nat.le_of_ble_eq_true rfl, Nat.le_of_ble_eq_true rfl⟩) (preS hK hw _) rfl rfl hl.1 rfl (lv_room (Nat.le_of_ble_eq_true rfl)) dX3_join_29 ⟨Nat.le_refl 0, Nat.le_refl 0⟩) (fun r29 G29 B29 H locs h hw => ?_)
      obtain ⟨h, e1, e2⟩ := h; subst e1; subst e2
      refine lv_istore (lv' := [(8, .int r29), (0, .ref (w.1 5)), (1, .ref (w.1 a1)), (2, .int v2), (3, .long v3), (5, .long v5), (7, .int v7)]) hx hb dX3_join_32 hl (by decide) rfl (fun ls hl => ?_)
      refine lv_aload_n hx hb dX3_join_34 rfl (lv_at hl 2 rfl) ?_
      refine lv_iload hx hb dX3_join_35 (lv_at hl 0 rfl) ?_
      refine lv_dup2_11 hx hb dX3_join_37 rfl rfl ?_
      obtain ⟨hin2, h⟩ := h
      refine q_lald (n := (ln a1)) hx hb hK hw ha1C ha1J rfl hin2 dX3_join_38 ?_
      refine lv_lload_n hx hb dX3_join_39 rfl (lv_at hl 4 rfl) ?_
      refine lv_ladd hx hb dX3_join_40 ?_
      obtain ⟨hin3, h⟩ := h
      refine q_last (n := (ln a1)) hx hb hK hw ha1C ha1J rfl hin3 dX3_join_41 (fun H locs B41 eB41 hw => ?_)
      have h := h B41 eB41
      refine lv_aload_n hx hb dX3_join_42 rfl (lv_at hl 2 rfl) ?_
      refine lv_iload hx hb dX3_join_43 (lv_at hl 0 rfl) ?_
      refine lv_iconst (v := 1) hx hb dX3_join_45 (by decide) ?_
      refine lv_iadd hx hb dX3_join_46 ?_
      refine lv_dup2_11 hx hb dX3_join_47 rfl rfl ?_
      obtain ⟨hin4, h⟩ := h
      refine q_lald (n := (ln a1)) hx hb hK hw ha1C ha1J rfl hin4 dX3_join_48 ?_
      refine lv_lload_n hx hb dX3_join_49 rfl (lv_at hl 4 rfl) ?_
      refine lv_iload_n hx hb dX3_join_50 rfl (lv_at hl 3 rfl) ?_
      refine lv_i2l hx hb dX3_join_51 rfl ?_
      refine lv_lmul hx hb dX3_join_52 ?_
      refine lv_ladd hx hb dX3_join_53 ?_
      obtain ⟨hin5, h⟩ := h
      refine q_last (n := (ln a1)) hx hb hK hw ha1C ha1J rfl hin5 dX3_join_54 (fun H locs B54 eB54 hw => ?_)
      have h := h B54 eB54
      refine lv_aload_n hx hb dX3_join_55 rfl (lv_at hl 2 rfl) ?_
      refine lv_iload hx hb dX3_join_56 (lv_at hl 0 rfl) ?_
      refine lv_iconst (v := 2) hx hb dX3_join_58 (by decide) ?_
      refine lv_iadd hx hb dX3_join_59 ?_
      refine lv_aload_n hx hb dX3_join_60 rfl (lv_at hl 2 rfl) ?_
      refine lv_iload hx hb dX3_join_61 (lv_at hl 0 rfl) ?_
      refine lv_iconst (v := 2) hx hb dX3_join_63 (by decide) ?_
      refine lv_iadd hx hb dX3_join_64 ?_
      obtain ⟨hin6, h⟩ := h
      refine q_lald (n := (ln a1)) hx hb hK hw ha1C ha1J rfl hin6 dX3_join_65 ?_
      refine lv_lload hx hb dX3_join_66 (lv_at hl 5 rfl) ?_
      refine lv_ladd hx hb dX3_join_68 ?_
      refine lv_ldc2 hx hb hown (hta _ kw_7) dX3_join_69 ?_
      refine lv_lrem hx hb dX3_join_72 (by decide) ?_
      obtain ⟨hin7, h⟩ := h
      refine q_last (n := (ln a1)) hx hb hK hw ha1C ha1J rfl hin7 dX3_join_73 (fun H locs B73 eB73 hw => ?_)
      have h := h B73 eB73
      refine lv_iinc (v := (v7 + (1 : Int32))) (lv' := [(7, .int (v7 + (1 : Int32))), (8, .int r29), (0, .ref (w.1 5)), (1, .ref (w.1 a1)), (2, .int v2), (3, .long v3), (5, .long v5)]) hx hb dX3_join_74 hl (k := 6) rfl rfl (by decide) rfl (fun ls hl => ?_)
      refine lv_goto (tgt := 11) hx hb dX3_join_77 (by decide) ?_
      exact ih (v7 + (1 : Int32)) B73 _ _ _ h hw (lv_sub hl [2, 3, 4, 5, 6, 0] rfl)
set_option maxHeartbeats 4000000 in
set_option maxRecDepth 100000 in
theorem mX3_join (l : Launch) (w : WE) (cs : List Nat) (hcs : ∀ c, c < 56 → c ∈ cs) (sz : Nat) (G : GS) (B : BS) (a1 : Nat) (ha1J : isJ a1) (ha1C : a1 ∈ cs) (v2 : Int32) (v3 : Int64) (P : BS → Prop) (h : wX3_join a1 v2 v3 G B P) : Met l yX3_join wsX3_join (rmW 2) (PcW w cs sz G B [.ref (w.1 5), .ref (w.1 a1), .int v2, .long v3]) (QV w cs sz (fun G1 B1 => G = G1 ∧ P B1)) 0 0 (AA w cs sz) := by
  refine metW (own := RX3) [.ref (w.1 5), .ref (w.1 a1), .int v2, .long v3] (by decide +kernel) rfl rfl (Nat.le_of_ble_eq_true rfl) ?_
  intro p e s m below meth c ls hsz C hr hK hw hl
  subst hsz
  have hx := C.1
  have hb := C.2.1
  have hown := C.2.2.2.1
  have hta := fun w h => C.2.2.2.2 w (List.mem_cons_of_mem _ h)
  have hl : lv_has ls 9 [(0, .ref (w.1 5)), (1, .ref (w.1 a1)), (2, .int v2), (3, .long v3)] := hl
  refine lv_iload_n hx hb dX3_join_0 rfl (lv_at hl 2 rfl) ?_
  refine lv_i2l hx hb dX3_join_1 rfl ?_
  refine lv_lload_n hx hb dX3_join_2 rfl (lv_at hl 3 rfl) ?_
  refine q_calll hw (va_runS (As := [.long v2.toInt64, .long v3]) (rest := []) C (mX3_squareSum l w cs _ G B v2.toInt64 v3 _ h) (va_cwS 2 hta (gSw kw_166 kw_167 kw_168 kw_165) rfl rfl rfl (by decide +kernel) ⟨Nat.le_of_ble_eq_true rfl, Nat.le_of_ble_eq_true rfl⟩) (preS hK hw _) rfl rfl hl.1 rfl (lv_room (Nat.le_of_ble_eq_true rfl)) dX3_join_3 ⟨Nat.le_refl 0, Nat.le_refl 0⟩) (fun r3 G3 B3 H locs h hw => ?_)
  obtain ⟨h, e1, e2⟩ := h; subst e1; subst e2
  refine lv_lstore (lv' := [(5, .long r3), (0, .ref (w.1 5)), (1, .ref (w.1 a1)), (2, .int v2), (3, .long v3)]) hx hb dX3_join_6 hl (by decide) rfl (fun ls hl => ?_)
  refine lv_iconst (v := 0) hx hb dX3_join_8 (by decide) ?_
  refine lv_istore (lv' := [(7, .int (0 : Int32)), (5, .long r3), (0, .ref (w.1 5)), (1, .ref (w.1 a1)), (2, .int v2), (3, .long v3)]) hx hb dX3_join_9 hl (by decide) rfl (fun ls hl => ?_)
  obtain ⟨n11, h⟩ := h
  refine lX3_join_11 C hK hcs a1 ha1J ha1C v2 v3 r3 G (K80 := _) ?_ n11 (0 : Int32) B _ _ _ h hw (lv_sub hl [2, 3, 4, 5, 1, 0] rfl)
  · intro B_80 H locs ls h hw hl
    exact q_retv hx hb hr hw ⟨rfl, h⟩ dX3_join_80
def wX3_putNumber (v1 : Int32) (v2 : Int32) (G : GS) (B : BS) (P : GS → BS → Prop) : Prop := (wX3_join 16 v1 v2.toInt64 G B (fun B8 => (∀ G18 : GS, G18 = wr G 5 2 ((G 5 2) + (1 : Int32)) → P G18 B8)))
set_option maxHeartbeats 4000000 in
set_option maxRecDepth 100000 in
theorem mX3_putNumber (l : Launch) (w : WE) (cs : List Nat) (hcs : ∀ c, c < 56 → c ∈ cs) (sz : Nat) (G : GS) (B : BS) (v1 : Int32) (v2 : Int32) (P : GS → BS → Prop) (h : wX3_putNumber v1 v2 G B P) : Met l yX3_putNumber wsX3_putNumber (rmW 3) (PcW w cs sz G B [.ref (w.1 5), .int v1, .int v2]) (QV w cs sz (fun G1 B1 => P G1 B1)) 0 0 (AA w cs sz) := by
  refine metW (own := RX3) [.ref (w.1 5), .int v1, .int v2] (by decide +kernel) rfl rfl (Nat.le_of_ble_eq_true rfl) ?_
  intro p e s m below meth c ls hsz C hr hK hw hl
  subst hsz
  have hx := C.1
  have hb := C.2.1
  have hown := C.2.2.2.1
  have hta := fun w h => C.2.2.2.2 w (List.mem_cons_of_mem _ h)
  have hl : lv_has ls 3 [(0, .ref (w.1 5)), (1, .int v1), (2, .int v2)] := hl
  refine lv_aload_n hx hb dX3_putNumber_0 rfl (lv_at hl 0 rfl) ?_
  refine lv_aload_n hx hb dX3_putNumber_1 rfl (lv_at hl 0 rfl) ?_
  refine q_get (v := .ref (w.1 16)) (C := RX3) (T := TX3) (N := 8) (ci := 3) hx hb hta kw_X3 hown hK hw 5 (hcs _ (by omega)) (by unfold isB; omega) rfl rfl 4 (by decide) (hta _ kw_164) rfl rfl dX3_putNumber_2 ?_
  refine lv_iload_n hx hb dX3_putNumber_5 rfl (lv_at hl 1 rfl) ?_
  refine lv_iload_n hx hb dX3_putNumber_6 rfl (lv_at hl 2 rfl) ?_
  refine lv_i2l hx hb dX3_putNumber_7 rfl ?_
  refine q_callv hw (va_runV (As := [.ref (w.1 16), .int v1, .long v2.toInt64]) (rest := []) C (mX3_join l w cs (fun c h => hcs c (by omega)) _ G B 16 (by unfold isJ; omega) (hcs _ (by omega)) v1 v2.toInt64 _ h) (cwV 3 hta (gVw kw_177 kw_178 kw_179 kw_168 kw_176) rfl rfl rfl (by decide +kernel) ⟨Nat.le_of_ble_eq_true rfl, Nat.le_of_ble_eq_true rfl⟩) (preV hK hw 5 (hcs _ (by omega)) (by unfold isB; omega) rfl rfl _) rfl rfl hl.1 rfl (lv_room (Nat.le_of_ble_eq_true rfl)) dX3_putNumber_8 ⟨Nat.le_refl 0, Nat.le_refl 0⟩) (fun G8 B8 H locs h hw => ?_)
  obtain ⟨e1, h⟩ := h; subst e1
  refine lv_aload_n hx hb dX3_putNumber_11 rfl (lv_at hl 0 rfl) ?_
  refine lv_dup hx hb dX3_putNumber_12 rfl ?_
  refine q_get (v := .int (G 5 2)) (C := RX3) (T := TX3) (N := 8) (ci := 3) hx hb hta kw_X3 hown hK hw 5 (hcs _ (by omega)) (by unfold isB; omega) rfl rfl 2 (by decide) (hta _ kw_162) rfl rfl dX3_putNumber_13 ?_
  refine lv_iconst (v := 1) hx hb dX3_putNumber_16 (by decide) ?_
  refine lv_iadd hx hb dX3_putNumber_17 ?_
  refine q_put (x := ((G 5 2) + (1 : Int32))) (C := RX3) (T := TX3) (N := 8) (ci := 3) hx hb hta kw_X3 tyX3 tyX3_ok nmX3 hown hK hw 5 (hcs _ (by omega)) (by unfold isB; omega) rfl rfl 2 (by decide) (hta _ kw_162) rfl rfl rfl (Nat.le_of_ble_eq_true rfl) rfl dX3_putNumber_18 (fun H locs G18 eG18 hw => ?_)
  have h := h G18 eG18
  exact q_retv hx hb hr hw h dX3_putNumber_21
def wX3_isSingle (v1 : Int32) (v2 : Int32) (G : GS) (B : BS) (P : Int32 → Prop) : Prop := (wX3_start v1 v2 (fun r2 => (vp_in r2 384 ∧ (∀ x12 : Int64, x12 = (B 17 (cl r2)) → (((lg_cmp x12 (0 : Int64)) = 0 → P (0 : Int32)) ∧ (¬ (lg_cmp x12 (0 : Int64)) = 0 → (vp_in (r2 + (1 : Int32)) 384 ∧ (¬ x12 = 0 ∧ (((lg_cmp ((B 17 (cl (r2 + (1 : Int32)))) - (B 17 (cl (r2 + (1 : Int32)))) / x12 * x12) (0 : Int64)) = 0 → (vp_in (r2 + (1 : Int32)) 384 ∧ (¬ x12 = 0 ∧ (∀ x50 : Int64, x50 = ((B 17 (cl (r2 + (1 : Int32)))) / x12) → (((lg_cmp x50 (0 : Int64)) < 0 → P (0 : Int32)) ∧ (¬ (lg_cmp x50 (0 : Int64)) < 0 → ((0 < (lg_cmp x50 (999999 : Int64)) → P (0 : Int32)) ∧ (¬ 0 < (lg_cmp x50 (999999 : Int64)) → (wX3_bucketOf v1 x50.toInt32 G (fun r73 => ((r73 = v2 → (wX3_squareSum x50 x12 (fun r86 => (vp_in (r2 + (2 : Int32)) 384 ∧ ((¬ (lg_cmp r86 (B 17 (cl (r2 + (2 : Int32))))) = 0 → P (0 : Int32)) ∧ ((lg_cmp r86 (B 17 (cl (r2 + (2 : Int32))))) = 0 → P (1 : Int32))))))) ∧ (¬ r73 = v2 → P (0 : Int32))))))))))))) ∧ (¬ (lg_cmp ((B 17 (cl (r2 + (1 : Int32)))) - (B 17 (cl (r2 + (1 : Int32)))) / x12 * x12) (0 : Int64)) = 0 → P (0 : Int32)))))))))))
set_option maxHeartbeats 4000000 in
set_option maxRecDepth 100000 in
theorem mX3_isSingle (l : Launch) (w : WE) (cs : List Nat) (hcs : ∀ c, c < 56 → c ∈ cs) (sz : Nat) (G : GS) (B : BS) (v1 : Int32) (v2 : Int32) (P : Int32 → Prop) (h : wX3_isSingle v1 v2 G B P) : Met l yX3_isSingle wsX3_isSingle (rmW 2) (PcW w cs sz G B [.ref (w.1 5), .int v1, .int v2]) (QI w cs sz (fun r G1 B1 => P r ∧ G = G1 ∧ B = B1)) 0 0 (AA w cs sz) := by
  refine metW (own := RX3) [.ref (w.1 5), .int v1, .int v2] (by decide +kernel) rfl rfl (Nat.le_of_ble_eq_true rfl) ?_
  intro p e s m below meth c ls hsz C hr hK hw hl
  subst hsz
  have hx := C.1
  have hb := C.2.1
  have hown := C.2.2.2.1
  have hta := fun w h => C.2.2.2.2 w (List.mem_cons_of_mem _ h)
  have hl : lv_has ls 8 [(0, .ref (w.1 5)), (1, .int v1), (2, .int v2)] := hl
  refine lv_iload_n hx hb dX3_isSingle_0 rfl (lv_at hl 1 rfl) ?_
  refine lv_iload_n hx hb dX3_isSingle_1 rfl (lv_at hl 2 rfl) ?_
  refine q_calli hw (va_runS (As := [.int v1, .int v2]) (rest := []) C (mX3_start l w cs _ G B v1 v2 _ h) (va_cwS 2 hta (gSw kw_174 kw_175 kw_168 kw_173) rfl rfl rfl (by decide +kernel) ⟨Nat.le_of_ble_eq_true rfl, Nat.le_of_ble_eq_true rfl⟩) (preS hK hw _) rfl rfl hl.1 rfl (lv_room (Nat.le_of_ble_eq_true rfl)) dX3_isSingle_2 ⟨Nat.le_refl 0, Nat.le_refl 0⟩) (fun r2 G2 B2 H locs h hw => ?_)
  obtain ⟨h, e1, e2⟩ := h; subst e1; subst e2
  refine lv_istore_n (lv' := [(3, .int r2), (0, .ref (w.1 5)), (1, .int v1), (2, .int v2)]) hx hb dX3_isSingle_5 rfl hl (by decide) rfl (fun ls hl => ?_)
  refine lv_aload_n hx hb dX3_isSingle_6 rfl (lv_at hl 1 rfl) ?_
  refine q_get (v := .ref (w.1 17)) (C := RX3) (T := TX3) (N := 8) (ci := 3) hx hb hta kw_X3 hown hK hw 5 (hcs _ (by omega)) (by unfold isB; omega) rfl rfl 5 (by decide) (hta _ kw_180) rfl rfl dX3_isSingle_7 ?_
  refine lv_iload_n hx hb dX3_isSingle_10 rfl (lv_at hl 0 rfl) ?_
  obtain ⟨hin1, h⟩ := h
  refine q_lald (n := 384) hx hb hK hw (hcs _ (by omega)) (by unfold isJ; omega) rfl hin1 dX3_isSingle_11 ?_
  refine lv_topl (fun x12 ex12 => ?_)
  have h := h x12 ex12
  refine lv_lstore (lv' := [(4, .long x12), (3, .int r2), (0, .ref (w.1 5)), (1, .int v1), (2, .int v2)]) hx hb dX3_isSingle_12 hl (by decide) rfl (fun ls hl => ?_)
  refine lv_lload hx hb dX3_isSingle_14 (lv_at hl 0 rfl) ?_
  refine lv_lconst (v := 0) hx hb dX3_isSingle_16 (by decide) ?_
  refine W.lcmp hx hb dX3_isSingle_17 ?_
  refine lv_if_eq (tgt := 37) hx hb dX3_isSingle_18 (by decide) (fun c2 => ?_) (fun c2 => ?_)
  · have h := h.1 c2
    refine lv_iconst (v := 0) hx hb dX3_isSingle_37 (by decide) ?_
    exact q_retz hx hb hr hw (Or.inl rfl) ⟨h, rfl, rfl⟩ dX3_isSingle_38
  · have h := h.2 c2
    refine lv_aload_n hx hb dX3_isSingle_21 rfl (lv_at hl 2 rfl) ?_
    refine q_get (v := .ref (w.1 17)) (C := RX3) (T := TX3) (N := 8) (ci := 3) hx hb hta kw_X3 hown hK hw 5 (hcs _ (by omega)) (by unfold isB; omega) rfl rfl 5 (by decide) (hta _ kw_180) rfl rfl dX3_isSingle_22 ?_
    refine lv_iload_n hx hb dX3_isSingle_25 rfl (lv_at hl 1 rfl) ?_
    refine lv_iconst (v := 1) hx hb dX3_isSingle_26 (by decide) ?_
    refine lv_iadd hx hb dX3_isSingle_27 ?_
    obtain ⟨hin3, h⟩ := h
    refine q_lald (n := 384) hx hb hK hw (hcs _ (by omega)) (by unfold isJ; omega) rfl hin3 dX3_isSingle_28 ?_
    refine lv_lload hx hb dX3_isSingle_29 (lv_at hl 0 rfl) ?_
    obtain ⟨hz4, h⟩ := h
    refine lv_lrem hx hb dX3_isSingle_31 hz4 ?_
    refine lv_lconst (v := 0) hx hb dX3_isSingle_32 (by decide) ?_
    refine W.lcmp hx hb dX3_isSingle_33 ?_
    refine lv_if_eq (tgt := 39) hx hb dX3_isSingle_34 (by decide) (fun c5 => ?_) (fun c5 => ?_)
    · have h := h.1 c5
      refine lv_aload_n hx hb dX3_isSingle_39 rfl (lv_at hl 2 rfl) ?_
      refine q_get (v := .ref (w.1 17)) (C := RX3) (T := TX3) (N := 8) (ci := 3) hx hb hta kw_X3 hown hK hw 5 (hcs _ (by omega)) (by unfold isB; omega) rfl rfl 5 (by decide) (hta _ kw_180) rfl rfl dX3_isSingle_40 ?_
      refine lv_iload_n hx hb dX3_isSingle_43 rfl (lv_at hl 1 rfl) ?_
      refine lv_iconst (v := 1) hx hb dX3_isSingle_44 (by decide) ?_
      refine lv_iadd hx hb dX3_isSingle_45 ?_
      obtain ⟨hin6, h⟩ := h
      refine q_lald (n := 384) hx hb hK hw (hcs _ (by omega)) (by unfold isJ; omega) rfl hin6 dX3_isSingle_46 ?_
      refine lv_lload hx hb dX3_isSingle_47 (lv_at hl 0 rfl) ?_
      obtain ⟨hz7, h⟩ := h
      refine lv_ldiv hx hb dX3_isSingle_49 hz7 ?_
      refine lv_topl (fun x50 ex50 => ?_)
      have h := h x50 ex50
      refine lv_lstore (lv' := [(6, .long x50), (4, .long x12), (3, .int r2), (0, .ref (w.1 5)), (1, .int v1), (2, .int v2)]) hx hb dX3_isSingle_50 hl (by decide) rfl (fun ls hl => ?_)
      refine lv_lload hx hb dX3_isSingle_52 (lv_at hl 0 rfl) ?_
      refine lv_lconst (v := 0) hx hb dX3_isSingle_54 (by decide) ?_
      refine W.lcmp hx hb dX3_isSingle_55 ?_
      refine lv_if_lt (tgt := 80) hx hb dX3_isSingle_56 (by decide) (fun c8 => ?_) (fun c8 => ?_)
      · have h := h.1 c8
        refine lv_iconst (v := 0) hx hb dX3_isSingle_80 (by decide) ?_
        exact q_retz hx hb hr hw (Or.inl rfl) ⟨h, rfl, rfl⟩ dX3_isSingle_81
      · have h := h.2 c8
        refine lv_lload hx hb dX3_isSingle_59 (lv_at hl 0 rfl) ?_
        refine lv_ldc2 hx hb hown (hta _ kw_181) dX3_isSingle_61 ?_
        refine W.lcmp hx hb dX3_isSingle_64 ?_
        refine lv_if_gt (tgt := 80) hx hb dX3_isSingle_65 (by decide) (fun c9 => ?_) (fun c9 => ?_)
        · have h := h.1 c9
          refine lv_iconst (v := 0) hx hb dX3_isSingle_80 (by decide) ?_
          exact q_retz hx hb hr hw (Or.inl rfl) ⟨h, rfl, rfl⟩ dX3_isSingle_81
        · have h := h.2 c9
          refine lv_aload_n hx hb dX3_isSingle_68 rfl (lv_at hl 3 rfl) ?_
          refine lv_iload_n hx hb dX3_isSingle_69 rfl (lv_at hl 4 rfl) ?_
          refine lv_lload hx hb dX3_isSingle_70 (lv_at hl 0 rfl) ?_
          refine lv_l2i hx hb dX3_isSingle_72 rfl ?_
          refine q_calli hw (va_runV (As := [.int v1, .int x50.toInt32]) (rest := []) C (mX3_bucketOf l w cs (fun c h => hcs c (by omega)) _ G B v1 x50.toInt32 _ h) (cwV 2 hta (gVw kw_170 kw_171 kw_172 kw_168 kw_169) rfl rfl rfl (by decide +kernel) ⟨Nat.le_of_ble_eq_true rfl, Nat.le_of_ble_eq_true rfl⟩) (preV hK hw 5 (hcs _ (by omega)) (by unfold isB; omega) rfl rfl _) rfl rfl hl.1 rfl (lv_room (Nat.le_of_ble_eq_true rfl)) dX3_isSingle_73 ⟨Nat.le_refl 0, Nat.le_refl 0⟩) (fun r73 G73 B73 H locs h hw => ?_)
          obtain ⟨h, e1, e2⟩ := h; subst e1; subst e2
          refine lv_iload_n hx hb dX3_isSingle_76 rfl (lv_at hl 5 rfl) ?_
          refine lv_icmp_eq (tgt := 82) hx hb dX3_isSingle_77 (by decide) (fun c10 => ?_) (fun c10 => ?_)
          · have h := h.1 c10
            refine lv_lload hx hb dX3_isSingle_82 (lv_at hl 0 rfl) ?_
            refine lv_lload hx hb dX3_isSingle_84 (lv_at hl 1 rfl) ?_
            refine q_calll hw (va_runS (As := [.long x50, .long x12]) (rest := []) C (mX3_squareSum l w cs _ G B x50 x12 _ h) (va_cwS 2 hta (gSw kw_166 kw_167 kw_168 kw_165) rfl rfl rfl (by decide +kernel) ⟨Nat.le_of_ble_eq_true rfl, Nat.le_of_ble_eq_true rfl⟩) (preS hK hw _) rfl rfl hl.1 rfl (lv_room (Nat.le_of_ble_eq_true rfl)) dX3_isSingle_86 ⟨Nat.le_refl 0, Nat.le_refl 0⟩) (fun r86 G86 B86 H locs h hw => ?_)
            obtain ⟨h, e1, e2⟩ := h; subst e1; subst e2
            refine lv_aload_n hx hb dX3_isSingle_89 rfl (lv_at hl 3 rfl) ?_
            refine q_get (v := .ref (w.1 17)) (C := RX3) (T := TX3) (N := 8) (ci := 3) hx hb hta kw_X3 hown hK hw 5 (hcs _ (by omega)) (by unfold isB; omega) rfl rfl 5 (by decide) (hta _ kw_180) rfl rfl dX3_isSingle_90 ?_
            refine lv_iload_n hx hb dX3_isSingle_93 rfl (lv_at hl 2 rfl) ?_
            refine lv_iconst (v := 2) hx hb dX3_isSingle_94 (by decide) ?_
            refine lv_iadd hx hb dX3_isSingle_95 ?_
            obtain ⟨hin11, h⟩ := h
            refine q_lald (n := 384) hx hb hK hw (hcs _ (by omega)) (by unfold isJ; omega) rfl hin11 dX3_isSingle_96 ?_
            refine W.lcmp hx hb dX3_isSingle_97 ?_
            refine lv_if_ne (tgt := 105) hx hb dX3_isSingle_98 (by decide) (fun c12 => ?_) (fun c12 => ?_)
            · have h := h.1 c12
              refine lv_iconst (v := 0) hx hb dX3_isSingle_105 (by decide) ?_
              exact q_retz hx hb hr hw (Or.inl rfl) ⟨h, rfl, rfl⟩ dX3_isSingle_106
            · have h := h.2 c12
              refine lv_iconst (v := 1) hx hb dX3_isSingle_101 (by decide) ?_
              refine lv_goto (tgt := 106) hx hb dX3_isSingle_102 (by decide) ?_
              exact q_retz hx hb hr hw (Or.inr rfl) ⟨h, rfl, rfl⟩ dX3_isSingle_106
          · have h := h.2 c10
            refine lv_iconst (v := 0) hx hb dX3_isSingle_80 (by decide) ?_
            exact q_retz hx hb hr hw (Or.inl rfl) ⟨h, rfl, rfl⟩ dX3_isSingle_81
    · have h := h.2 c5
      refine lv_iconst (v := 0) hx hb dX3_isSingle_37 (by decide) ?_
      exact q_retz hx hb hr hw (Or.inl rfl) ⟨h, rfl, rfl⟩ dX3_isSingle_38
def wlX3_firstSingle_12 (K29 : Int32 → Prop) (K41 : Prop) (v1 : Int32) (G : GS) (B : BS) : Nat → Int32 → Prop
  | 0, _ => False
  | n12 + 1, v2 => (((G 5 1) ≤ v2 → K41) ∧ (¬ (G 5 1) ≤ v2 → (wX3_isSingle v1 v2 G B (fun r23 => ((r23 = 0 → wlX3_firstSingle_12 K29 K41 v1 G B n12 (v2 + (1 : Int32))) ∧ (¬ r23 = 0 → K29 v2))))))
def wlX3_firstSingle_2 (K29 : Int32 → Int32 → Prop) (K47 : Prop) (G : GS) (B : BS) : Nat → Int32 → Prop
  | 0, _ => False
  | n2 + 1, v1 => (((G 5 0) ≤ v1 → K47) ∧ (¬ (G 5 0) ≤ v1 → (∃ z12 : Nat, wlX3_firstSingle_12 (fun x2_29 => K29 v1 x2_29) (wlX3_firstSingle_2 K29 K47 G B n2 (v1 + (1 : Int32))) v1 G B z12 (0 : Int32))))
def wX3_firstSingle (G : GS) (B : BS) (P : Int32 → Prop) : Prop := (∃ z2 : Nat, wlX3_firstSingle_2 (fun x1_29 x2_29 => (wX3_start x1_29 x2_29 (fun r31 => P r31))) (P (-1 : Int32)) G B z2 (0 : Int32))
set_option maxHeartbeats 4000000 in
set_option maxRecDepth 100000 in
theorem lX3_firstSingle_12 {p : Program} {l : Launch} {e : Env} {s : State} {m : MethodId} {args : Array Value} {below : List Frame} {meth : Method} {c : Code} {Q : State → Prop} {w : WE} {cs : List Nat} {A : Nat → Prop} {H0 : Heap} (C : CallFix p m c cX3_firstSingle 3 s args wsX3_firstSingle RX3) (hK : KW w s) (hcs : ∀ c, c < 56 → c ∈ cs) (v1 : Int32) (G : GS) (B : BS) {K29 : Int32 → Prop} {K41 : Prop} (k29 : ∀ (y2 : Int32) (H : Heap) (locs : List Loc) (ls : Array Slot), K29 y2 → WO w cs A H0 G B H locs → lv_has ls 3 [(1, .int v1), (2, .int y2)] → W p l e (rmW 3) s m args below meth c H locs 0 0 Q (F0 m 29 ls [])) (k41 : ∀ (H : Heap) (locs : List Loc) (ls : Array Slot), K41 → WO w cs A H0 G B H locs → lv_has ls 3 [(0, .ref (w.1 5)), (1, .int v1)] → W p l e (rmW 3) s m args below meth c H locs 0 0 Q (F0 m 41 ls [])) : ∀ (n : Nat) (v2 : Int32) (H : Heap) (locs : List Loc) (ls : Array Slot), wlX3_firstSingle_12 K29 K41 v1 G B n v2 → WO w cs A H0 G B H locs → lv_has ls 3 [(0, .ref (w.1 5)), (1, .int v1), (2, .int v2)] → W p l e (rmW 3) s m args below meth c H locs 0 0 Q (F0 m 12 ls []) := by
  have hx := C.1
  have hb := C.2.1
  have hown := C.2.2.2.1
  have hta := fun w h => C.2.2.2.2 w (List.mem_cons_of_mem _ h)
  intro n
  induction n with
  | zero => intro v2 H locs ls h hw hl; exact False.elim h
  | succ n ih =>
    intro v2 H locs ls h hw hl
    refine lv_iload_n hx hb dX3_firstSingle_12 rfl (lv_at hl 2 rfl) ?_
    refine lv_aload_n hx hb dX3_firstSingle_13 rfl (lv_at hl 0 rfl) ?_
    refine q_get (v := .int (G 5 1)) (C := RX3) (T := TX3) (N := 8) (ci := 3) hx hb hta kw_X3 hown hK hw 5 (hcs _ (by omega)) (by unfold isB; omega) rfl rfl 1 (by decide) (hta _ kw_161) rfl rfl dX3_firstSingle_14 ?_
    refine lv_icmp_ge (tgt := 41) hx hb dX3_firstSingle_17 (by decide) (fun c2 => ?_) (fun c2 => ?_)
    · have h := h.1 c2
      exact k41 _ _ _ h hw (lv_sub hl [0, 1] rfl)
    · have h := h.2 c2
      refine lv_aload_n hx hb dX3_firstSingle_20 rfl (lv_at hl 0 rfl) ?_
      refine lv_iload_n hx hb dX3_firstSingle_21 rfl (lv_at hl 1 rfl) ?_
      refine lv_iload_n hx hb dX3_firstSingle_22 rfl (lv_at hl 2 rfl) ?_
      refine q_calli hw (va_runV (As := [.int v1, .int v2]) (rest := []) C (mX3_isSingle l w cs (fun c h => hcs c (by omega)) _ G B v1 v2 _ h) (cwV 2 hta (gVw kw_183 kw_184 kw_185 kw_168 kw_182) rfl rfl rfl (by decide +kernel) ⟨Nat.le_of_ble_eq_true rfl, Nat.le_of_ble_eq_true rfl⟩) (preV hK hw 5 (hcs _ (by omega)) (by unfold isB; omega) rfl rfl _) rfl rfl hl.1 rfl (lv_room (Nat.le_of_ble_eq_true rfl)) dX3_firstSingle_23 ⟨Nat.le_refl 0, Nat.le_refl 0⟩) (fun r23 G23 B23 H locs h hw => ?_)
      obtain ⟨h, e1, e2⟩ := h; subst e1; subst e2
      refine lv_if_eq (tgt := 35) hx hb dX3_firstSingle_26 (by decide) (fun c3 => ?_) (fun c3 => ?_)
      · have h := h.1 c3
        refine lv_iinc (v := (v2 + (1 : Int32))) (lv' := [(2, .int (v2 + (1 : Int32))), (0, .ref (w.1 5)), (1, .int v1)]) hx hb dX3_firstSingle_35 hl (k := 2) rfl rfl (by decide) rfl (fun ls hl => ?_)
        refine lv_goto (tgt := 12) hx hb dX3_firstSingle_38 (by decide) ?_
        exact ih (v2 + (1 : Int32)) _ _ _ h hw (lv_sub hl [1, 2, 0] rfl)
      · have h := h.2 c3
        exact k29 v2 _ _ _ h hw (lv_sub hl [1, 2] rfl)
set_option maxHeartbeats 4000000 in
set_option maxRecDepth 100000 in
theorem lX3_firstSingle_2 {p : Program} {l : Launch} {e : Env} {s : State} {m : MethodId} {args : Array Value} {below : List Frame} {meth : Method} {c : Code} {Q : State → Prop} {w : WE} {cs : List Nat} {A : Nat → Prop} {H0 : Heap} (C : CallFix p m c cX3_firstSingle 3 s args wsX3_firstSingle RX3) (hK : KW w s) (hcs : ∀ c, c < 56 → c ∈ cs) (G : GS) (B : BS) {K29 : Int32 → Int32 → Prop} {K47 : Prop} (k29 : ∀ (y1 : Int32) (y2 : Int32) (H : Heap) (locs : List Loc) (ls : Array Slot), K29 y1 y2 → WO w cs A H0 G B H locs → lv_has ls 3 [(1, .int y1), (2, .int y2)] → W p l e (rmW 3) s m args below meth c H locs 0 0 Q (F0 m 29 ls [])) (k47 : ∀ (H : Heap) (locs : List Loc) (ls : Array Slot), K47 → WO w cs A H0 G B H locs → lv_has ls 3 [] → W p l e (rmW 3) s m args below meth c H locs 0 0 Q (F0 m 47 ls [])) : ∀ (n : Nat) (v1 : Int32) (H : Heap) (locs : List Loc) (ls : Array Slot), wlX3_firstSingle_2 K29 K47 G B n v1 → WO w cs A H0 G B H locs → lv_has ls 3 [(0, .ref (w.1 5)), (1, .int v1)] → W p l e (rmW 3) s m args below meth c H locs 0 0 Q (F0 m 2 ls []) := by
  have hx := C.1
  have hb := C.2.1
  have hown := C.2.2.2.1
  have hta := fun w h => C.2.2.2.2 w (List.mem_cons_of_mem _ h)
  intro n
  induction n with
  | zero => intro v1 H locs ls h hw hl; exact False.elim h
  | succ n ih =>
    intro v1 H locs ls h hw hl
    refine lv_iload_n hx hb dX3_firstSingle_2 rfl (lv_at hl 1 rfl) ?_
    refine lv_aload_n hx hb dX3_firstSingle_3 rfl (lv_at hl 0 rfl) ?_
    refine q_get (v := .int (G 5 0)) (C := RX3) (T := TX3) (N := 8) (ci := 3) hx hb hta kw_X3 hown hK hw 5 (hcs _ (by omega)) (by unfold isB; omega) rfl rfl 0 (by decide) (hta _ kw_160) rfl rfl dX3_firstSingle_4 ?_
    refine lv_icmp_ge (tgt := 47) hx hb dX3_firstSingle_7 (by decide) (fun c1 => ?_) (fun c1 => ?_)
    · have h := h.1 c1
      exact k47 _ _ _ h hw (lv_sub hl [] rfl)
    · have h := h.2 c1
      refine lv_iconst (v := 0) hx hb dX3_firstSingle_10 (by decide) ?_
      refine lv_istore_n (lv' := [(2, .int (0 : Int32)), (0, .ref (w.1 5)), (1, .int v1)]) hx hb dX3_firstSingle_11 rfl hl (by decide) rfl (fun ls hl => ?_)
      obtain ⟨n12, h⟩ := h
      refine lX3_firstSingle_12 C hK hcs v1 G B (K29 := _) (K41 := _) ?_ ?_ n12 (0 : Int32) _ _ _ h hw (lv_sub hl [1, 2, 0] rfl)
      · intro x2_29 H locs ls h hw hl
        exact k29 v1 x2_29 _ _ _ h hw (lv_sub hl [0, 1] rfl)
      · intro H locs ls h hw hl
        refine lv_iinc (v := (v1 + (1 : Int32))) (lv' := [(1, .int (v1 + (1 : Int32))), (0, .ref (w.1 5))]) hx hb dX3_firstSingle_41 hl (k := 1) rfl rfl (by decide) rfl (fun ls hl => ?_)
        refine lv_goto (tgt := 2) hx hb dX3_firstSingle_44 (by decide) ?_
        exact ih (v1 + (1 : Int32)) _ _ _ h hw (lv_sub hl [1, 0] rfl)
set_option maxHeartbeats 4000000 in
set_option maxRecDepth 100000 in
theorem mX3_firstSingle (l : Launch) (w : WE) (cs : List Nat) (hcs : ∀ c, c < 56 → c ∈ cs) (sz : Nat) (G : GS) (B : BS) (P : Int32 → Prop) (h : wX3_firstSingle G B P) : Met l yX3_firstSingle wsX3_firstSingle (rmW 3) (PcW w cs sz G B [.ref (w.1 5)]) (QI w cs sz (fun r G1 B1 => P r ∧ G = G1 ∧ B = B1)) 0 0 (AA w cs sz) := by
  refine metW (own := RX3) [.ref (w.1 5)] (by decide +kernel) rfl rfl (Nat.le_of_ble_eq_true rfl) ?_
  intro p e s m below meth c ls hsz C hr hK hw hl
  subst hsz
  have hx := C.1
  have hb := C.2.1
  have hown := C.2.2.2.1
  have hta := fun w h => C.2.2.2.2 w (List.mem_cons_of_mem _ h)
  have hl : lv_has ls 3 [(0, .ref (w.1 5))] := hl
  refine lv_iconst (v := 0) hx hb dX3_firstSingle_0 (by decide) ?_
  refine lv_istore_n (lv' := [(1, .int (0 : Int32)), (0, .ref (w.1 5))]) hx hb dX3_firstSingle_1 rfl hl (by decide) rfl (fun ls hl => ?_)
  obtain ⟨n2, h⟩ := h
  refine lX3_firstSingle_2 C hK hcs G B (K29 := _) (K47 := _) ?_ ?_ n2 (0 : Int32) _ _ _ h hw (lv_sub hl [1, 0] rfl)
  · intro x1_29 x2_29 H locs ls h hw hl
    refine lv_iload_n hx hb dX3_firstSingle_29 rfl (lv_at hl 0 rfl) ?_
    refine lv_iload_n hx hb dX3_firstSingle_30 rfl (lv_at hl 1 rfl) ?_
    refine q_calli hw (va_runS (As := [.int x1_29, .int x2_29]) (rest := []) C (mX3_start l w cs _ G B x1_29 x2_29 _ h) (va_cwS 2 hta (gSw kw_174 kw_175 kw_168 kw_173) rfl rfl rfl (by decide +kernel) ⟨Nat.le_of_ble_eq_true rfl, Nat.le_of_ble_eq_true rfl⟩) (preS hK hw _) rfl rfl hl.1 rfl (lv_room (Nat.le_of_ble_eq_true rfl)) dX3_firstSingle_31 ⟨Nat.le_refl 0, Nat.le_refl 0⟩) (fun r31 G31 B31 H locs h hw => ?_)
    obtain ⟨h, e1, e2⟩ := h; subst e1; subst e2
    exact q_reti hx hb hr hw ⟨h, rfl, rfl⟩ dX3_firstSingle_34
  · intro H locs ls h hw hl
    refine lv_iconst (v := -1) hx hb dX3_firstSingle_47 (by decide) ?_
    exact q_reti hx hb hr hw ⟨h, rfl, rfl⟩ dX3_firstSingle_48
def wlX3_nothingLeft_2 (K22 : Prop) (K30 : Prop) (B : BS) : Nat → Int32 → Prop
  | 0, _ => False
  | n2 + 1, v1 => (((nI 384) ≤ v1 → K30) ∧ (¬ (nI 384) ≤ v1 → (vp_in v1 384 ∧ (((lg_cmp (B 17 (cl v1)) (0 : Int64)) = 0 → wlX3_nothingLeft_2 K22 K30 B n2 (v1 + (1 : Int32))) ∧ (¬ (lg_cmp (B 17 (cl v1)) (0 : Int64)) = 0 → K22)))))
def wX3_nothingLeft (B : BS) (P : Int32 → Prop) : Prop := (∃ z2 : Nat, wlX3_nothingLeft_2 (P (0 : Int32)) (P (1 : Int32)) B z2 (0 : Int32))
set_option maxHeartbeats 4000000 in
set_option maxRecDepth 100000 in
theorem lX3_nothingLeft_2 {p : Program} {l : Launch} {e : Env} {s : State} {m : MethodId} {args : Array Value} {below : List Frame} {meth : Method} {c : Code} {Q : State → Prop} {w : WE} {cs : List Nat} {A : Nat → Prop} {H0 : Heap} (C : CallFix p m c cX3_nothingLeft 2 s args wsX3_nothingLeft RX3) (hK : KW w s) (hcs : ∀ c, c < 56 → c ∈ cs) (G : GS) (B : BS) {K22 : Prop} {K30 : Prop} (k22 : ∀ (H : Heap) (locs : List Loc) (ls : Array Slot), K22 → WO w cs A H0 G B H locs → lv_has ls 2 [] → W p l e (rmW 0) s m args below meth c H locs 0 0 Q (F0 m 22 ls [])) (k30 : ∀ (H : Heap) (locs : List Loc) (ls : Array Slot), K30 → WO w cs A H0 G B H locs → lv_has ls 2 [] → W p l e (rmW 0) s m args below meth c H locs 0 0 Q (F0 m 30 ls [])) : ∀ (n : Nat) (v1 : Int32) (H : Heap) (locs : List Loc) (ls : Array Slot), wlX3_nothingLeft_2 K22 K30 B n v1 → WO w cs A H0 G B H locs → lv_has ls 2 [(0, .ref (w.1 5)), (1, .int v1)] → W p l e (rmW 0) s m args below meth c H locs 0 0 Q (F0 m 2 ls []) := by
  have hx := C.1
  have hb := C.2.1
  have hown := C.2.2.2.1
  have hta := fun w h => C.2.2.2.2 w (List.mem_cons_of_mem _ h)
  intro n
  induction n with
  | zero => intro v1 H locs ls h hw hl; exact False.elim h
  | succ n ih =>
    intro v1 H locs ls h hw hl
    refine lv_iload_n hx hb dX3_nothingLeft_2 rfl (lv_at hl 1 rfl) ?_
    refine lv_aload_n hx hb dX3_nothingLeft_3 rfl (lv_at hl 0 rfl) ?_
    refine q_get (v := .ref (w.1 17)) (C := RX3) (T := TX3) (N := 8) (ci := 3) hx hb hta kw_X3 hown hK hw 5 (hcs _ (by omega)) (by unfold isB; omega) rfl rfl 5 (by decide) (hta _ kw_180) rfl rfl dX3_nothingLeft_4 ?_
    refine q_alenJ (n := 384) hx hb hK hw (hcs _ (by omega)) (by unfold isJ; omega) rfl dX3_nothingLeft_7 ?_
    refine lv_icmp_ge (tgt := 30) hx hb dX3_nothingLeft_8 (by decide) (fun c1 => ?_) (fun c1 => ?_)
    · have h := h.1 c1
      exact k30 _ _ _ h hw (lv_sub hl [] rfl)
    · have h := h.2 c1
      refine lv_aload_n hx hb dX3_nothingLeft_11 rfl (lv_at hl 0 rfl) ?_
      refine q_get (v := .ref (w.1 17)) (C := RX3) (T := TX3) (N := 8) (ci := 3) hx hb hta kw_X3 hown hK hw 5 (hcs _ (by omega)) (by unfold isB; omega) rfl rfl 5 (by decide) (hta _ kw_180) rfl rfl dX3_nothingLeft_12 ?_
      refine lv_iload_n hx hb dX3_nothingLeft_15 rfl (lv_at hl 1 rfl) ?_
      obtain ⟨hin2, h⟩ := h
      refine q_lald (n := 384) hx hb hK hw (hcs _ (by omega)) (by unfold isJ; omega) rfl hin2 dX3_nothingLeft_16 ?_
      refine lv_lconst (v := 0) hx hb dX3_nothingLeft_17 (by decide) ?_
      refine W.lcmp hx hb dX3_nothingLeft_18 ?_
      refine lv_if_eq (tgt := 24) hx hb dX3_nothingLeft_19 (by decide) (fun c3 => ?_) (fun c3 => ?_)
      · have h := h.1 c3
        refine lv_iinc (v := (v1 + (1 : Int32))) (lv' := [(1, .int (v1 + (1 : Int32))), (0, .ref (w.1 5))]) hx hb dX3_nothingLeft_24 hl (k := 1) rfl rfl (by decide) rfl (fun ls hl => ?_)
        refine lv_goto (tgt := 2) hx hb dX3_nothingLeft_27 (by decide) ?_
        exact ih (v1 + (1 : Int32)) _ _ _ h hw (lv_sub hl [1, 0] rfl)
      · have h := h.2 c3
        exact k22 _ _ _ h hw (lv_sub hl [] rfl)
set_option maxHeartbeats 4000000 in
set_option maxRecDepth 100000 in
theorem mX3_nothingLeft (l : Launch) (w : WE) (cs : List Nat) (hcs : ∀ c, c < 56 → c ∈ cs) (sz : Nat) (G : GS) (B : BS) (P : Int32 → Prop) (h : wX3_nothingLeft B P) : Met l yX3_nothingLeft wsX3_nothingLeft (rmW 0) (PcW w cs sz G B [.ref (w.1 5)]) (QI w cs sz (fun r G1 B1 => P r ∧ G = G1 ∧ B = B1)) 0 0 (AA w cs sz) := by
  refine metW (own := RX3) [.ref (w.1 5)] (by decide +kernel) rfl rfl (Nat.le_of_ble_eq_true rfl) ?_
  intro p e s m below meth c ls hsz C hr hK hw hl
  subst hsz
  have hx := C.1
  have hb := C.2.1
  have hown := C.2.2.2.1
  have hta := fun w h => C.2.2.2.2 w (List.mem_cons_of_mem _ h)
  have hl : lv_has ls 2 [(0, .ref (w.1 5))] := hl
  refine lv_iconst (v := 0) hx hb dX3_nothingLeft_0 (by decide) ?_
  refine lv_istore_n (lv' := [(1, .int (0 : Int32)), (0, .ref (w.1 5))]) hx hb dX3_nothingLeft_1 rfl hl (by decide) rfl (fun ls hl => ?_)
  obtain ⟨n2, h⟩ := h
  refine lX3_nothingLeft_2 C hK hcs G B (K22 := _) (K30 := _) ?_ ?_ n2 (0 : Int32) _ _ _ h hw (lv_sub hl [1, 0] rfl)
  · intro H locs ls h hw hl
    refine lv_iconst (v := 0) hx hb dX3_nothingLeft_22 (by decide) ?_
    exact q_retz hx hb hr hw (Or.inl rfl) ⟨h, rfl, rfl⟩ dX3_nothingLeft_23
  · intro H locs ls h hw hl
    refine lv_iconst (v := 1) hx hb dX3_nothingLeft_30 (by decide) ?_
    exact q_retz hx hb hr hw (Or.inr rfl) ⟨h, rfl, rfl⟩ dX3_nothingLeft_31
def wX3_tellPlace (v1 : Int32) (G : GS) (B : BS) (P : GS → BS → Prop) : Prop := (vp_in v1 384 ∧ (∀ x6 : Int64, x6 = (B 17 (cl v1)) → ((¬ (lg_cmp x6 (0 : Int64)) = 0 → (vp_in (v1 + (1 : Int32)) 384 ∧ (¬ x6 = 0 ∧ (∀ x25 : Int32, x25 = ((B 17 (cl (v1 + (1 : Int32)))) / x6).toInt32 → (((100 : Int32) ≤ (G 5 3) → (∀ G65 : GS, G65 = wr G 5 3 ((G 5 3) + (1 : Int32)) → (wX3_join 17 x25 (-x6) G65 B (fun B77 => P G65 B77)))) ∧ (¬ (100 : Int32) ≤ (G 5 3) → (vp_in (G 5 3) 100 ∧ (∀ G46 : GS, G46 = wr G 18 (cl (G 5 3)) x25 → (vp_in (G46 5 3) 100 ∧ (∀ G57 : GS, G57 = wr G46 19 (cl (G46 5 3)) x6.toInt32 → (∀ G65 : GS, G65 = wr G57 5 3 ((G57 5 3) + (1 : Int32)) → (wX3_join 17 x25 (-x6) G65 B (fun B77 => P G65 B77))))))))))))) ∧ ((lg_cmp x6 (0 : Int64)) = 0 → P G B))))
set_option maxHeartbeats 4000000 in
set_option maxRecDepth 100000 in
theorem mX3_tellPlace (l : Launch) (w : WE) (cs : List Nat) (hcs : ∀ c, c < 56 → c ∈ cs) (sz : Nat) (G : GS) (B : BS) (v1 : Int32) (P : GS → BS → Prop) (h : wX3_tellPlace v1 G B P) : Met l yX3_tellPlace wsX3_tellPlace (rmW 3) (PcW w cs sz G B [.ref (w.1 5), .int v1]) (QV w cs sz (fun G1 B1 => P G1 B1)) 0 0 (AA w cs sz) := by
  refine metW (own := RX3) [.ref (w.1 5), .int v1] (by decide +kernel) rfl rfl (Nat.le_of_ble_eq_true rfl) ?_
  intro p e s m below meth c ls hsz C hr hK hw hl
  subst hsz
  have hx := C.1
  have hb := C.2.1
  have hown := C.2.2.2.1
  have hta := fun w h => C.2.2.2.2 w (List.mem_cons_of_mem _ h)
  have hl : lv_has ls 5 [(0, .ref (w.1 5)), (1, .int v1)] := hl
  refine lv_aload_n hx hb dX3_tellPlace_0 rfl (lv_at hl 0 rfl) ?_
  refine q_get (v := .ref (w.1 17)) (C := RX3) (T := TX3) (N := 8) (ci := 3) hx hb hta kw_X3 hown hK hw 5 (hcs _ (by omega)) (by unfold isB; omega) rfl rfl 5 (by decide) (hta _ kw_180) rfl rfl dX3_tellPlace_1 ?_
  refine lv_iload_n hx hb dX3_tellPlace_4 rfl (lv_at hl 1 rfl) ?_
  obtain ⟨hin1, h⟩ := h
  refine q_lald (n := 384) hx hb hK hw (hcs _ (by omega)) (by unfold isJ; omega) rfl hin1 dX3_tellPlace_5 ?_
  refine lv_topl (fun x6 ex6 => ?_)
  have h := h x6 ex6
  refine lv_lstore_n (lv' := [(2, .long x6), (0, .ref (w.1 5)), (1, .int v1)]) hx hb dX3_tellPlace_6 rfl hl (by decide) rfl (fun ls hl => ?_)
  refine lv_lload_n hx hb dX3_tellPlace_7 rfl (lv_at hl 0 rfl) ?_
  refine lv_lconst (v := 0) hx hb dX3_tellPlace_8 (by decide) ?_
  refine W.lcmp hx hb dX3_tellPlace_9 ?_
  refine lv_if_ne (tgt := 14) hx hb dX3_tellPlace_10 (by decide) (fun c2 => ?_) (fun c2 => ?_)
  · have h := h.1 c2
    refine lv_aload_n hx hb dX3_tellPlace_14 rfl (lv_at hl 1 rfl) ?_
    refine q_get (v := .ref (w.1 17)) (C := RX3) (T := TX3) (N := 8) (ci := 3) hx hb hta kw_X3 hown hK hw 5 (hcs _ (by omega)) (by unfold isB; omega) rfl rfl 5 (by decide) (hta _ kw_180) rfl rfl dX3_tellPlace_15 ?_
    refine lv_iload_n hx hb dX3_tellPlace_18 rfl (lv_at hl 2 rfl) ?_
    refine lv_iconst (v := 1) hx hb dX3_tellPlace_19 (by decide) ?_
    refine lv_iadd hx hb dX3_tellPlace_20 ?_
    obtain ⟨hin3, h⟩ := h
    refine q_lald (n := 384) hx hb hK hw (hcs _ (by omega)) (by unfold isJ; omega) rfl hin3 dX3_tellPlace_21 ?_
    refine lv_lload_n hx hb dX3_tellPlace_22 rfl (lv_at hl 0 rfl) ?_
    obtain ⟨hz4, h⟩ := h
    refine lv_ldiv hx hb dX3_tellPlace_23 hz4 ?_
    refine lv_l2i hx hb dX3_tellPlace_24 rfl ?_
    refine lv_topi (fun x25 ex25 => ?_)
    have h := h x25 ex25
    refine lv_istore (lv' := [(4, .int x25), (2, .long x6), (0, .ref (w.1 5)), (1, .int v1)]) hx hb dX3_tellPlace_25 hl (by decide) rfl (fun ls hl => ?_)
    refine lv_aload_n hx hb dX3_tellPlace_27 rfl (lv_at hl 2 rfl) ?_
    refine q_get (v := .int (G 5 3)) (C := RX3) (T := TX3) (N := 8) (ci := 3) hx hb hta kw_X3 hown hK hw 5 (hcs _ (by omega)) (by unfold isB; omega) rfl rfl 3 (by decide) (hta _ kw_163) rfl rfl dX3_tellPlace_28 ?_
    refine lv_bipush (v := 100) hx hb dX3_tellPlace_31 (by decide) ?_
    refine lv_icmp_ge (tgt := 58) hx hb dX3_tellPlace_33 (by decide) (fun c5 => ?_) (fun c5 => ?_)
    · have h := h.1 c5
      refine lv_aload_n hx hb dX3_tellPlace_58 rfl (lv_at hl 2 rfl) ?_
      refine lv_dup hx hb dX3_tellPlace_59 rfl ?_
      refine q_get (v := .int (G 5 3)) (C := RX3) (T := TX3) (N := 8) (ci := 3) hx hb hta kw_X3 hown hK hw 5 (hcs _ (by omega)) (by unfold isB; omega) rfl rfl 3 (by decide) (hta _ kw_163) rfl rfl dX3_tellPlace_60 ?_
      refine lv_iconst (v := 1) hx hb dX3_tellPlace_63 (by decide) ?_
      refine lv_iadd hx hb dX3_tellPlace_64 ?_
      refine q_put (x := ((G 5 3) + (1 : Int32))) (C := RX3) (T := TX3) (N := 8) (ci := 3) hx hb hta kw_X3 tyX3 tyX3_ok nmX3 hown hK hw 5 (hcs _ (by omega)) (by unfold isB; omega) rfl rfl 3 (by decide) (hta _ kw_163) rfl rfl rfl (Nat.le_of_ble_eq_true rfl) rfl dX3_tellPlace_65 (fun H locs G65 eG65 hw => ?_)
      have h := h G65 eG65
      refine lv_aload_n hx hb dX3_tellPlace_68 rfl (lv_at hl 2 rfl) ?_
      refine lv_aload_n hx hb dX3_tellPlace_69 rfl (lv_at hl 2 rfl) ?_
      refine q_get (v := .ref (w.1 17)) (C := RX3) (T := TX3) (N := 8) (ci := 3) hx hb hta kw_X3 hown hK hw 5 (hcs _ (by omega)) (by unfold isB; omega) rfl rfl 5 (by decide) (hta _ kw_180) rfl rfl dX3_tellPlace_70 ?_
      refine lv_iload hx hb dX3_tellPlace_73 (lv_at hl 0 rfl) ?_
      refine lv_lload_n hx hb dX3_tellPlace_75 rfl (lv_at hl 1 rfl) ?_
      refine lv_lneg hx hb dX3_tellPlace_76 ?_
      refine q_callv hw (va_runV (As := [.ref (w.1 17), .int x25, .long (-x6)]) (rest := []) C (mX3_join l w cs (fun c h => hcs c (by omega)) _ G65 B 17 (by unfold isJ; omega) (hcs _ (by omega)) x25 (-x6) _ h) (cwV 3 hta (gVw kw_177 kw_178 kw_179 kw_168 kw_176) rfl rfl rfl (by decide +kernel) ⟨Nat.le_of_ble_eq_true rfl, Nat.le_of_ble_eq_true rfl⟩) (preV hK hw 5 (hcs _ (by omega)) (by unfold isB; omega) rfl rfl _) rfl rfl hl.1 rfl (lv_room (Nat.le_of_ble_eq_true rfl)) dX3_tellPlace_77 ⟨Nat.le_refl 0, Nat.le_refl 0⟩) (fun G77 B77 H locs h hw => ?_)
      obtain ⟨e1, h⟩ := h; subst e1
      exact q_retv hx hb hr hw h dX3_tellPlace_80
    · have h := h.2 c5
      refine lv_aload_n hx hb dX3_tellPlace_36 rfl (lv_at hl 2 rfl) ?_
      refine q_get (v := .ref (w.1 18)) (C := RX3) (T := TX3) (N := 8) (ci := 3) hx hb hta kw_X3 hown hK hw 5 (hcs _ (by omega)) (by unfold isB; omega) rfl rfl 6 (by decide) (hta _ kw_186) rfl rfl dX3_tellPlace_37 ?_
      refine lv_aload_n hx hb dX3_tellPlace_40 rfl (lv_at hl 2 rfl) ?_
      refine q_get (v := .int (G 5 3)) (C := RX3) (T := TX3) (N := 8) (ci := 3) hx hb hta kw_X3 hown hK hw 5 (hcs _ (by omega)) (by unfold isB; omega) rfl rfl 3 (by decide) (hta _ kw_163) rfl rfl dX3_tellPlace_41 ?_
      refine lv_iload hx hb dX3_tellPlace_44 (lv_at hl 0 rfl) ?_
      obtain ⟨hin6, h⟩ := h
      refine q_iast (n := 100) hx hb hK hw (hcs _ (by omega)) (by unfold isI; omega) rfl hin6 dX3_tellPlace_46 (fun H locs G46 eG46 hw => ?_)
      have h := h G46 eG46
      refine lv_aload_n hx hb dX3_tellPlace_47 rfl (lv_at hl 2 rfl) ?_
      refine q_get (v := .ref (w.1 19)) (C := RX3) (T := TX3) (N := 8) (ci := 3) hx hb hta kw_X3 hown hK hw 5 (hcs _ (by omega)) (by unfold isB; omega) rfl rfl 7 (by decide) (hta _ kw_187) rfl rfl dX3_tellPlace_48 ?_
      refine lv_aload_n hx hb dX3_tellPlace_51 rfl (lv_at hl 2 rfl) ?_
      refine q_get (v := .int (G46 5 3)) (C := RX3) (T := TX3) (N := 8) (ci := 3) hx hb hta kw_X3 hown hK hw 5 (hcs _ (by omega)) (by unfold isB; omega) rfl rfl 3 (by decide) (hta _ kw_163) rfl rfl dX3_tellPlace_52 ?_
      refine lv_lload_n hx hb dX3_tellPlace_55 rfl (lv_at hl 1 rfl) ?_
      refine lv_l2i hx hb dX3_tellPlace_56 rfl ?_
      obtain ⟨hin7, h⟩ := h
      refine q_iast (n := 100) hx hb hK hw (hcs _ (by omega)) (by unfold isI; omega) rfl hin7 dX3_tellPlace_57 (fun H locs G57 eG57 hw => ?_)
      have h := h G57 eG57
      refine lv_aload_n hx hb dX3_tellPlace_58 rfl (lv_at hl 2 rfl) ?_
      refine lv_dup hx hb dX3_tellPlace_59 rfl ?_
      refine q_get (v := .int (G57 5 3)) (C := RX3) (T := TX3) (N := 8) (ci := 3) hx hb hta kw_X3 hown hK hw 5 (hcs _ (by omega)) (by unfold isB; omega) rfl rfl 3 (by decide) (hta _ kw_163) rfl rfl dX3_tellPlace_60 ?_
      refine lv_iconst (v := 1) hx hb dX3_tellPlace_63 (by decide) ?_
      refine lv_iadd hx hb dX3_tellPlace_64 ?_
      refine q_put (x := ((G57 5 3) + (1 : Int32))) (C := RX3) (T := TX3) (N := 8) (ci := 3) hx hb hta kw_X3 tyX3 tyX3_ok nmX3 hown hK hw 5 (hcs _ (by omega)) (by unfold isB; omega) rfl rfl 3 (by decide) (hta _ kw_163) rfl rfl rfl (Nat.le_of_ble_eq_true rfl) rfl dX3_tellPlace_65 (fun H locs G65 eG65 hw => ?_)
      have h := h G65 eG65
      refine lv_aload_n hx hb dX3_tellPlace_68 rfl (lv_at hl 2 rfl) ?_
      refine lv_aload_n hx hb dX3_tellPlace_69 rfl (lv_at hl 2 rfl) ?_
      refine q_get (v := .ref (w.1 17)) (C := RX3) (T := TX3) (N := 8) (ci := 3) hx hb hta kw_X3 hown hK hw 5 (hcs _ (by omega)) (by unfold isB; omega) rfl rfl 5 (by decide) (hta _ kw_180) rfl rfl dX3_tellPlace_70 ?_
      refine lv_iload hx hb dX3_tellPlace_73 (lv_at hl 0 rfl) ?_
      refine lv_lload_n hx hb dX3_tellPlace_75 rfl (lv_at hl 1 rfl) ?_
      refine lv_lneg hx hb dX3_tellPlace_76 ?_
      refine q_callv hw (va_runV (As := [.ref (w.1 17), .int x25, .long (-x6)]) (rest := []) C (mX3_join l w cs (fun c h => hcs c (by omega)) _ G65 B 17 (by unfold isJ; omega) (hcs _ (by omega)) x25 (-x6) _ h) (cwV 3 hta (gVw kw_177 kw_178 kw_179 kw_168 kw_176) rfl rfl rfl (by decide +kernel) ⟨Nat.le_of_ble_eq_true rfl, Nat.le_of_ble_eq_true rfl⟩) (preV hK hw 5 (hcs _ (by omega)) (by unfold isB; omega) rfl rfl _) rfl rfl hl.1 rfl (lv_room (Nat.le_of_ble_eq_true rfl)) dX3_tellPlace_77 ⟨Nat.le_refl 0, Nat.le_refl 0⟩) (fun G77 B77 H locs h hw => ?_)
      obtain ⟨e1, h⟩ := h; subst e1
      exact q_retv hx hb hr hw h dX3_tellPlace_80
  · have h := h.2 c2
    exact q_retv hx hb hr hw h dX3_tellPlace_13
def wlX3_tellAll_25 (K41 : GS → BS → Prop) (K57 : GS → BS → Prop) : Nat → Int32 → GS → BS → Prop
  | 0, _, _, _ => False
  | n25 + 1, v1, G, B => (((200 : Int32) ≤ v1 → K57 G B) ∧ (¬ (200 : Int32) ≤ v1 → (wX3_firstSingle G B (fun r33 => ((0 ≤ r33 → (wX3_tellPlace r33 G B (fun G48 B48 => wlX3_tellAll_25 K41 K57 n25 (v1 + (1 : Int32)) G48 B48))) ∧ (¬ 0 ≤ r33 → K41 G B))))))
def wX3_tellAll (G : GS) (B : BS) (P : Int32 → GS → BS → Prop) : Prop := (∀ B15 : BS, B15 = cpL B 16 17 (cl (0 : Int32)) (cl (0 : Int32)) (cl (nI 384)) → (∀ G20 : GS, G20 = wr G 5 3 (0 : Int32) → (∃ z25 : Nat, wlX3_tellAll_25 (fun G_41 B_41 => (wX3_nothingLeft B_41 (fun r42 => (vb r42 ∧ P r42 G_41 B_41)))) (fun G_57 B_57 => (wX3_nothingLeft B_57 (fun r58 => (vb r58 ∧ P r58 G_57 B_57)))) z25 (0 : Int32) G20 B15)))
set_option maxHeartbeats 4000000 in
set_option maxRecDepth 100000 in
theorem lX3_tellAll_25 {p : Program} {l : Launch} {e : Env} {s : State} {m : MethodId} {args : Array Value} {below : List Frame} {meth : Method} {c : Code} {Q : State → Prop} {w : WE} {cs : List Nat} {A : Nat → Prop} {H0 : Heap} (C : CallFix p m c cX3_tellAll 3 s args wsX3_tellAll RX3) (hK : KW w s) (hcs : ∀ c, c < 56 → c ∈ cs) {K41 : GS → BS → Prop} {K57 : GS → BS → Prop} (k41 : ∀ (G : GS) (B : BS) (H : Heap) (locs : List Loc) (ls : Array Slot), K41 G B → WO w cs A H0 G B H locs → lv_has ls 3 [(0, .ref (w.1 5))] → W p l e (rmW 4) s m args below meth c H locs 0 0 Q (F0 m 41 ls [])) (k57 : ∀ (G : GS) (B : BS) (H : Heap) (locs : List Loc) (ls : Array Slot), K57 G B → WO w cs A H0 G B H locs → lv_has ls 3 [(0, .ref (w.1 5))] → W p l e (rmW 4) s m args below meth c H locs 0 0 Q (F0 m 57 ls [])) : ∀ (n : Nat) (v1 : Int32) (G : GS) (B : BS) (H : Heap) (locs : List Loc) (ls : Array Slot), wlX3_tellAll_25 K41 K57 n v1 G B → WO w cs A H0 G B H locs → lv_has ls 3 [(0, .ref (w.1 5)), (1, .int v1)] → W p l e (rmW 4) s m args below meth c H locs 0 0 Q (F0 m 25 ls []) := by
  have hx := C.1
  have hb := C.2.1
  have hown := C.2.2.2.1
  have hta := fun w h => C.2.2.2.2 w (List.mem_cons_of_mem _ h)
  intro n
  induction n with
  | zero => intro v1 G B H locs ls h hw hl; exact False.elim h
  | succ n ih =>
    intro v1 G B H locs ls h hw hl
    refine lv_iload_n hx hb dX3_tellAll_25 rfl (lv_at hl 1 rfl) ?_
    refine lv_sipush (v := 200) hx hb dX3_tellAll_26 (by decide) ?_
    refine lv_icmp_ge (tgt := 57) hx hb dX3_tellAll_29 (by decide) (fun c1 => ?_) (fun c1 => ?_)
    · have h := h.1 c1
      exact k57 G B _ _ _ h hw (lv_sub hl [0] rfl)
    · have h := h.2 c1
      refine lv_aload_n hx hb dX3_tellAll_32 rfl (lv_at hl 0 rfl) ?_
      refine q_calli hw (va_runV (As := []) (rest := []) C (mX3_firstSingle l w cs (fun c h => hcs c (by omega)) _ G B _ h) (cwV 0 hta (gVw kw_193 kw_194 kw_195 kw_168 kw_192) rfl rfl rfl (by decide +kernel) ⟨Nat.le_of_ble_eq_true rfl, Nat.le_of_ble_eq_true rfl⟩) (preV hK hw 5 (hcs _ (by omega)) (by unfold isB; omega) rfl rfl _) rfl rfl hl.1 rfl (lv_room (Nat.le_of_ble_eq_true rfl)) dX3_tellAll_33 ⟨Nat.le_refl 0, Nat.le_refl 0⟩) (fun r33 G33 B33 H locs h hw => ?_)
      obtain ⟨h, e1, e2⟩ := h; subst e1; subst e2
      refine lv_istore_n (lv' := [(2, .int r33), (0, .ref (w.1 5)), (1, .int v1)]) hx hb dX3_tellAll_36 rfl hl (by decide) rfl (fun ls hl => ?_)
      refine lv_iload_n hx hb dX3_tellAll_37 rfl (lv_at hl 0 rfl) ?_
      refine lv_if_ge (tgt := 46) hx hb dX3_tellAll_38 (by decide) (fun c2 => ?_) (fun c2 => ?_)
      · have h := h.1 c2
        refine lv_aload_n hx hb dX3_tellAll_46 rfl (lv_at hl 1 rfl) ?_
        refine lv_iload_n hx hb dX3_tellAll_47 rfl (lv_at hl 0 rfl) ?_
        refine q_callv hw (va_runV (As := [.int r33]) (rest := []) C (mX3_tellPlace l w cs (fun c h => hcs c (by omega)) _ G B r33 _ h) (cwV 1 hta (gVw kw_197 kw_198 kw_199 kw_168 kw_196) rfl rfl rfl (by decide +kernel) ⟨Nat.le_of_ble_eq_true rfl, Nat.le_of_ble_eq_true rfl⟩) (preV hK hw 5 (hcs _ (by omega)) (by unfold isB; omega) rfl rfl _) rfl rfl hl.1 rfl (lv_room (Nat.le_of_ble_eq_true rfl)) dX3_tellAll_48 ⟨Nat.le_refl 0, Nat.le_refl 0⟩) (fun G48 B48 H locs h hw => ?_)
        refine lv_iinc (v := (v1 + (1 : Int32))) (lv' := [(1, .int (v1 + (1 : Int32))), (2, .int r33), (0, .ref (w.1 5))]) hx hb dX3_tellAll_51 hl (k := 2) rfl rfl (by decide) rfl (fun ls hl => ?_)
        refine lv_goto (tgt := 25) hx hb dX3_tellAll_54 (by decide) ?_
        exact ih (v1 + (1 : Int32)) G48 B48 _ _ _ h hw (lv_sub hl [2, 0] rfl)
      · have h := h.2 c2
        exact k41 G B _ _ _ h hw (lv_sub hl [1] rfl)
set_option maxHeartbeats 4000000 in
set_option maxRecDepth 100000 in
theorem mX3_tellAll (l : Launch) (w : WE) (cs : List Nat) (hcs : ∀ c, c < 56 → c ∈ cs) (sz : Nat) (G : GS) (B : BS) (P : Int32 → GS → BS → Prop) (h : wX3_tellAll G B P) : Met l yX3_tellAll wsX3_tellAll (rmW 4) (PcW w cs sz G B [.ref (w.1 5)]) (QI w cs sz (fun r G1 B1 => P r G1 B1)) 0 0 (AA w cs sz) := by
  refine metW (own := RX3) [.ref (w.1 5)] (by decide +kernel) rfl rfl (Nat.le_of_ble_eq_true rfl) ?_
  intro p e s m below meth c ls hsz C hr hK hw hl
  subst hsz
  have hx := C.1
  have hb := C.2.1
  have hown := C.2.2.2.1
  have hta := fun w h => C.2.2.2.2 w (List.mem_cons_of_mem _ h)
  have hl : lv_has ls 3 [(0, .ref (w.1 5))] := hl
  refine lv_aload_n hx hb dX3_tellAll_0 rfl (lv_at hl 0 rfl) ?_
  refine q_get (v := .ref (w.1 16)) (C := RX3) (T := TX3) (N := 8) (ci := 3) hx hb hta kw_X3 hown hK hw 5 (hcs _ (by omega)) (by unfold isB; omega) rfl rfl 4 (by decide) (hta _ kw_164) rfl rfl dX3_tellAll_1 ?_
  refine lv_iconst (v := 0) hx hb dX3_tellAll_4 (by decide) ?_
  refine lv_aload_n hx hb dX3_tellAll_5 rfl (lv_at hl 0 rfl) ?_
  refine q_get (v := .ref (w.1 17)) (C := RX3) (T := TX3) (N := 8) (ci := 3) hx hb hta kw_X3 hown hK hw 5 (hcs _ (by omega)) (by unfold isB; omega) rfl rfl 5 (by decide) (hta _ kw_180) rfl rfl dX3_tellAll_6 ?_
  refine lv_iconst (v := 0) hx hb dX3_tellAll_9 (by decide) ?_
  refine lv_aload_n hx hb dX3_tellAll_10 rfl (lv_at hl 0 rfl) ?_
  refine q_get (v := .ref (w.1 17)) (C := RX3) (T := TX3) (N := 8) (ci := 3) hx hb hta kw_X3 hown hK hw 5 (hcs _ (by omega)) (by unfold isB; omega) rfl rfl 5 (by decide) (hta _ kw_180) rfl rfl dX3_tellAll_11 ?_
  refine q_alenJ (n := 384) hx hb hK hw (hcs _ (by omega)) (by unfold isJ; omega) rfl dX3_tellAll_14 ?_
  refine q_copyl hx hb (C.2.2.1.trans hl.1.symm) hown (hta _ kw_188) (hta _ kw_189) (hta _ kw_190) (hta _ kw_191) hK hw (a := 16) (d := 17) (hcs _ (by omega)) (hcs _ (by omega)) (by unfold isJ; omega) (by unfold isJ; omega) (by decide) (by decide) (by decide) (by decide) (by decide) (by decide) (Nat.le_of_ble_eq_true rfl) (Nat.le_of_ble_eq_true rfl) dX3_tellAll_15 (fun H locs B15 eB15 hw => ?_)
  have h := h B15 eB15
  refine lv_aload_n hx hb dX3_tellAll_18 rfl (lv_at hl 0 rfl) ?_
  refine lv_iconst (v := 0) hx hb dX3_tellAll_19 (by decide) ?_
  refine q_put (x := (0 : Int32)) (C := RX3) (T := TX3) (N := 8) (ci := 3) hx hb hta kw_X3 tyX3 tyX3_ok nmX3 hown hK hw 5 (hcs _ (by omega)) (by unfold isB; omega) rfl rfl 3 (by decide) (hta _ kw_163) rfl rfl rfl (Nat.le_of_ble_eq_true rfl) rfl dX3_tellAll_20 (fun H locs G20 eG20 hw => ?_)
  have h := h G20 eG20
  refine lv_iconst (v := 0) hx hb dX3_tellAll_23 (by decide) ?_
  refine lv_istore_n (lv' := [(1, .int (0 : Int32)), (0, .ref (w.1 5))]) hx hb dX3_tellAll_24 rfl hl (by decide) rfl (fun ls hl => ?_)
  obtain ⟨n25, h⟩ := h
  refine lX3_tellAll_25 C hK hcs (K41 := _) (K57 := _) ?_ ?_ n25 (0 : Int32) G20 B15 _ _ _ h hw (lv_sub hl [1, 0] rfl)
  · intro G_41 B_41 H locs ls h hw hl
    refine lv_aload_n hx hb dX3_tellAll_41 rfl (lv_at hl 0 rfl) ?_
    refine q_calli hw (va_runV (As := []) (rest := []) C (mX3_nothingLeft l w cs (fun c h => hcs c (by omega)) _ G_41 B_41 _ h) (cwV 0 hta (gVw kw_201 kw_202 kw_203 kw_168 kw_200) rfl rfl rfl (by decide +kernel) ⟨Nat.le_of_ble_eq_true rfl, Nat.le_of_ble_eq_true rfl⟩) (preV hK hw 5 (hcs _ (by omega)) (by unfold isB; omega) rfl rfl _) rfl rfl hl.1 rfl (lv_room (Nat.le_of_ble_eq_true rfl)) dX3_tellAll_42 ⟨Nat.le_refl 0, Nat.le_refl 0⟩) (fun r42 G42 B42 H locs h hw => ?_)
    obtain ⟨h, e1, e2⟩ := h; subst e1; subst e2
    obtain ⟨hv3, h⟩ := h
    exact q_retz hx hb hr hw hv3 h dX3_tellAll_45
  · intro G_57 B_57 H locs ls h hw hl
    refine lv_aload_n hx hb dX3_tellAll_57 rfl (lv_at hl 0 rfl) ?_
    refine q_calli hw (va_runV (As := []) (rest := []) C (mX3_nothingLeft l w cs (fun c h => hcs c (by omega)) _ G_57 B_57 _ h) (cwV 0 hta (gVw kw_201 kw_202 kw_203 kw_168 kw_200) rfl rfl rfl (by decide +kernel) ⟨Nat.le_of_ble_eq_true rfl, Nat.le_of_ble_eq_true rfl⟩) (preV hK hw 5 (hcs _ (by omega)) (by unfold isB; omega) rfl rfl _) rfl rfl hl.1 rfl (lv_room (Nat.le_of_ble_eq_true rfl)) dX3_tellAll_58 ⟨Nat.le_refl 0, Nat.le_refl 0⟩) (fun r58 G58 B58 H locs h hw => ?_)
    obtain ⟨h, e1, e2⟩ := h; subst e1; subst e2
    obtain ⟨hv4, h⟩ := h
    exact q_retz hx hb hr hw hv4 h dX3_tellAll_61
