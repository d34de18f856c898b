def wX4_quotient (v1 : Int32) (v2 : Int32) (G : GS) (P : Int32 → Prop) : Prop := (vp_in v2 98 ∧ (¬ (G 1 0) = 0 ∧ P ((v1 * (G 9 (cl v2))) - (v1 * (G 9 (cl v2))) / (G 1 0) * (G 1 0))))
set_option maxHeartbeats 4000000 in
set_option maxRecDepth 100000 in
theorem mX4_quotient (l : Launch) (w : WE) (cs : List Nat) (hcs : ∀ c, (c = 1 ∨ c = 8 ∨ c = 9 ∨ (32 ≤ c ∧ c < 38)) → c ∈ cs) (sz : Nat) (G : GS) (B : BS) (v1 : Int32) (v2 : Int32) (P : Int32 → Prop) (h : wX4_quotient v1 v2 G P) : Met l yX4_quotient wsX4_quotient (rmW 0) (PcW w cs sz G B [.ref (w.1 1), .int v1, .int v2]) (QI w cs sz (fun r G1 B1 => P r ∧ G = G1 ∧ B = B1)) 0 0 (AA w cs sz) := by
  refine metW (own := RX4) [.ref (w.1 1), .int v1, .int v2] (by decide +kernel) rfl rfl (Nat.le_of_ble_eq_true rfl) ?_
  intro p e s m below meth c ls hsz C hr hK hw hl
  subst hsz
  have hx := C.1
  have hb := C.2.1
  have hown := C.2.2.2.1
  have hta := fun w h => C.2.2.2.2 w (List.mem_cons_of_mem _ h)
  have hl : lv_has ls 3 [(0, .ref (w.1 1)), (1, .int v1), (2, .int v2)] := hl
  refine lv_iload_n hx hb dX4_quotient_0 rfl (lv_at hl 1 rfl) ?_
  refine lv_aload_n hx hb dX4_quotient_1 rfl (lv_at hl 0 rfl) ?_
  refine q_get (v := .ref (w.1 9)) (C := RX4) (T := TX4) (N := 5) (ci := 4) hx hb hta kw_X4 hown hK hw 1 (hcs _ (by omega)) (by unfold isB; omega) rfl rfl 4 (by decide) (hta _ kw_21) rfl rfl dX4_quotient_2 ?_
  refine lv_iload_n hx hb dX4_quotient_5 rfl (lv_at hl 2 rfl) ?_
  obtain ⟨hin1, h⟩ := h
  refine q_iald (n := 98) hx hb hK hw (hcs _ (by omega)) (by unfold isI; omega) rfl hin1 dX4_quotient_6 ?_
  refine lv_imul hx hb dX4_quotient_7 ?_
  refine lv_aload_n hx hb dX4_quotient_8 rfl (lv_at hl 0 rfl) ?_
  refine q_get (v := .int (G 1 0)) (C := RX4) (T := TX4) (N := 5) (ci := 4) hx hb hta kw_X4 hown hK hw 1 (hcs _ (by omega)) (by unfold isB; omega) rfl rfl 0 (by decide) (hta _ kw_22) rfl rfl dX4_quotient_9 ?_
  obtain ⟨hz2, h⟩ := h
  refine lv_irem hx hb dX4_quotient_12 hz2 ?_
  exact q_reti hx hb hr hw ⟨h, rfl, rfl⟩ dX4_quotient_13
def wX4_remainder (v1 : Int32) (G : GS) (P : Int32 → Prop) : Prop := (wJ9_floorMod_7cf53 v1 (G 1 0) (fun r5 => P r5))
set_option maxHeartbeats 4000000 in
set_option maxRecDepth 100000 in
theorem mX4_remainder (l : Launch) (w : WE) (cs : List Nat) (hcs : ∀ c, (c = 1 ∨ c = 8 ∨ c = 9 ∨ (32 ≤ c ∧ c < 38)) → c ∈ cs) (sz : Nat) (G : GS) (B : BS) (v1 : Int32) (P : Int32 → Prop) (h : wX4_remainder v1 G P) : Met l yX4_remainder wsX4_remainder (rmW 1) (PcW w cs sz G B [.ref (w.1 1), .int v1]) (QI w cs sz (fun r G1 B1 => P r ∧ G = G1 ∧ B = B1)) 0 0 (AA w cs sz) := by
  refine metW (own := RX4) [.ref (w.1 1), .int v1] (by decide +kernel) rfl rfl (Nat.le_of_ble_eq_true rfl) ?_
  intro p e s m below meth c ls hsz C hr hK hw hl
  subst hsz
  have hx := C.1
  have hb := C.2.1
  have hown := C.2.2.2.1
  have hta := fun w h => C.2.2.2.2 w (List.mem_cons_of_mem _ h)
  have hl : lv_has ls 2 [(0, .ref (w.1 1)), (1, .int v1)] := hl
  refine lv_iload_n hx hb dX4_remainder_0 rfl (lv_at hl 1 rfl) ?_
  refine lv_aload_n hx hb dX4_remainder_1 rfl (lv_at hl 0 rfl) ?_
  refine q_get (v := .int (G 1 0)) (C := RX4) (T := TX4) (N := 5) (ci := 4) hx hb hta kw_X4 hown hK hw 1 (hcs _ (by omega)) (by unfold isB; omega) rfl rfl 0 (by decide) (hta _ kw_22) rfl rfl dX4_remainder_2 ?_
  refine q_calli hw (va_runS (As := [.int v1, .int (G 1 0)]) (rest := []) C (mJ9_floorMod_7cf53 l w cs _ G B v1 (G 1 0) _ h) (va_cwS 2 hta (gSw kw_24 kw_25 kw_11 kw_23) rfl rfl rfl (by decide +kernel) ⟨Nat.le_of_ble_eq_true rfl, Nat.le_of_ble_eq_true rfl⟩) (preS hK hw _) rfl rfl hl.1 rfl (lv_room (Nat.le_of_ble_eq_true rfl)) dX4_remainder_5 ⟨Nat.le_refl 0, Nat.le_refl 0⟩) (fun r5 G5 B5 H locs h hw => ?_)
  obtain ⟨h, e1, e2⟩ := h; subst e1; subst e2
  exact q_reti hx hb hr hw ⟨h, rfl, rfl⟩ dX4_remainder_8
def wlX4_shape_18 (K41 : GS → Prop) : Nat → Int32 → GS → Prop
  | 0, _, _ => False
  | n18 + 1, v4, G => (((6 : Int32) ≤ v4 → K41 G) ∧ (¬ (6 : Int32) ≤ v4 → (vp_in v4 6 ∧ (wX5_clear (32 + cl v4) G (fun G32 => wlX4_shape_18 K41 n18 (v4 + (1 : Int32)) G32)))))
def wlX4_shape_51 (K103 : GS → Prop) : Nat → Int32 → GS → Prop
  | 0, _, _ => False
  | n51 + 1, v4, G => (((G 1 0) ≤ v4 → K103 G) ∧ (¬ (G 1 0) ≤ v4 → (¬ v4 = 0 ∧ (¬ v4 = 0 ∧ (vp_in ((G 1 0) - (G 1 0) / v4 * v4) 98 ∧ (¬ (G 1 0) = 0 ∧ (vp_in v4 98 ∧ (∀ G96 : GS, G96 = wr G 9 (cl v4) ((((G 1 0) - ((G 1 0) / v4)) * (G 9 (cl ((G 1 0) - (G 1 0) / v4 * v4)))) - (((G 1 0) - ((G 1 0) / v4)) * (G 9 (cl ((G 1 0) - (G 1 0) / v4 * v4)))) / (G 1 0) * (G 1 0)) → wlX4_shape_51 K103 n51 (v4 + (1 : Int32)) G96))))))))
def wX4_shape (v1 : Int32) (v2 : Int32) (v3 : Int32) (G : GS) (P : GS → Prop) : Prop := (∀ G2 : GS, G2 = wr G 1 0 v1 → (∀ G7 : GS, G7 = wr G2 1 1 v2 → (∀ G12 : GS, G12 = wr G7 1 2 v3 → (∃ z18 : Nat, wlX4_shape_18 (fun G_41 => (∀ G47 : GS, G47 = wr G_41 9 (cl (1 : Int32)) (1 : Int32) → (∃ z51 : Nat, wlX4_shape_51 (fun G_103 => P G_103) z51 (2 : Int32) G47))) z18 (0 : Int32) G12))))
set_option maxHeartbeats 4000000 in
set_option maxRecDepth 100000 in
theorem lX4_shape_18 {p : Program} {l : Launch} {e : Env} {s : State} {m : MethodId} {args : Array Value} {below : List Frame} {meth : Method} {c : Code} {Q : State → Prop} {w : WE} {cs : List Nat} {A : Nat → Prop} {H0 : Heap} (C : CallFix p m c cX4_shape 5 s args wsX4_shape RX4) (hK : KW w s) (hcs : ∀ c, (c = 1 ∨ c = 8 ∨ c = 9 ∨ (32 ≤ c ∧ c < 38)) → c ∈ cs) (B : BS) {K41 : GS → Prop} (k41 : ∀ (G : GS) (H : Heap) (locs : List Loc) (ls : Array Slot), K41 G → WO w cs A H0 G B H locs → lv_has ls 5 [(0, .ref (w.1 1))] → W p l e (rmW 1) s m args below meth c H locs 0 0 Q (F0 m 41 ls [])) : ∀ (n : Nat) (v4 : Int32) (G : GS) (H : Heap) (locs : List Loc) (ls : Array Slot), wlX4_shape_18 K41 n v4 G → WO w cs A H0 G B H locs → lv_has ls 5 [(0, .ref (w.1 1)), (4, .int v4)] → W p l e (rmW 1) s m args below meth c H locs 0 0 Q (F0 m 18 ls []) := by
  have hx := C.1
  have hb := C.2.1
  have hown := C.2.2.2.1
  have hta := fun w h => C.2.2.2.2 w (List.mem_cons_of_mem _ h)
  intro n
  induction n with
  | zero => intro v4 G H locs ls h hw hl; exact False.elim h
  | succ n ih =>
    intro v4 G H locs ls h hw hl
    refine lv_iload hx hb dX4_shape_18 (lv_at hl 1 rfl) ?_
    refine lv_bipush (v := 6) hx hb dX4_shape_20 (by decide) ?_
    refine lv_icmp_ge (tgt := 41) hx hb dX4_shape_22 (by decide) (fun c1 => ?_) (fun c1 => ?_)
    · have h := h.1 c1
      exact k41 G _ _ _ h hw (lv_sub hl [0] rfl)
    · have h := h.2 c1
      refine lv_aload_n hx hb dX4_shape_25 rfl (lv_at hl 0 rfl) ?_
      refine q_get (v := .ref (w.1 8)) (C := RX4) (T := TX4) (N := 5) (ci := 4) hx hb hta kw_X4 hown hK hw 1 (hcs _ (by omega)) (by unfold isB; omega) rfl rfl 3 (by decide) (hta _ kw_28) rfl rfl dX4_shape_26 ?_
      refine lv_iload hx hb dX4_shape_29 (lv_at hl 1 rfl) ?_
      obtain ⟨hin2, h⟩ := h
      have hv3 : 32 ≤ (32 + cl v4) ∧ (32 + cl v4) < 38 := vp_iv hin2
      refine q_aald (b := 32) (n := 6) hx hb hK hw (a := 8) (hcs _ (by omega)) (by unfold isO; omega) rfl rfl hin2 dX4_shape_31 ?_
      refine q_callv hw (va_runSN (As := [.ref (w.1 (32 + cl v4))]) (rest := []) C (mX5_clear l w cs _ G B (32 + cl v4) (isI_row (by omega) (by omega)) (hcs _ (by omega)) _ h) ⟨va_cnB 1 hta (gNw kw_29) rfl rfl rfl (hK.2 (.methodLinkNest RX4 34 yX5_clear RX5) (by decide +kernel)) (hta _ kw_30) (by decide +kernel) ⟨Nat.le_of_ble_eq_true rfl, Nat.le_of_ble_eq_true rfl⟩, hta _ kw_31, trivial⟩ (preS hK hw _) rfl rfl hl.1 rfl (lv_room (Nat.le_of_ble_eq_true rfl)) dX4_shape_32 ⟨Nat.le_refl 0, Nat.le_refl 0⟩) (fun G32 B32 H locs h hw => ?_)
      obtain ⟨h, e2⟩ := h; subst e2
      refine lv_iinc (v := (v4 + (1 : Int32))) (lv' := [(4, .int (v4 + (1 : Int32))), (0, .ref (w.1 1))]) hx hb dX4_shape_35 hl (k := 1) rfl rfl (by decide) rfl (fun ls hl => ?_)
      refine lv_goto (tgt := 18) hx hb dX4_shape_38 (by decide) ?_
      exact ih (v4 + (1 : Int32)) G32 _ _ _ h hw (lv_sub hl [1, 0] rfl)
set_option maxHeartbeats 4000000 in
set_option maxRecDepth 100000 in
theorem lX4_shape_51 {p : Program} {l : Launch} {e : Env} {s : State} {m : MethodId} {args : Array Value} {below : List Frame} {meth : Method} {c : Code} {Q : State → Prop} {w : WE} {cs : List Nat} {A : Nat → Prop} {H0 : Heap} (C : CallFix p m c cX4_shape 5 s args wsX4_shape RX4) (hK : KW w s) (hcs : ∀ c, (c = 1 ∨ c = 8 ∨ c = 9 ∨ (32 ≤ c ∧ c < 38)) → c ∈ cs) (B : BS) {K103 : GS → Prop} (k103 : ∀ (G : GS) (H : Heap) (locs : List Loc) (ls : Array Slot), K103 G → WO w cs A H0 G B H locs → lv_has ls 5 [] → W p l e (rmW 1) s m args below meth c H locs 0 0 Q (F0 m 103 ls [])) : ∀ (n : Nat) (v4 : Int32) (G : GS) (H : Heap) (locs : List Loc) (ls : Array Slot), wlX4_shape_51 K103 n v4 G → WO w cs A H0 G B H locs → lv_has ls 5 [(0, .ref (w.1 1)), (4, .int v4)] → W p l e (rmW 1) s m args below meth c H locs 0 0 Q (F0 m 51 ls []) := by
  have hx := C.1
  have hb := C.2.1
  have hown := C.2.2.2.1
  have hta := fun w h => C.2.2.2.2 w (List.mem_cons_of_mem _ h)
  intro n
  induction n with
  | zero => intro v4 G H locs ls h hw hl; exact False.elim h
  | succ n ih =>
    intro v4 G H locs ls h hw hl
    refine lv_iload hx hb dX4_shape_51 (lv_at hl 1 rfl) ?_
    refine lv_aload_n hx hb dX4_shape_53 rfl (lv_at hl 0 rfl) ?_
    refine q_get (v := .int (G 1 0)) (C := RX4) (T := TX4) (N := 5) (ci := 4) hx hb hta kw_X4 hown hK hw 1 (hcs _ (by omega)) (by unfold isB; omega) rfl rfl 0 (by decide) (hta _ kw_22) rfl rfl dX4_shape_54 ?_
    refine lv_icmp_ge (tgt := 103) hx hb dX4_shape_57 (by decide) (fun c4 => ?_) (fun c4 => ?_)
    · have h := h.1 c4
      exact k103 G _ _ _ h hw (lv_sub hl [] rfl)
    · have h := h.2 c4
      refine lv_aload_n hx hb dX4_shape_60 rfl (lv_at hl 0 rfl) ?_
      refine q_get (v := .ref (w.1 9)) (C := RX4) (T := TX4) (N := 5) (ci := 4) hx hb hta kw_X4 hown hK hw 1 (hcs _ (by omega)) (by unfold isB; omega) rfl rfl 4 (by decide) (hta _ kw_21) rfl rfl dX4_shape_61 ?_
      refine lv_iload hx hb dX4_shape_64 (lv_at hl 1 rfl) ?_
      refine lv_aload_n hx hb dX4_shape_66 rfl (lv_at hl 0 rfl) ?_
      refine q_get (v := .int (G 1 0)) (C := RX4) (T := TX4) (N := 5) (ci := 4) hx hb hta kw_X4 hown hK hw 1 (hcs _ (by omega)) (by unfold isB; omega) rfl rfl 0 (by decide) (hta _ kw_22) rfl rfl dX4_shape_67 ?_
      refine lv_aload_n hx hb dX4_shape_70 rfl (lv_at hl 0 rfl) ?_
      refine q_get (v := .int (G 1 0)) (C := RX4) (T := TX4) (N := 5) (ci := 4) hx hb hta kw_X4 hown hK hw 1 (hcs _ (by omega)) (by unfold isB; omega) rfl rfl 0 (by decide) (hta _ kw_22) rfl rfl dX4_shape_71 ?_
      refine lv_iload hx hb dX4_shape_74 (lv_at hl 1 rfl) ?_
      obtain ⟨hz5, h⟩ := h
      refine lv_idiv hx hb dX4_shape_76 hz5 ?_
      refine lv_isub hx hb dX4_shape_77 ?_
      refine lv_aload_n hx hb dX4_shape_78 rfl (lv_at hl 0 rfl) ?_
      refine q_get (v := .ref (w.1 9)) (C := RX4) (T := TX4) (N := 5) (ci := 4) hx hb hta kw_X4 hown hK hw 1 (hcs _ (by omega)) (by unfold isB; omega) rfl rfl 4 (by decide) (hta _ kw_21) rfl rfl dX4_shape_79 ?_
      refine lv_aload_n hx hb dX4_shape_82 rfl (lv_at hl 0 rfl) ?_
      refine q_get (v := .int (G 1 0)) (C := RX4) (T := TX4) (N := 5) (ci := 4) hx hb hta kw_X4 hown hK hw 1 (hcs _ (by omega)) (by unfold isB; omega) rfl rfl 0 (by decide) (hta _ kw_22) rfl rfl dX4_shape_83 ?_
      refine lv_iload hx hb dX4_shape_86 (lv_at hl 1 rfl) ?_
      obtain ⟨hz6, h⟩ := h
      refine lv_irem hx hb dX4_shape_88 hz6 ?_
      obtain ⟨hin7, h⟩ := h
      refine q_iald (n := 98) hx hb hK hw (hcs _ (by omega)) (by unfold isI; omega) rfl hin7 dX4_shape_89 ?_
      refine lv_imul hx hb dX4_shape_90 ?_
      refine lv_aload_n hx hb dX4_shape_91 rfl (lv_at hl 0 rfl) ?_
      refine q_get (v := .int (G 1 0)) (C := RX4) (T := TX4) (N := 5) (ci := 4) hx hb hta kw_X4 hown hK hw 1 (hcs _ (by omega)) (by unfold isB; omega) rfl rfl 0 (by decide) (hta _ kw_22) rfl rfl dX4_shape_92 ?_
      obtain ⟨hz8, h⟩ := h
      refine lv_irem hx hb dX4_shape_95 hz8 ?_
      obtain ⟨hin9, h⟩ := h
      refine q_iast (n := 98) hx hb hK hw (hcs _ (by omega)) (by unfold isI; omega) rfl hin9 dX4_shape_96 (fun H locs G96 eG96 hw => ?_)
      have h := h G96 eG96
      refine lv_iinc (v := (v4 + (1 : Int32))) (lv' := [(4, .int (v4 + (1 : Int32))), (0, .ref (w.1 1))]) hx hb dX4_shape_97 hl (k := 1) rfl rfl (by decide) rfl (fun ls hl => ?_)
      refine lv_goto (tgt := 51) hx hb dX4_shape_100 (by decide) ?_
      exact ih (v4 + (1 : Int32)) G96 _ _ _ h hw (lv_sub hl [1, 0] rfl)
set_option maxHeartbeats 4000000 in
set_option maxRecDepth 100000 in
theorem mX4_shape (l : Launch) (w : WE) (cs : List Nat) (hcs : ∀ c, (c = 1 ∨ c = 8 ∨ c = 9 ∨ (32 ≤ c ∧ c < 38)) → c ∈ cs) (sz : Nat) (G : GS) (B : BS) (v1 : Int32) (v2 : Int32) (v3 : Int32) (P : GS → Prop) (h : wX4_shape v1 v2 v3 G P) : Met l yX4_shape wsX4_shape (rmW 1) (PcW w cs sz G B [.ref (w.1 1), .int v1, .int v2, .int v3]) (QV w cs sz (fun G1 B1 => P G1 ∧ B = B1)) 0 0 (AA w cs sz) := by
  refine metW (own := RX4) [.ref (w.1 1), .int v1, .int v2, .int v3] (by decide +kernel) rfl rfl (Nat.le_of_ble_eq_true rfl) ?_
  intro p e s m below meth c ls hsz C hr hK hw hl
  subst hsz
  have hx := C.1
  have hb := C.2.1
  have hown := C.2.2.2.1
  have hta := fun w h => C.2.2.2.2 w (List.mem_cons_of_mem _ h)
  have hl : lv_has ls 5 [(0, .ref (w.1 1)), (1, .int v1), (2, .int v2), (3, .int v3)] := hl
  refine lv_aload_n hx hb dX4_shape_0 rfl (lv_at hl 0 rfl) ?_
  refine lv_iload_n hx hb dX4_shape_1 rfl (lv_at hl 1 rfl) ?_
  refine q_put (x := v1) (C := RX4) (T := TX4) (N := 5) (ci := 4) hx hb hta kw_X4 tyX4 tyX4_ok nmX4 hown hK hw 1 (hcs _ (by omega)) (by unfold isB; omega) rfl rfl 0 (by decide) (hta _ kw_22) rfl rfl rfl (Nat.le_of_ble_eq_true rfl) rfl dX4_shape_2 (fun H locs G2 eG2 hw => ?_)
  have h := h G2 eG2
  refine lv_aload_n hx hb dX4_shape_5 rfl (lv_at hl 0 rfl) ?_
  refine lv_iload_n hx hb dX4_shape_6 rfl (lv_at hl 2 rfl) ?_
  refine q_put (x := v2) (C := RX4) (T := TX4) (N := 5) (ci := 4) hx hb hta kw_X4 tyX4 tyX4_ok nmX4 hown hK hw 1 (hcs _ (by omega)) (by unfold isB; omega) rfl rfl 1 (by decide) (hta _ kw_26) rfl rfl rfl (Nat.le_of_ble_eq_true rfl) rfl dX4_shape_7 (fun H locs G7 eG7 hw => ?_)
  have h := h G7 eG7
  refine lv_aload_n hx hb dX4_shape_10 rfl (lv_at hl 0 rfl) ?_
  refine lv_iload_n hx hb dX4_shape_11 rfl (lv_at hl 3 rfl) ?_
  refine q_put (x := v3) (C := RX4) (T := TX4) (N := 5) (ci := 4) hx hb hta kw_X4 tyX4 tyX4_ok nmX4 hown hK hw 1 (hcs _ (by omega)) (by unfold isB; omega) rfl rfl 2 (by decide) (hta _ kw_27) rfl rfl rfl (Nat.le_of_ble_eq_true rfl) rfl dX4_shape_12 (fun H locs G12 eG12 hw => ?_)
  have h := h G12 eG12
  refine lv_iconst (v := 0) hx hb dX4_shape_15 (by decide) ?_
  refine lv_istore (lv' := [(4, .int (0 : Int32)), (0, .ref (w.1 1)), (1, .int v1), (2, .int v2), (3, .int v3)]) hx hb dX4_shape_16 hl (by decide) rfl (fun ls hl => ?_)
  obtain ⟨n18, h⟩ := h
  refine lX4_shape_18 C hK hcs B (K41 := _) ?_ n18 (0 : Int32) G12 _ _ _ h hw (lv_sub hl [1, 0] rfl)
  · intro G_41 H locs ls h hw hl
    refine lv_aload_n hx hb dX4_shape_41 rfl (lv_at hl 0 rfl) ?_
    refine q_get (v := .ref (w.1 9)) (C := RX4) (T := TX4) (N := 5) (ci := 4) hx hb hta kw_X4 hown hK hw 1 (hcs _ (by omega)) (by unfold isB; omega) rfl rfl 4 (by decide) (hta _ kw_21) rfl rfl dX4_shape_42 ?_
    refine lv_iconst (v := 1) hx hb dX4_shape_45 (by decide) ?_
    refine lv_iconst (v := 1) hx hb dX4_shape_46 (by decide) ?_
    refine q_iast (n := 98) hx hb hK hw (hcs _ (by omega)) (by unfold isI; omega) rfl (by unfold vp_in; decide) dX4_shape_47 (fun H locs G47 eG47 hw => ?_)
    have h := h G47 eG47
    refine lv_iconst (v := 2) hx hb dX4_shape_48 (by decide) ?_
    refine lv_istore (lv' := [(4, .int (2 : Int32)), (0, .ref (w.1 1))]) hx hb dX4_shape_49 hl (by decide) rfl (fun ls hl => ?_)
    obtain ⟨n51, h⟩ := h
    refine lX4_shape_51 C hK hcs B (K103 := _) ?_ n51 (2 : Int32) G47 _ _ _ h hw (lv_sub hl [1, 0] rfl)
    · intro G_103 H locs ls h hw hl
      exact q_retv hx hb hr hw ⟨h, rfl⟩ dX4_shape_103
def wX4_has (v1 : Int32) (v2 : Int32) (G : GS) (P : Int32 → Prop) : Prop := ((v1 < 0 → P (0 : Int32)) ∧ (¬ v1 < 0 → (((G 1 1) ≤ v1 → P (0 : Int32)) ∧ (¬ (G 1 1) ≤ v1 → ((v2 < 0 → P (0 : Int32)) ∧ (¬ v2 < 0 → (((G 1 2) ≤ v2 → P (0 : Int32)) ∧ (¬ (G 1 2) ≤ v2 → P (1 : Int32)))))))))
set_option maxHeartbeats 4000000 in
set_option maxRecDepth 100000 in
theorem mX4_has (l : Launch) (w : WE) (cs : List Nat) (hcs : ∀ c, (c = 1 ∨ c = 8 ∨ c = 9 ∨ (32 ≤ c ∧ c < 38)) → c ∈ cs) (sz : Nat) (G : GS) (B : BS) (v1 : Int32) (v2 : Int32) (P : Int32 → Prop) (h : wX4_has v1 v2 G P) : Met l yX4_has wsX4_has (rmW 0) (PcW w cs sz G B [.ref (w.1 1), .int v1, .int v2]) (QI w cs sz (fun r G1 B1 => P r ∧ G = G1 ∧ B = B1)) 0 0 (AA w cs sz) := by
  refine metW (own := RX4) [.ref (w.1 1), .int v1, .int v2] (by decide +kernel) rfl rfl (Nat.le_of_ble_eq_true rfl) ?_
  intro p e s m below meth c ls hsz C hr hK hw hl
  subst hsz
  have hx := C.1
  have hb := C.2.1
  have hown := C.2.2.2.1
  have hta := fun w h => C.2.2.2.2 w (List.mem_cons_of_mem _ h)
  have hl : lv_has ls 3 [(0, .ref (w.1 1)), (1, .int v1), (2, .int v2)] := hl
  refine lv_iload_n hx hb dX4_has_0 rfl (lv_at hl 1 rfl) ?_
  refine lv_if_lt (tgt := 28) hx hb dX4_has_1 (by decide) (fun c1 => ?_) (fun c1 => ?_)
  · have h := h.1 c1
    refine lv_iconst (v := 0) hx hb dX4_has_28 (by decide) ?_
    exact q_retz hx hb hr hw (Or.inl rfl) ⟨h, rfl, rfl⟩ dX4_has_29
  · have h := h.2 c1
    refine lv_iload_n hx hb dX4_has_4 rfl (lv_at hl 1 rfl) ?_
    refine lv_aload_n hx hb dX4_has_5 rfl (lv_at hl 0 rfl) ?_
    refine q_get (v := .int (G 1 1)) (C := RX4) (T := TX4) (N := 5) (ci := 4) hx hb hta kw_X4 hown hK hw 1 (hcs _ (by omega)) (by unfold isB; omega) rfl rfl 1 (by decide) (hta _ kw_26) rfl rfl dX4_has_6 ?_
    refine lv_icmp_ge (tgt := 28) hx hb dX4_has_9 (by decide) (fun c2 => ?_) (fun c2 => ?_)
    · have h := h.1 c2
      refine lv_iconst (v := 0) hx hb dX4_has_28 (by decide) ?_
      exact q_retz hx hb hr hw (Or.inl rfl) ⟨h, rfl, rfl⟩ dX4_has_29
    · have h := h.2 c2
      refine lv_iload_n hx hb dX4_has_12 rfl (lv_at hl 2 rfl) ?_
      refine lv_if_lt (tgt := 28) hx hb dX4_has_13 (by decide) (fun c3 => ?_) (fun c3 => ?_)
      · have h := h.1 c3
        refine lv_iconst (v := 0) hx hb dX4_has_28 (by decide) ?_
        exact q_retz hx hb hr hw (Or.inl rfl) ⟨h, rfl, rfl⟩ dX4_has_29
      · have h := h.2 c3
        refine lv_iload_n hx hb dX4_has_16 rfl (lv_at hl 2 rfl) ?_
        refine lv_aload_n hx hb dX4_has_17 rfl (lv_at hl 0 rfl) ?_
        refine q_get (v := .int (G 1 2)) (C := RX4) (T := TX4) (N := 5) (ci := 4) hx hb hta kw_X4 hown hK hw 1 (hcs _ (by omega)) (by unfold isB; omega) rfl rfl 2 (by decide) (hta _ kw_27) rfl rfl dX4_has_18 ?_
        refine lv_icmp_ge (tgt := 28) hx hb dX4_has_21 (by decide) (fun c4 => ?_) (fun c4 => ?_)
        · have h := h.1 c4
          refine lv_iconst (v := 0) hx hb dX4_has_28 (by decide) ?_
          exact q_retz hx hb hr hw (Or.inl rfl) ⟨h, rfl, rfl⟩ dX4_has_29
        · have h := h.2 c4
          refine lv_iconst (v := 1) hx hb dX4_has_24 (by decide) ?_
          refine lv_goto (tgt := 29) hx hb dX4_has_25 (by decide) ?_
          exact q_retz hx hb hr hw (Or.inr rfl) ⟨h, rfl, rfl⟩ dX4_has_29
def wlX4_fillWithPowers_15 (K51 : GS → Prop) (v1 : Int32) (v2 : Int32) : Nat → Int32 → Int32 → GS → Prop
  | 0, _, _, _ => False
  | n15 + 1, v3, v4, G => (((G 1 1) ≤ v4 → K51 G) ∧ (¬ (G 1 1) ≤ v4 → (vp_in v4 6 ∧ (vp_in v2 12 ∧ (∀ G33 : GS, G33 = wr G (32 + cl v4) (cl v2) v3 → (¬ (G33 1 0) = 0 ∧ (∀ x44 : Int32, x44 = ((v3 * (v2 + (1 : Int32))) - (v3 * (v2 + (1 : Int32))) / (G33 1 0) * (G33 1 0)) → wlX4_fillWithPowers_15 K51 v1 v2 n15 x44 (v4 + (1 : Int32)) G33)))))))
def wlX4_fillWithPowers_2 (K57 : GS → Prop) (v1 : Int32) : Nat → Int32 → GS → Prop
  | 0, _, _ => False
  | n2 + 1, v2, G => (((G 1 2) ≤ v2 → K57 G) ∧ (¬ (G 1 2) ≤ v2 → (∃ z15 : Nat, wlX4_fillWithPowers_15 (fun G_51 => wlX4_fillWithPowers_2 K57 v1 n2 (v2 + (1 : Int32)) G_51) v1 v2 z15 v1 (0 : Int32) G)))
def wX4_fillWithPowers (v1 : Int32) (G : GS) (P : GS → Prop) : Prop := (∃ z2 : Nat, wlX4_fillWithPowers_2 (fun G_57 => P G_57) v1 z2 (0 : Int32) G)
set_option maxHeartbeats 4000000 in
set_option maxRecDepth 100000 in
theorem lX4_fillWithPowers_15 {p : Program} {l : Launch} {e : Env} {s : State} {m : MethodId} {args : Array Value} {below : List Frame} {meth : Method} {c : Code} {Q : State → Prop} {w : WE} {cs : List Nat} {A : Nat → Prop} {H0 : Heap} (C : CallFix p m c cX4_fillWithPowers 5 s args wsX4_fillWithPowers RX4) (hK : KW w s) (hcs : ∀ c, (c = 1 ∨ c = 8 ∨ c = 9 ∨ (32 ≤ c ∧ c < 38)) → c ∈ cs) (v1 : Int32) (v2 : Int32) (B : BS) {K51 : GS → Prop} (k51 : ∀ (G : GS) (H : Heap) (locs : List Loc) (ls : Array Slot), K51 G → WO w cs A H0 G B H locs → lv_has ls 5 [(0, .ref (w.1 1)), (1, .int v1), (2, .int v2)] → W p l e (rmW 0) s m args below meth c H locs 0 0 Q (F0 m 51 ls [])) : ∀ (n : Nat) (v3 : Int32) (v4 : Int32) (G : GS) (H : Heap) (locs : List Loc) (ls : Array Slot), wlX4_fillWithPowers_15 K51 v1 v2 n v3 v4 G → WO w cs A H0 G B H locs → lv_has ls 5 [(0, .ref (w.1 1)), (1, .int v1), (2, .int v2), (3, .int v3), (4, .int v4)] → W p l e (rmW 0) s m args below meth c H locs 0 0 Q (F0 m 15 ls []) := by
  have hx := C.1
  have hb := C.2.1
  have hown := C.2.2.2.1
  have hta := fun w h => C.2.2.2.2 w (List.mem_cons_of_mem _ h)
  intro n
  induction n with
  | zero => intro v3 v4 G H locs ls h hw hl; exact False.elim h
  | succ n ih =>
    intro v3 v4 G H locs ls h hw hl
    refine lv_iload hx hb dX4_fillWithPowers_15 (lv_at hl 4 rfl) ?_
    refine lv_aload_n hx hb dX4_fillWithPowers_17 rfl (lv_at hl 0 rfl) ?_
    refine q_get (v := .int (G 1 1)) (C := RX4) (T := TX4) (N := 5) (ci := 4) hx hb hta kw_X4 hown hK hw 1 (hcs _ (by omega)) (by unfold isB; omega) rfl rfl 1 (by decide) (hta _ kw_26) rfl rfl dX4_fillWithPowers_18 ?_
    refine lv_icmp_ge (tgt := 51) hx hb dX4_fillWithPowers_21 (by decide) (fun c2 => ?_) (fun c2 => ?_)
    · have h := h.1 c2
      exact k51 G _ _ _ h hw (lv_sub hl [0, 1, 2] rfl)
    · have h := h.2 c2
      refine lv_aload_n hx hb dX4_fillWithPowers_24 rfl (lv_at hl 0 rfl) ?_
      refine q_get (v := .ref (w.1 8)) (C := RX4) (T := TX4) (N := 5) (ci := 4) hx hb hta kw_X4 hown hK hw 1 (hcs _ (by omega)) (by unfold isB; omega) rfl rfl 3 (by decide) (hta _ kw_28) rfl rfl dX4_fillWithPowers_25 ?_
      refine lv_iload hx hb dX4_fillWithPowers_28 (lv_at hl 4 rfl) ?_
      obtain ⟨hin3, h⟩ := h
      have hv4 : 32 ≤ (32 + cl v4) ∧ (32 + cl v4) < 38 := vp_iv hin3
      refine q_aald (b := 32) (n := 6) hx hb hK hw (a := 8) (hcs _ (by omega)) (by unfold isO; omega) rfl rfl hin3 dX4_fillWithPowers_30 ?_
      refine lv_iload_n hx hb dX4_fillWithPowers_31 rfl (lv_at hl 2 rfl) ?_
      refine lv_iload_n hx hb dX4_fillWithPowers_32 rfl (lv_at hl 3 rfl) ?_
      obtain ⟨hin5, h⟩ := h
      refine q_iast (n := 12) hx hb hK hw (hcs _ (by omega)) (isI_row (by omega) (by omega)) (ln_iv32 hv4) hin5 dX4_fillWithPowers_33 (fun H locs G33 eG33 hw => ?_)
      have h := h G33 eG33
      refine lv_iload_n hx hb dX4_fillWithPowers_34 rfl (lv_at hl 3 rfl) ?_
      refine lv_iload_n hx hb dX4_fillWithPowers_35 rfl (lv_at hl 2 rfl) ?_
      refine lv_iconst (v := 1) hx hb dX4_fillWithPowers_36 (by decide) ?_
      refine lv_iadd hx hb dX4_fillWithPowers_37 ?_
      refine lv_imul hx hb dX4_fillWithPowers_38 ?_
      refine lv_aload_n hx hb dX4_fillWithPowers_39 rfl (lv_at hl 0 rfl) ?_
      refine q_get (v := .int (G33 1 0)) (C := RX4) (T := TX4) (N := 5) (ci := 4) hx hb hta kw_X4 hown hK hw 1 (hcs _ (by omega)) (by unfold isB; omega) rfl rfl 0 (by decide) (hta _ kw_22) rfl rfl dX4_fillWithPowers_40 ?_
      obtain ⟨hz6, h⟩ := h
      refine lv_irem hx hb dX4_fillWithPowers_43 hz6 ?_
      refine lv_topi (fun x44 ex44 => ?_)
      have h := h x44 ex44
      refine lv_istore_n (lv' := [(3, .int x44), (0, .ref (w.1 1)), (1, .int v1), (2, .int v2), (4, .int v4)]) hx hb dX4_fillWithPowers_44 rfl hl (by decide) rfl (fun ls hl => ?_)
      refine lv_iinc (v := (v4 + (1 : Int32))) (lv' := [(4, .int (v4 + (1 : Int32))), (3, .int x44), (0, .ref (w.1 1)), (1, .int v1), (2, .int v2)]) hx hb dX4_fillWithPowers_45 hl (k := 4) rfl rfl (by decide) rfl (fun ls hl => ?_)
      refine lv_goto (tgt := 15) hx hb dX4_fillWithPowers_48 (by decide) ?_
      exact ih x44 (v4 + (1 : Int32)) G33 _ _ _ h hw (lv_sub hl [2, 3, 4, 1, 0] rfl)
set_option maxHeartbeats 4000000 in
set_option maxRecDepth 100000 in
theorem lX4_fillWithPowers_2 {p : Program} {l : Launch} {e : Env} {s : State} {m : MethodId} {args : Array Value} {below : List Frame} {meth : Method} {c : Code} {Q : State → Prop} {w : WE} {cs : List Nat} {A : Nat → Prop} {H0 : Heap} (C : CallFix p m c cX4_fillWithPowers 5 s args wsX4_fillWithPowers RX4) (hK : KW w s) (hcs : ∀ c, (c = 1 ∨ c = 8 ∨ c = 9 ∨ (32 ≤ c ∧ c < 38)) → c ∈ cs) (v1 : Int32) (B : BS) {K57 : GS → Prop} (k57 : ∀ (G : GS) (H : Heap) (locs : List Loc) (ls : Array Slot), K57 G → WO w cs A H0 G B H locs → lv_has ls 5 [] → W p l e (rmW 0) s m args below meth c H locs 0 0 Q (F0 m 57 ls [])) : ∀ (n : Nat) (v2 : Int32) (G : GS) (H : Heap) (locs : List Loc) (ls : Array Slot), wlX4_fillWithPowers_2 K57 v1 n v2 G → WO w cs A H0 G B H locs → lv_has ls 5 [(0, .ref (w.1 1)), (1, .int v1), (2, .int v2)] → W p l e (rmW 0) s m args below meth c H locs 0 0 Q (F0 m 2 ls []) := by
  have hx := C.1
  have hb := C.2.1
  have hown := C.2.2.2.1
  have hta := fun w h => C.2.2.2.2 w (List.mem_cons_of_mem _ h)
  intro n
  induction n with
  | zero => intro v2 G H locs ls h hw hl; exact False.elim h
  | succ n ih =>
    intro v2 G H locs ls h hw hl
    refine lv_iload_n hx hb dX4_fillWithPowers_2 rfl (lv_at hl 2 rfl) ?_
    refine lv_aload_n hx hb dX4_fillWithPowers_3 rfl (lv_at hl 0 rfl) ?_
    refine q_get (v := .int (G 1 2)) (C := RX4) (T := TX4) (N := 5) (ci := 4) hx hb hta kw_X4 hown hK hw 1 (hcs _ (by omega)) (by unfold isB; omega) rfl rfl 2 (by decide) (hta _ kw_27) rfl rfl dX4_fillWithPowers_4 ?_
    refine lv_icmp_ge (tgt := 57) hx hb dX4_fillWithPowers_7 (by decide) (fun c1 => ?_) (fun c1 => ?_)
    · have h := h.1 c1
      exact k57 G _ _ _ h hw (lv_sub hl [] rfl)
    · have h := h.2 c1
      refine lv_iload_n hx hb dX4_fillWithPowers_10 rfl (lv_at hl 1 rfl) ?_
      refine lv_istore_n (lv' := [(3, .int v1), (0, .ref (w.1 1)), (1, .int v1), (2, .int v2)]) hx hb dX4_fillWithPowers_11 rfl hl (by decide) rfl (fun ls hl => ?_)
      refine lv_iconst (v := 0) hx hb dX4_fillWithPowers_12 (by decide) ?_
      refine lv_istore (lv' := [(4, .int (0 : Int32)), (3, .int v1), (0, .ref (w.1 1)), (1, .int v1), (2, .int v2)]) hx hb dX4_fillWithPowers_13 hl (by decide) rfl (fun ls hl => ?_)
      obtain ⟨n15, h⟩ := h
      refine lX4_fillWithPowers_15 C hK hcs v1 v2 B (K51 := _) ?_ n15 v1 (0 : Int32) G _ _ _ h hw (lv_sub hl [2, 3, 4, 1, 0] rfl)
      · intro G_51 H locs ls h hw hl
        refine lv_iinc (v := (v2 + (1 : Int32))) (lv' := [(2, .int (v2 + (1 : Int32))), (0, .ref (w.1 1)), (1, .int v1)]) hx hb dX4_fillWithPowers_51 hl (k := 2) rfl rfl (by decide) rfl (fun ls hl => ?_)
        refine lv_goto (tgt := 2) hx hb dX4_fillWithPowers_54 (by decide) ?_
        exact ih (v2 + (1 : Int32)) G_51 _ _ _ h hw (lv_sub hl [1, 2, 0] rfl)
set_option maxHeartbeats 4000000 in
set_option maxRecDepth 100000 in
theorem mX4_fillWithPowers (l : Launch) (w : WE) (cs : List Nat) (hcs : ∀ c, (c = 1 ∨ c = 8 ∨ c = 9 ∨ (32 ≤ c ∧ c < 38)) → c ∈ cs) (sz : Nat) (G : GS) (B : BS) (v1 : Int32) (P : GS → Prop) (h : wX4_fillWithPowers v1 G P) : Met l yX4_fillWithPowers wsX4_fillWithPowers (rmW 0) (PcW w cs sz G B [.ref (w.1 1), .int v1]) (QV w cs sz (fun G1 B1 => P G1 ∧ B = B1)) 0 0 (AA w cs sz) := by
  refine metW (own := RX4) [.ref (w.1 1), .int v1] (by decide +kernel) rfl rfl (Nat.le_of_ble_eq_true rfl) ?_
  intro p e s m below meth c ls hsz C hr hK hw hl
  subst hsz
  have hx := C.1
  have hb := C.2.1
  have hown := C.2.2.2.1
  have hta := fun w h => C.2.2.2.2 w (List.mem_cons_of_mem _ h)
  have hl : lv_has ls 5 [(0, .ref (w.1 1)), (1, .int v1)] := hl
  refine lv_iconst (v := 0) hx hb dX4_fillWithPowers_0 (by decide) ?_
  refine lv_istore_n (lv' := [(2, .int (0 : Int32)), (0, .ref (w.1 1)), (1, .int v1)]) hx hb dX4_fillWithPowers_1 rfl hl (by decide) rfl (fun ls hl => ?_)
  obtain ⟨n2, h⟩ := h
  refine lX4_fillWithPowers_2 C hK hcs v1 B (K57 := _) ?_ n2 (0 : Int32) G _ _ _ h hw (lv_sub hl [1, 2, 0] rfl)
  · intro G_57 H locs ls h hw hl
    exact q_retv hx hb hr hw ⟨h, rfl⟩ dX4_fillWithPowers_57
def wlX4_sumsOf_16 (K50 : Int32 → Prop) (a1 : Nat) (a2 : Nat) (v3 : Int32) (G : GS) : Nat → Int32 → Int32 → Prop
  | 0, _, _ => False
  | n16 + 1, v4, v5 => (((G 1 2) ≤ v5 → K50 v4) ∧ (¬ (G 1 2) ≤ v5 → (vp_in v3 6 ∧ (vp_in v5 12 ∧ (vp_in v5 (ln a1) ∧ (∀ x42 : Int32, x42 = (v4 + ((G (32 + cl v3) (cl v5)) * (G a1 (cl v5)))) → wlX4_sumsOf_16 K50 a1 a2 v3 G n16 x42 (v5 + (1 : Int32))))))))
def wlX4_sumsOf_2 (K66 : GS → Prop) (a1 : Nat) (a2 : Nat) : Nat → Int32 → GS → Prop
  | 0, _, _ => False
  | n2 + 1, v3, G => (((G 1 1) ≤ v3 → K66 G) ∧ (¬ (G 1 1) ≤ v3 → (∃ z16 : Nat, wlX4_sumsOf_16 (fun x4_50 => (¬ (G 1 0) = 0 ∧ (vp_in v3 (ln a2) ∧ (∀ G59 : GS, G59 = wr G a2 (cl v3) (x4_50 - x4_50 / (G 1 0) * (G 1 0)) → wlX4_sumsOf_2 K66 a1 a2 n2 (v3 + (1 : Int32)) G59)))) a1 a2 v3 G z16 (0 : Int32) (0 : Int32))))
def wX4_sumsOf (a1 : Nat) (a2 : Nat) (G : GS) (P : GS → Prop) : Prop := (∃ z2 : Nat, wlX4_sumsOf_2 (fun G_66 => P G_66) a1 a2 z2 (0 : Int32) G)
set_option maxHeartbeats 4000000 in
set_option maxRecDepth 100000 in
theorem lX4_sumsOf_16 {p : Program} {l : Launch} {e : Env} {s : State} {m : MethodId} {args : Array Value} {below : List Frame} {meth : Method} {c : Code} {Q : State → Prop} {w : WE} {cs : List Nat} {A : Nat → Prop} {H0 : Heap} (C : CallFix p m c cX4_sumsOf 6 s args wsX4_sumsOf RX4) (hK : KW w s) (hcs : ∀ c, (c = 1 ∨ c = 8 ∨ c = 9 ∨ (32 ≤ c ∧ c < 38)) → c ∈ cs) (a1 : Nat) (ha1I : isI a1) (ha1C : a1 ∈ cs) (a2 : Nat) (ha2I : isI a2) (ha2C : a2 ∈ cs) (v3 : Int32) (G : GS) (B : BS) {K50 : Int32 → Prop} (k50 : ∀ (y4 : Int32) (H : Heap) (locs : List Loc) (ls : Array Slot), K50 y4 → WO w cs A H0 G B H locs → lv_has ls 6 [(0, .ref (w.1 1)), (1, .ref (w.1 a1)), (2, .ref (w.1 a2)), (3, .int v3), (4, .int y4)] → W p l e (rmW 0) s m args below meth c H locs 0 0 Q (F0 m 50 ls [])) : ∀ (n : Nat) (v4 : Int32) (v5 : Int32) (H : Heap) (locs : List Loc) (ls : Array Slot), wlX4_sumsOf_16 K50 a1 a2 v3 G n v4 v5 → WO w cs A H0 G B H locs → lv_has ls 6 [(0, .ref (w.1 1)), (1, .ref (w.1 a1)), (2, .ref (w.1 a2)), (3, .int v3), (4, .int v4), (5, .int v5)] → W p l e (rmW 0) s m args below meth c H locs 0 0 Q (F0 m 16 ls []) := by
  have hx := C.1
  have hb := C.2.1
  have hown := C.2.2.2.1
  have hta := fun w h => C.2.2.2.2 w (List.mem_cons_of_mem _ h)
  intro n
  induction n with
  | zero => intro v4 v5 H locs ls h hw hl; exact False.elim h
  | succ n ih =>
    intro v4 v5 H locs ls h hw hl
    refine lv_iload hx hb dX4_sumsOf_16 (lv_at hl 5 rfl) ?_
    refine lv_aload_n hx hb dX4_sumsOf_18 rfl (lv_at hl 0 rfl) ?_
    refine q_get (v := .int (G 1 2)) (C := RX4) (T := TX4) (N := 5) (ci := 4) hx hb hta kw_X4 hown hK hw 1 (hcs _ (by omega)) (by unfold isB; omega) rfl rfl 2 (by decide) (hta _ kw_27) rfl rfl dX4_sumsOf_19 ?_
    refine lv_icmp_ge (tgt := 50) hx hb dX4_sumsOf_22 (by decide) (fun c2 => ?_) (fun c2 => ?_)
    · have h := h.1 c2
      exact k50 v4 _ _ _ h hw (lv_sub hl [0, 1, 2, 3, 4] rfl)
    · have h := h.2 c2
      refine lv_iload hx hb dX4_sumsOf_25 (lv_at hl 4 rfl) ?_
      refine lv_aload_n hx hb dX4_sumsOf_27 rfl (lv_at hl 0 rfl) ?_
      refine q_get (v := .ref (w.1 8)) (C := RX4) (T := TX4) (N := 5) (ci := 4) hx hb hta kw_X4 hown hK hw 1 (hcs _ (by omega)) (by unfold isB; omega) rfl rfl 3 (by decide) (hta _ kw_28) rfl rfl dX4_sumsOf_28 ?_
      refine lv_iload_n hx hb dX4_sumsOf_31 rfl (lv_at hl 3 rfl) ?_
      obtain ⟨hin3, h⟩ := h
      have hv4 : 32 ≤ (32 + cl v3) ∧ (32 + cl v3) < 38 := vp_iv hin3
      refine q_aald (b := 32) (n := 6) hx hb hK hw (a := 8) (hcs _ (by omega)) (by unfold isO; omega) rfl rfl hin3 dX4_sumsOf_32 ?_
      refine lv_iload hx hb dX4_sumsOf_33 (lv_at hl 5 rfl) ?_
      obtain ⟨hin5, h⟩ := h
      refine q_iald (n := 12) hx hb hK hw (hcs _ (by omega)) (isI_row (by omega) (by omega)) (ln_iv32 hv4) hin5 dX4_sumsOf_35 ?_
      refine lv_aload_n hx hb dX4_sumsOf_36 rfl (lv_at hl 1 rfl) ?_
      refine lv_iload hx hb dX4_sumsOf_37 (lv_at hl 5 rfl) ?_
      obtain ⟨hin6, h⟩ := h
      refine q_iald (n := (ln a1)) hx hb hK hw ha1C ha1I rfl hin6 dX4_sumsOf_39 ?_
      refine lv_imul hx hb dX4_sumsOf_40 ?_
      refine lv_iadd hx hb dX4_sumsOf_41 ?_
      refine lv_topi (fun x42 ex42 => ?_)
      have h := h x42 ex42
      refine lv_istore (lv' := [(4, .int x42), (0, .ref (w.1 1)), (1, .ref (w.1 a1)), (2, .ref (w.1 a2)), (3, .int v3), (5, .int v5)]) hx hb dX4_sumsOf_42 hl (by decide) rfl (fun ls hl => ?_)
      refine lv_iinc (v := (v5 + (1 : Int32))) (lv' := [(5, .int (v5 + (1 : Int32))), (4, .int x42), (0, .ref (w.1 1)), (1, .ref (w.1 a1)), (2, .ref (w.1 a2)), (3, .int v3)]) hx hb dX4_sumsOf_44 hl (k := 5) rfl rfl (by decide) rfl (fun ls hl => ?_)
      refine lv_goto (tgt := 16) hx hb dX4_sumsOf_47 (by decide) ?_
      exact ih x42 (v5 + (1 : Int32)) _ _ _ h hw (lv_sub hl [2, 3, 4, 5, 1, 0] rfl)
set_option maxHeartbeats 4000000 in
set_option maxRecDepth 100000 in
theorem lX4_sumsOf_2 {p : Program} {l : Launch} {e : Env} {s : State} {m : MethodId} {args : Array Value} {below : List Frame} {meth : Method} {c : Code} {Q : State → Prop} {w : WE} {cs : List Nat} {A : Nat → Prop} {H0 : Heap} (C : CallFix p m c cX4_sumsOf 6 s args wsX4_sumsOf RX4) (hK : KW w s) (hcs : ∀ c, (c = 1 ∨ c = 8 ∨ c = 9 ∨ (32 ≤ c ∧ c < 38)) → c ∈ cs) (a1 : Nat) (ha1I : isI a1) (ha1C : a1 ∈ cs) (a2 : Nat) (ha2I : isI a2) (ha2C : a2 ∈ cs) (B : BS) {K66 : GS → Prop} (k66 : ∀ (G : GS) (H : Heap) (locs : List Loc) (ls : Array Slot), K66 G → WO w cs A H0 G B H locs → lv_has ls 6 [] → W p l e (rmW 0) s m args below meth c H locs 0 0 Q (F0 m 66 ls [])) : ∀ (n : Nat) (v3 : Int32) (G : GS) (H : Heap) (locs : List Loc) (ls : Array Slot), wlX4_sumsOf_2 K66 a1 a2 n v3 G → WO w cs A H0 G B H locs → lv_has ls 6 [(0, .ref (w.1 1)), (1, .ref (w.1 a1)), (2, .ref (w.1 a2)), (3, .int v3)] → W p l e (rmW 0) s m args below meth c H locs 0 0 Q (F0 m 2 ls []) := by
  have hx := C.1
  have hb := C.2.1
  have hown := C.2.2.2.1
  have hta := fun w h => C.2.2.2.2 w (List.mem_cons_of_mem _ h)
  intro n
  induction n with
  | zero => intro v3 G H locs ls h hw hl; exact False.elim h
  | succ n ih =>
    intro v3 G H locs ls h hw hl
    refine lv_iload_n hx hb dX4_sumsOf_2 rfl (lv_at hl 3 rfl) ?_
    refine lv_aload_n hx hb dX4_sumsOf_3 rfl (lv_at hl 0 rfl) ?_
    refine q_get (v := .int (G 1 1)) (C := RX4) (T := TX4) (N := 5) (ci := 4) hx hb hta kw_X4 hown hK hw 1 (hcs _ (by omega)) (by unfold isB; omega) rfl rfl 1 (by decide) (hta _ kw_26) rfl rfl dX4_sumsOf_4 ?_
    refine lv_icmp_ge (tgt := 66) hx hb dX4_sumsOf_7 (by decide) (fun c1 => ?_) (fun c1 => ?_)
    · have h := h.1 c1
      exact k66 G _ _ _ h hw (lv_sub hl [] rfl)
    · have h := h.2 c1
      refine lv_iconst (v := 0) hx hb dX4_sumsOf_10 (by decide) ?_
      refine lv_istore (lv' := [(4, .int (0 : Int32)), (0, .ref (w.1 1)), (1, .ref (w.1 a1)), (2, .ref (w.1 a2)), (3, .int v3)]) hx hb dX4_sumsOf_11 hl (by decide) rfl (fun ls hl => ?_)
      refine lv_iconst (v := 0) hx hb dX4_sumsOf_13 (by decide) ?_
      refine lv_istore (lv' := [(5, .int (0 : Int32)), (4, .int (0 : Int32)), (0, .ref (w.1 1)), (1, .ref (w.1 a1)), (2, .ref (w.1 a2)), (3, .int v3)]) hx hb dX4_sumsOf_14 hl (by decide) rfl (fun ls hl => ?_)
      obtain ⟨n16, h⟩ := h
      refine lX4_sumsOf_16 C hK hcs a1 ha1I ha1C a2 ha2I ha2C v3 G B (K50 := _) ?_ n16 (0 : Int32) (0 : Int32) _ _ _ h hw (lv_sub hl [2, 3, 4, 5, 1, 0] rfl)
      · intro x4_50 H locs ls h hw hl
        refine lv_aload_n hx hb dX4_sumsOf_50 rfl (lv_at hl 2 rfl) ?_
        refine lv_iload_n hx hb dX4_sumsOf_51 rfl (lv_at hl 3 rfl) ?_
        refine lv_iload hx hb dX4_sumsOf_52 (lv_at hl 4 rfl) ?_
        refine lv_aload_n hx hb dX4_sumsOf_54 rfl (lv_at hl 0 rfl) ?_
        refine q_get (v := .int (G 1 0)) (C := RX4) (T := TX4) (N := 5) (ci := 4) hx hb hta kw_X4 hown hK hw 1 (hcs _ (by omega)) (by unfold isB; omega) rfl rfl 0 (by decide) (hta _ kw_22) rfl rfl dX4_sumsOf_55 ?_
        obtain ⟨hz7, h⟩ := h
        refine lv_irem hx hb dX4_sumsOf_58 hz7 ?_
        obtain ⟨hin8, h⟩ := h
        refine q_iast (n := (ln a2)) hx hb hK hw ha2C ha2I rfl hin8 dX4_sumsOf_59 (fun H locs G59 eG59 hw => ?_)
        have h := h G59 eG59
        refine lv_iinc (v := (v3 + (1 : Int32))) (lv' := [(3, .int (v3 + (1 : Int32))), (0, .ref (w.1 1)), (1, .ref (w.1 a1)), (2, .ref (w.1 a2)), (4, .int x4_50)]) hx hb dX4_sumsOf_60 hl (k := 3) rfl rfl (by decide) rfl (fun ls hl => ?_)
        refine lv_goto (tgt := 2) hx hb dX4_sumsOf_63 (by decide) ?_
        exact ih (v3 + (1 : Int32)) G59 _ _ _ h hw (lv_sub hl [1, 2, 3, 0] rfl)
set_option maxHeartbeats 4000000 in
set_option maxRecDepth 100000 in
theorem mX4_sumsOf (l : Launch) (w : WE) (cs : List Nat) (hcs : ∀ c, (c = 1 ∨ c = 8 ∨ c = 9 ∨ (32 ≤ c ∧ c < 38)) → c ∈ cs) (sz : Nat) (G : GS) (B : BS) (a1 : Nat) (ha1I : isI a1) (ha1C : a1 ∈ cs) (a2 : Nat) (ha2I : isI a2) (ha2C : a2 ∈ cs) (P : GS → Prop) (h : wX4_sumsOf a1 a2 G P) : Met l yX4_sumsOf wsX4_sumsOf (rmW 0) (PcW w cs sz G B [.ref (w.1 1), .ref (w.1 a1), .ref (w.1 a2)]) (QV w cs sz (fun G1 B1 => P G1 ∧ B = B1)) 0 0 (AA w cs sz) := by
  refine metW (own := RX4) [.ref (w.1 1), .ref (w.1 a1), .ref (w.1 a2)] (by decide +kernel) rfl rfl (Nat.le_of_ble_eq_true rfl) ?_
  intro p e s m below meth c ls hsz C hr hK hw hl
  subst hsz
  have hx := C.1
  have hb := C.2.1
  have hown := C.2.2.2.1
  have hta := fun w h => C.2.2.2.2 w (List.mem_cons_of_mem _ h)
  have hl : lv_has ls 6 [(0, .ref (w.1 1)), (1, .ref (w.1 a1)), (2, .ref (w.1 a2))] := hl
  refine lv_iconst (v := 0) hx hb dX4_sumsOf_0 (by decide) ?_
  refine lv_istore_n (lv' := [(3, .int (0 : Int32)), (0, .ref (w.1 1)), (1, .ref (w.1 a1)), (2, .ref (w.1 a2))]) hx hb dX4_sumsOf_1 rfl hl (by decide) rfl (fun ls hl => ?_)
  obtain ⟨n2, h⟩ := h
  refine lX4_sumsOf_2 C hK hcs a1 ha1I ha1C a2 ha2I ha2C B (K66 := _) ?_ n2 (0 : Int32) G _ _ _ h hw (lv_sub hl [1, 2, 3, 0] rfl)
  · intro G_66 H locs ls h hw hl
    exact q_retv hx hb hr hw ⟨h, rfl⟩ dX4_sumsOf_66
def wlX4_placesWithFactorOf_28 (K87 : Int32 → Prop) (v2 : Int32) (v3 : Int32) (v4 : Int32) (G : GS) : Nat → Int32 → Int32 → Prop
  | 0, _, _ => False
  | n28 + 1, v5, v6 => (((G 1 1) ≤ v6 → K87 v5) ∧ (¬ (G 1 1) ≤ v6 → (vp_in v6 6 ∧ (vp_in v3 12 ∧ (((G (32 + cl v6) (cl v3)) = 0 → wlX4_placesWithFactorOf_28 K87 v2 v3 v4 G n28 v5 (v6 + (1 : Int32))) ∧ (¬ (G (32 + cl v6) (cl v3)) = 0 → (vp_in v6 6 ∧ (vp_in v3 12 ∧ (¬ (G 1 0) = 0 ∧ (vp_in v6 6 ∧ (vp_in v2 12 ∧ ((¬ ((v4 * (G (32 + cl v6) (cl v3))) - (v4 * (G (32 + cl v6) (cl v3))) / (G 1 0) * (G 1 0)) = (G (32 + cl v6) (cl v2)) → wlX4_placesWithFactorOf_28 K87 v2 v3 v4 G n28 v5 (v6 + (1 : Int32))) ∧ (((v4 * (G (32 + cl v6) (cl v3))) - (v4 * (G (32 + cl v6) (cl v3))) / (G 1 0) * (G 1 0)) = (G (32 + cl v6) (cl v2)) → wlX4_placesWithFactorOf_28 K87 v2 v3 v4 G n28 (v5 + (1 : Int32)) (v6 + (1 : Int32)))))))))))))))
def wX4_placesWithFactorOf (v1 : Int32) (v2 : Int32) (v3 : Int32) (G : GS) (P : Int32 → Prop) : Prop := (vp_in v1 6 ∧ (vp_in v2 12 ∧ (vp_in v1 6 ∧ (vp_in v3 12 ∧ (wX4_quotient (G (32 + cl v1) (cl v2)) (G (32 + cl v1) (cl v3)) G (fun r17 => (∃ z28 : Nat, wlX4_placesWithFactorOf_28 (fun x5_87 => P x5_87) v2 v3 r17 G z28 (0 : Int32) (0 : Int32))))))))
set_option maxHeartbeats 4000000 in
set_option maxRecDepth 100000 in
theorem lX4_placesWithFactorOf_28 {p : Program} {l : Launch} {e : Env} {s : State} {m : MethodId} {args : Array Value} {below : List Frame} {meth : Method} {c : Code} {Q : State → Prop} {w : WE} {cs : List Nat} {A : Nat → Prop} {H0 : Heap} (C : CallFix p m c cX4_placesWithFactorOf 7 s args wsX4_placesWithFactorOf RX4) (hK : KW w s) (hcs : ∀ c, (c = 1 ∨ c = 8 ∨ c = 9 ∨ (32 ≤ c ∧ c < 38)) → c ∈ cs) (v2 : Int32) (v3 : Int32) (v4 : Int32) (G : GS) (B : BS) {K87 : Int32 → Prop} (k87 : ∀ (y5 : Int32) (H : Heap) (locs : List Loc) (ls : Array Slot), K87 y5 → WO w cs A H0 G B H locs → lv_has ls 7 [(5, .int y5)] → W p l e (rmW 1) s m args below meth c H locs 0 0 Q (F0 m 87 ls [])) : ∀ (n : Nat) (v5 : Int32) (v6 : Int32) (H : Heap) (locs : List Loc) (ls : Array Slot), wlX4_placesWithFactorOf_28 K87 v2 v3 v4 G n v5 v6 → WO w cs A H0 G B H locs → lv_has ls 7 [(0, .ref (w.1 1)), (2, .int v2), (3, .int v3), (4, .int v4), (5, .int v5), (6, .int v6)] → W p l e (rmW 1) s m args below meth c H locs 0 0 Q (F0 m 28 ls []) := by
  have hx := C.1
  have hb := C.2.1
  have hown := C.2.2.2.1
  have hta := fun w h => C.2.2.2.2 w (List.mem_cons_of_mem _ h)
  intro n
  induction n with
  | zero => intro v5 v6 H locs ls h hw hl; exact False.elim h
  | succ n ih =>
    intro v5 v6 H locs ls h hw hl
    refine lv_iload hx hb dX4_placesWithFactorOf_28 (lv_at hl 5 rfl) ?_
    refine lv_aload_n hx hb dX4_placesWithFactorOf_30 rfl (lv_at hl 0 rfl) ?_
    refine q_get (v := .int (G 1 1)) (C := RX4) (T := TX4) (N := 5) (ci := 4) hx hb hta kw_X4 hown hK hw 1 (hcs _ (by omega)) (by unfold isB; omega) rfl rfl 1 (by decide) (hta _ kw_26) rfl rfl dX4_placesWithFactorOf_31 ?_
    refine lv_icmp_ge (tgt := 87) hx hb dX4_placesWithFactorOf_34 (by decide) (fun c7 => ?_) (fun c7 => ?_)
    · have h := h.1 c7
      exact k87 v5 _ _ _ h hw (lv_sub hl [4] rfl)
    · have h := h.2 c7
      refine lv_aload_n hx hb dX4_placesWithFactorOf_37 rfl (lv_at hl 0 rfl) ?_
      refine q_get (v := .ref (w.1 8)) (C := RX4) (T := TX4) (N := 5) (ci := 4) hx hb hta kw_X4 hown hK hw 1 (hcs _ (by omega)) (by unfold isB; omega) rfl rfl 3 (by decide) (hta _ kw_28) rfl rfl dX4_placesWithFactorOf_38 ?_
      refine lv_iload hx hb dX4_placesWithFactorOf_41 (lv_at hl 5 rfl) ?_
      obtain ⟨hin8, h⟩ := h
      have hv9 : 32 ≤ (32 + cl v6) ∧ (32 + cl v6) < 38 := vp_iv hin8
      refine q_aald (b := 32) (n := 6) hx hb hK hw (a := 8) (hcs _ (by omega)) (by unfold isO; omega) rfl rfl hin8 dX4_placesWithFactorOf_43 ?_
      refine lv_iload_n hx hb dX4_placesWithFactorOf_44 rfl (lv_at hl 2 rfl) ?_
      obtain ⟨hin10, h⟩ := h
      refine q_iald (n := 12) hx hb hK hw (hcs _ (by omega)) (isI_row (by omega) (by omega)) (ln_iv32 hv9) hin10 dX4_placesWithFactorOf_45 ?_
      refine lv_if_eq (tgt := 81) hx hb dX4_placesWithFactorOf_46 (by decide) (fun c11 => ?_) (fun c11 => ?_)
      · have h := h.1 c11
        refine lv_iinc (v := (v6 + (1 : Int32))) (lv' := [(6, .int (v6 + (1 : Int32))), (0, .ref (w.1 1)), (2, .int v2), (3, .int v3), (4, .int v4), (5, .int v5)]) hx hb dX4_placesWithFactorOf_81 hl (k := 5) rfl rfl (by decide) rfl (fun ls hl => ?_)
        refine lv_goto (tgt := 28) hx hb dX4_placesWithFactorOf_84 (by decide) ?_
        exact ih v5 (v6 + (1 : Int32)) _ _ _ h hw (lv_sub hl [1, 2, 3, 4, 5, 0] rfl)
      · have h := h.2 c11
        refine lv_iload hx hb dX4_placesWithFactorOf_49 (lv_at hl 3 rfl) ?_
        refine lv_aload_n hx hb dX4_placesWithFactorOf_51 rfl (lv_at hl 0 rfl) ?_
        refine q_get (v := .ref (w.1 8)) (C := RX4) (T := TX4) (N := 5) (ci := 4) hx hb hta kw_X4 hown hK hw 1 (hcs _ (by omega)) (by unfold isB; omega) rfl rfl 3 (by decide) (hta _ kw_28) rfl rfl dX4_placesWithFactorOf_52 ?_
        refine lv_iload hx hb dX4_placesWithFactorOf_55 (lv_at hl 5 rfl) ?_
        obtain ⟨hin12, h⟩ := h
        have hv13 : 32 ≤ (32 + cl v6) ∧ (32 + cl v6) < 38 := vp_iv hin12
        refine q_aald (b := 32) (n := 6) hx hb hK hw (a := 8) (hcs _ (by omega)) (by unfold isO; omega) rfl rfl hin12 dX4_placesWithFactorOf_57 ?_
        refine lv_iload_n hx hb dX4_placesWithFactorOf_58 rfl (lv_at hl 2 rfl) ?_
        obtain ⟨hin14, h⟩ := h
        refine q_iald (n := 12) hx hb hK hw (hcs _ (by omega)) (isI_row (by omega) (by omega)) (ln_iv32 hv13) hin14 dX4_placesWithFactorOf_59 ?_
        refine lv_imul hx hb dX4_placesWithFactorOf_60 ?_
        refine lv_aload_n hx hb dX4_placesWithFactorOf_61 rfl (lv_at hl 0 rfl) ?_
        refine q_get (v := .int (G 1 0)) (C := RX4) (T := TX4) (N := 5) (ci := 4) hx hb hta kw_X4 hown hK hw 1 (hcs _ (by omega)) (by unfold isB; omega) rfl rfl 0 (by decide) (hta _ kw_22) rfl rfl dX4_placesWithFactorOf_62 ?_
        obtain ⟨hz15, h⟩ := h
        refine lv_irem hx hb dX4_placesWithFactorOf_65 hz15 ?_
        refine lv_aload_n hx hb dX4_placesWithFactorOf_66 rfl (lv_at hl 0 rfl) ?_
        refine q_get (v := .ref (w.1 8)) (C := RX4) (T := TX4) (N := 5) (ci := 4) hx hb hta kw_X4 hown hK hw 1 (hcs _ (by omega)) (by unfold isB; omega) rfl rfl 3 (by decide) (hta _ kw_28) rfl rfl dX4_placesWithFactorOf_67 ?_
        refine lv_iload hx hb dX4_placesWithFactorOf_70 (lv_at hl 5 rfl) ?_
        obtain ⟨hin16, h⟩ := h
        have hv17 : 32 ≤ (32 + cl v6) ∧ (32 + cl v6) < 38 := vp_iv hin16
        refine q_aald (b := 32) (n := 6) hx hb hK hw (a := 8) (hcs _ (by omega)) (by unfold isO; omega) rfl rfl hin16 dX4_placesWithFactorOf_72 ?_
        refine lv_iload_n hx hb dX4_placesWithFactorOf_73 rfl (lv_at hl 1 rfl) ?_
        obtain ⟨hin18, h⟩ := h
        refine q_iald (n := 12) hx hb hK hw (hcs _ (by omega)) (isI_row (by omega) (by omega)) (ln_iv32 hv17) hin18 dX4_placesWithFactorOf_74 ?_
        refine lv_icmp_ne (tgt := 81) hx hb dX4_placesWithFactorOf_75 (by decide) (fun c19 => ?_) (fun c19 => ?_)
        · have h := h.1 c19
          refine lv_iinc (v := (v6 + (1 : Int32))) (lv' := [(6, .int (v6 + (1 : Int32))), (0, .ref (w.1 1)), (2, .int v2), (3, .int v3), (4, .int v4), (5, .int v5)]) hx hb dX4_placesWithFactorOf_81 hl (k := 5) rfl rfl (by decide) rfl (fun ls hl => ?_)
          refine lv_goto (tgt := 28) hx hb dX4_placesWithFactorOf_84 (by decide) ?_
          exact ih v5 (v6 + (1 : Int32)) _ _ _ h hw (lv_sub hl [1, 2, 3, 4, 5, 0] rfl)
        · have h := h.2 c19
          refine lv_iinc (v := (v5 + (1 : Int32))) (lv' := [(5, .int (v5 + (1 : Int32))), (0, .ref (w.1 1)), (2, .int v2), (3, .int v3), (4, .int v4), (6, .int v6)]) hx hb dX4_placesWithFactorOf_78 hl (k := 4) rfl rfl (by decide) rfl (fun ls hl => ?_)
          refine lv_iinc (v := (v6 + (1 : Int32))) (lv' := [(6, .int (v6 + (1 : Int32))), (5, .int (v5 + (1 : Int32))), (0, .ref (w.1 1)), (2, .int v2), (3, .int v3), (4, .int v4)]) hx hb dX4_placesWithFactorOf_81 hl (k := 5) rfl rfl (by decide) rfl (fun ls hl => ?_)
          refine lv_goto (tgt := 28) hx hb dX4_placesWithFactorOf_84 (by decide) ?_
          exact ih (v5 + (1 : Int32)) (v6 + (1 : Int32)) _ _ _ h hw (lv_sub hl [2, 3, 4, 5, 1, 0] rfl)
set_option maxHeartbeats 4000000 in
set_option maxRecDepth 100000 in
theorem mX4_placesWithFactorOf (l : Launch) (w : WE) (cs : List Nat) (hcs : ∀ c, (c = 1 ∨ c = 8 ∨ c = 9 ∨ (32 ≤ c ∧ c < 38)) → c ∈ cs) (sz : Nat) (G : GS) (B : BS) (v1 : Int32) (v2 : Int32) (v3 : Int32) (P : Int32 → Prop) (h : wX4_placesWithFactorOf v1 v2 v3 G P) : Met l yX4_placesWithFactorOf wsX4_placesWithFactorOf (rmW 1) (PcW w cs sz G B [.ref (w.1 1), .int v1, .int v2, .int v3]) (QI w cs sz (fun r G1 B1 => P r ∧ G = G1 ∧ B = B1)) 0 0 (AA w cs sz) := by
  refine metW (own := RX4) [.ref (w.1 1), .int v1, .int v2, .int v3] (by decide +kernel) rfl rfl (Nat.le_of_ble_eq_true rfl) ?_
  intro p e s m below meth c ls hsz C hr hK hw hl
  subst hsz
  have hx := C.1
  have hb := C.2.1
  have hown := C.2.2.2.1
  have hta := fun w h => C.2.2.2.2 w (List.mem_cons_of_mem _ h)
  have hl : lv_has ls 7 [(0, .ref (w.1 1)), (1, .int v1), (2, .int v2), (3, .int v3)] := hl
  refine lv_aload_n hx hb dX4_placesWithFactorOf_0 rfl (lv_at hl 0 rfl) ?_
  refine lv_aload_n hx hb dX4_placesWithFactorOf_1 rfl (lv_at hl 0 rfl) ?_
  refine q_get (v := .ref (w.1 8)) (C := RX4) (T := TX4) (N := 5) (ci := 4) hx hb hta kw_X4 hown hK hw 1 (hcs _ (by omega)) (by unfold isB; omega) rfl rfl 3 (by decide) (hta _ kw_28) rfl rfl dX4_placesWithFactorOf_2 ?_
  refine lv_iload_n hx hb dX4_placesWithFactorOf_5 rfl (lv_at hl 1 rfl) ?_
  obtain ⟨hin1, h⟩ := h
  have hv2 : 32 ≤ (32 + cl v1) ∧ (32 + cl v1) < 38 := vp_iv hin1
  refine q_aald (b := 32) (n := 6) hx hb hK hw (a := 8) (hcs _ (by omega)) (by unfold isO; omega) rfl rfl hin1 dX4_placesWithFactorOf_6 ?_
  refine lv_iload_n hx hb dX4_placesWithFactorOf_7 rfl (lv_at hl 2 rfl) ?_
  obtain ⟨hin3, h⟩ := h
  refine q_iald (n := 12) hx hb hK hw (hcs _ (by omega)) (isI_row (by omega) (by omega)) (ln_iv32 hv2) hin3 dX4_placesWithFactorOf_8 ?_
  refine lv_aload_n hx hb dX4_placesWithFactorOf_9 rfl (lv_at hl 0 rfl) ?_
  refine q_get (v := .ref (w.1 8)) (C := RX4) (T := TX4) (N := 5) (ci := 4) hx hb hta kw_X4 hown hK hw 1 (hcs _ (by omega)) (by unfold isB; omega) rfl rfl 3 (by decide) (hta _ kw_28) rfl rfl dX4_placesWithFactorOf_10 ?_
  refine lv_iload_n hx hb dX4_placesWithFactorOf_13 rfl (lv_at hl 1 rfl) ?_
  obtain ⟨hin4, h⟩ := h
  have hv5 : 32 ≤ (32 + cl v1) ∧ (32 + cl v1) < 38 := vp_iv hin4
  refine q_aald (b := 32) (n := 6) hx hb hK hw (a := 8) (hcs _ (by omega)) (by unfold isO; omega) rfl rfl hin4 dX4_placesWithFactorOf_14 ?_
  refine lv_iload_n hx hb dX4_placesWithFactorOf_15 rfl (lv_at hl 3 rfl) ?_
  obtain ⟨hin6, h⟩ := h
  refine q_iald (n := 12) hx hb hK hw (hcs _ (by omega)) (isI_row (by omega) (by omega)) (ln_iv32 hv5) hin6 dX4_placesWithFactorOf_16 ?_
  refine q_calli hw (va_runV (As := [.int (G (32 + cl v1) (cl v2)), .int (G (32 + cl v1) (cl v3))]) (rest := []) C (mX4_quotient l w cs (fun c h => hcs c (by omega)) _ G B (G (32 + cl v1) (cl v2)) (G (32 + cl v1) (cl v3)) _ h) (cwV 2 hta (gVw kw_33 kw_34 kw_35 kw_36 kw_32) rfl rfl rfl (by decide +kernel) ⟨Nat.le_of_ble_eq_true rfl, Nat.le_of_ble_eq_true rfl⟩) (preV hK hw 1 (hcs _ (by omega)) (by unfold isB; omega) rfl rfl _) rfl rfl hl.1 rfl (lv_room (Nat.le_of_ble_eq_true rfl)) dX4_placesWithFactorOf_17 ⟨Nat.le_refl 0, Nat.le_refl 0⟩) (fun r17 G17 B17 H locs h hw => ?_)
  obtain ⟨h, e1, e2⟩ := h; subst e1; subst e2
  refine lv_istore (lv' := [(4, .int r17), (0, .ref (w.1 1)), (1, .int v1), (2, .int v2), (3, .int v3)]) hx hb dX4_placesWithFactorOf_20 hl (by decide) rfl (fun ls hl => ?_)
  refine lv_iconst (v := 0) hx hb dX4_placesWithFactorOf_22 (by decide) ?_
  refine lv_istore (lv' := [(5, .int (0 : Int32)), (4, .int r17), (0, .ref (w.1 1)), (1, .int v1), (2, .int v2), (3, .int v3)]) hx hb dX4_placesWithFactorOf_23 hl (by decide) rfl (fun ls hl => ?_)
  refine lv_iconst (v := 0) hx hb dX4_placesWithFactorOf_25 (by decide) ?_
  refine lv_istore (lv' := [(6, .int (0 : Int32)), (5, .int (0 : Int32)), (4, .int r17), (0, .ref (w.1 1)), (1, .int v1), (2, .int v2), (3, .int v3)]) hx hb dX4_placesWithFactorOf_26 hl (by decide) rfl (fun ls hl => ?_)
  obtain ⟨n28, h⟩ := h
  refine lX4_placesWithFactorOf_28 C hK hcs v2 v3 r17 G B (K87 := _) ?_ n28 (0 : Int32) (0 : Int32) _ _ _ h hw (lv_sub hl [3, 5, 6, 2, 1, 0] rfl)
  · intro x5_87 H locs ls h hw hl
    refine lv_iload hx hb dX4_placesWithFactorOf_87 (lv_at hl 0 rfl) ?_
    exact q_reti hx hb hr hw ⟨h, rfl, rfl⟩ dX4_placesWithFactorOf_89
def wlX4_likeness_8 (K92 : Int32 → Int32 → Prop) (v1 : Int32) (v2 : Int32) (G : GS) : Nat → Int32 → Int32 → Int32 → Prop
  | 0, _, _, _ => False
  | n8 + 1, v3, v4, v5 => (((G 1 1) ≤ v5 → K92 v3 v4) ∧ (¬ (G 1 1) ≤ v5 → (vp_in v5 6 ∧ (vp_in v1 12 ∧ ((¬ (G (32 + cl v5) (cl v1)) = 0 → (vp_in v5 6 ∧ (vp_in v1 12 ∧ (((G (32 + cl v5) (cl v1)) = 0 → wlX4_likeness_8 K92 v1 v2 G n8 v3 v4 (v5 + (1 : Int32))) ∧ (¬ (G (32 + cl v5) (cl v1)) = 0 → (vp_in v5 6 ∧ (vp_in v2 12 ∧ (((G (32 + cl v5) (cl v2)) = 0 → wlX4_likeness_8 K92 v1 v2 G n8 v3 v4 (v5 + (1 : Int32))) ∧ (¬ (G (32 + cl v5) (cl v2)) = 0 → (wX4_placesWithFactorOf v5 v1 v2 G (fun r78 => (∀ x84 : Int32, x84 = (if v4 < r78 then r78 else v4) → wlX4_likeness_8 K92 v1 v2 G n8 v3 x84 (v5 + (1 : Int32)))))))))))))) ∧ ((G (32 + cl v5) (cl v1)) = 0 → (vp_in v5 6 ∧ (vp_in v2 12 ∧ ((¬ (G (32 + cl v5) (cl v2)) = 0 → (vp_in v5 6 ∧ (vp_in v1 12 ∧ (((G (32 + cl v5) (cl v1)) = 0 → wlX4_likeness_8 K92 v1 v2 G n8 v3 v4 (v5 + (1 : Int32))) ∧ (¬ (G (32 + cl v5) (cl v1)) = 0 → (vp_in v5 6 ∧ (vp_in v2 12 ∧ (((G (32 + cl v5) (cl v2)) = 0 → wlX4_likeness_8 K92 v1 v2 G n8 v3 v4 (v5 + (1 : Int32))) ∧ (¬ (G (32 + cl v5) (cl v2)) = 0 → (wX4_placesWithFactorOf v5 v1 v2 G (fun r78 => (∀ x84 : Int32, x84 = (if v4 < r78 then r78 else v4) → wlX4_likeness_8 K92 v1 v2 G n8 v3 x84 (v5 + (1 : Int32)))))))))))))) ∧ ((G (32 + cl v5) (cl v2)) = 0 → wlX4_likeness_8 K92 v1 v2 G n8 (v3 + (1 : Int32)) v4 (v5 + (1 : Int32))))))))))))
def wX4_likeness (v1 : Int32) (v2 : Int32) (G : GS) (P : Int32 → Prop) : Prop := (∃ z8 : Nat, wlX4_likeness_8 (fun x3_92 x4_92 => P (x3_92 + x4_92)) v1 v2 G z8 (0 : Int32) (0 : Int32) (0 : Int32))
set_option maxHeartbeats 4000000 in
set_option maxRecDepth 100000 in
theorem lX4_likeness_8 {p : Program} {l : Launch} {e : Env} {s : State} {m : MethodId} {args : Array Value} {below : List Frame} {meth : Method} {c : Code} {Q : State → Prop} {w : WE} {cs : List Nat} {A : Nat → Prop} {H0 : Heap} (C : CallFix p m c cX4_likeness 6 s args wsX4_likeness RX4) (hK : KW w s) (hcs : ∀ c, (c = 1 ∨ c = 8 ∨ c = 9 ∨ (32 ≤ c ∧ c < 38)) → c ∈ cs) (v1 : Int32) (v2 : Int32) (G : GS) (B : BS) {K92 : Int32 → Int32 → Prop} (k92 : ∀ (y3 : Int32) (y4 : Int32) (H : Heap) (locs : List Loc) (ls : Array Slot), K92 y3 y4 → WO w cs A H0 G B H locs → lv_has ls 6 [(3, .int y3), (4, .int y4)] → W p l e (rmW 2) s m args below meth c H locs 0 0 Q (F0 m 92 ls [])) : ∀ (n : Nat) (v3 : Int32) (v4 : Int32) (v5 : Int32) (H : Heap) (locs : List Loc) (ls : Array Slot), wlX4_likeness_8 K92 v1 v2 G n v3 v4 v5 → WO w cs A H0 G B H locs → lv_has ls 6 [(0, .ref (w.1 1)), (1, .int v1), (2, .int v2), (3, .int v3), (4, .int v4), (5, .int v5)] → W p l e (rmW 2) s m args below meth c H locs 0 0 Q (F0 m 8 ls []) := by
  have hx := C.1
  have hb := C.2.1
  have hown := C.2.2.2.1
  have hta := fun w h => C.2.2.2.2 w (List.mem_cons_of_mem _ h)
  intro n
  induction n with
  | zero => intro v3 v4 v5 H locs ls h hw hl; exact False.elim h
  | succ n ih =>
    intro v3 v4 v5 H locs ls h hw hl
    refine lv_iload hx hb dX4_likeness_8 (lv_at hl 5 rfl) ?_
    refine lv_aload_n hx hb dX4_likeness_10 rfl (lv_at hl 0 rfl) ?_
    refine q_get (v := .int (G 1 1)) (C := RX4) (T := TX4) (N := 5) (ci := 4) hx hb hta kw_X4 hown hK hw 1 (hcs _ (by omega)) (by unfold isB; omega) rfl rfl 1 (by decide) (hta _ kw_26) rfl rfl dX4_likeness_11 ?_
    refine lv_icmp_ge (tgt := 92) hx hb dX4_likeness_14 (by decide) (fun c1 => ?_) (fun c1 => ?_)
    · have h := h.1 c1
      exact k92 v3 v4 _ _ _ h hw (lv_sub hl [3, 4] rfl)
    · have h := h.2 c1
      refine lv_aload_n hx hb dX4_likeness_17 rfl (lv_at hl 0 rfl) ?_
      refine q_get (v := .ref (w.1 8)) (C := RX4) (T := TX4) (N := 5) (ci := 4) hx hb hta kw_X4 hown hK hw 1 (hcs _ (by omega)) (by unfold isB; omega) rfl rfl 3 (by decide) (hta _ kw_28) rfl rfl dX4_likeness_18 ?_
      refine lv_iload hx hb dX4_likeness_21 (lv_at hl 5 rfl) ?_
      obtain ⟨hin2, h⟩ := h
      have hv3 : 32 ≤ (32 + cl v5) ∧ (32 + cl v5) < 38 := vp_iv hin2
      refine q_aald (b := 32) (n := 6) hx hb hK hw (a := 8) (hcs _ (by omega)) (by unfold isO; omega) rfl rfl hin2 dX4_likeness_23 ?_
      refine lv_iload_n hx hb dX4_likeness_24 rfl (lv_at hl 1 rfl) ?_
      obtain ⟨hin4, h⟩ := h
      refine q_iald (n := 12) hx hb hK hw (hcs _ (by omega)) (isI_row (by omega) (by omega)) (ln_iv32 hv3) hin4 dX4_likeness_25 ?_
      refine lv_if_ne (tgt := 47) hx hb dX4_likeness_26 (by decide) (fun c5 => ?_) (fun c5 => ?_)
      · have h := h.1 c5
        refine lv_aload_n hx hb dX4_likeness_47 rfl (lv_at hl 0 rfl) ?_
        refine q_get (v := .ref (w.1 8)) (C := RX4) (T := TX4) (N := 5) (ci := 4) hx hb hta kw_X4 hown hK hw 1 (hcs _ (by omega)) (by unfold isB; omega) rfl rfl 3 (by decide) (hta _ kw_28) rfl rfl dX4_likeness_48 ?_
        refine lv_iload hx hb dX4_likeness_51 (lv_at hl 5 rfl) ?_
        obtain ⟨hin6, h⟩ := h
        have hv7 : 32 ≤ (32 + cl v5) ∧ (32 + cl v5) < 38 := vp_iv hin6
        refine q_aald (b := 32) (n := 6) hx hb hK hw (a := 8) (hcs _ (by omega)) (by unfold isO; omega) rfl rfl hin6 dX4_likeness_53 ?_
        refine lv_iload_n hx hb dX4_likeness_54 rfl (lv_at hl 1 rfl) ?_
        obtain ⟨hin8, h⟩ := h
        refine q_iald (n := 12) hx hb hK hw (hcs _ (by omega)) (isI_row (by omega) (by omega)) (ln_iv32 hv7) hin8 dX4_likeness_55 ?_
        refine lv_if_eq (tgt := 86) hx hb dX4_likeness_56 (by decide) (fun c9 => ?_) (fun c9 => ?_)
        · have h := h.1 c9
          refine lv_iinc (v := (v5 + (1 : Int32))) (lv' := [(5, .int (v5 + (1 : Int32))), (0, .ref (w.1 1)), (1, .int v1), (2, .int v2), (3, .int v3), (4, .int v4)]) hx hb dX4_likeness_86 hl (k := 5) rfl rfl (by decide) rfl (fun ls hl => ?_)
          refine lv_goto (tgt := 8) hx hb dX4_likeness_89 (by decide) ?_
          exact ih v3 v4 (v5 + (1 : Int32)) _ _ _ h hw (lv_sub hl [1, 2, 3, 4, 5, 0] rfl)
        · have h := h.2 c9
          refine lv_aload_n hx hb dX4_likeness_59 rfl (lv_at hl 0 rfl) ?_
          refine q_get (v := .ref (w.1 8)) (C := RX4) (T := TX4) (N := 5) (ci := 4) hx hb hta kw_X4 hown hK hw 1 (hcs _ (by omega)) (by unfold isB; omega) rfl rfl 3 (by decide) (hta _ kw_28) rfl rfl dX4_likeness_60 ?_
          refine lv_iload hx hb dX4_likeness_63 (lv_at hl 5 rfl) ?_
          obtain ⟨hin10, h⟩ := h
          have hv11 : 32 ≤ (32 + cl v5) ∧ (32 + cl v5) < 38 := vp_iv hin10
          refine q_aald (b := 32) (n := 6) hx hb hK hw (a := 8) (hcs _ (by omega)) (by unfold isO; omega) rfl rfl hin10 dX4_likeness_65 ?_
          refine lv_iload_n hx hb dX4_likeness_66 rfl (lv_at hl 2 rfl) ?_
          obtain ⟨hin12, h⟩ := h
          refine q_iald (n := 12) hx hb hK hw (hcs _ (by omega)) (isI_row (by omega) (by omega)) (ln_iv32 hv11) hin12 dX4_likeness_67 ?_
          refine lv_if_eq (tgt := 86) hx hb dX4_likeness_68 (by decide) (fun c13 => ?_) (fun c13 => ?_)
          · have h := h.1 c13
            refine lv_iinc (v := (v5 + (1 : Int32))) (lv' := [(5, .int (v5 + (1 : Int32))), (0, .ref (w.1 1)), (1, .int v1), (2, .int v2), (3, .int v3), (4, .int v4)]) hx hb dX4_likeness_86 hl (k := 5) rfl rfl (by decide) rfl (fun ls hl => ?_)
            refine lv_goto (tgt := 8) hx hb dX4_likeness_89 (by decide) ?_
            exact ih v3 v4 (v5 + (1 : Int32)) _ _ _ h hw (lv_sub hl [1, 2, 3, 4, 5, 0] rfl)
          · have h := h.2 c13
            refine lv_iload hx hb dX4_likeness_71 (lv_at hl 4 rfl) ?_
            refine lv_aload_n hx hb dX4_likeness_73 rfl (lv_at hl 0 rfl) ?_
            refine lv_iload hx hb dX4_likeness_74 (lv_at hl 5 rfl) ?_
            refine lv_iload_n hx hb dX4_likeness_76 rfl (lv_at hl 1 rfl) ?_
            refine lv_iload_n hx hb dX4_likeness_77 rfl (lv_at hl 2 rfl) ?_
            refine q_calli hw (va_runV (As := [.int v5, .int v1, .int v2]) (rest := [.int v4]) C (mX4_placesWithFactorOf l w cs (fun c h => hcs c (by omega)) _ G B v5 v1 v2 _ h) (cwV 3 hta (gVw kw_38 kw_39 kw_40 kw_36 kw_37) rfl rfl rfl (by decide +kernel) ⟨Nat.le_of_ble_eq_true rfl, Nat.le_of_ble_eq_true rfl⟩) (preV hK hw 1 (hcs _ (by omega)) (by unfold isB; omega) rfl rfl _) rfl rfl hl.1 rfl (lv_room (Nat.le_of_ble_eq_true rfl)) dX4_likeness_78 ⟨Nat.le_refl 0, Nat.le_refl 0⟩) (fun r78 G78 B78 H locs h hw => ?_)
            obtain ⟨h, e1, e2⟩ := h; subst e1; subst e2
            refine va_mmax hx hb (C.2.2.1.trans hl.1.symm) hown (hta _ kw_41) (hta _ kw_42) (hta _ kw_2) (hta _ kw_43) (Nat.le_of_ble_eq_true rfl) (Nat.le_of_ble_eq_true rfl) (Nat.le_refl 0) (Nat.le_refl 0) dX4_likeness_81 ?_
            refine lv_topi (fun x84 ex84 => ?_)
            have h := h x84 ex84
            refine lv_istore (lv' := [(4, .int x84), (0, .ref (w.1 1)), (1, .int v1), (2, .int v2), (3, .int v3), (5, .int v5)]) hx hb dX4_likeness_84 hl (by decide) rfl (fun ls hl => ?_)
            refine lv_iinc (v := (v5 + (1 : Int32))) (lv' := [(5, .int (v5 + (1 : Int32))), (4, .int x84), (0, .ref (w.1 1)), (1, .int v1), (2, .int v2), (3, .int v3)]) hx hb dX4_likeness_86 hl (k := 5) rfl rfl (by decide) rfl (fun ls hl => ?_)
            refine lv_goto (tgt := 8) hx hb dX4_likeness_89 (by decide) ?_
            exact ih v3 x84 (v5 + (1 : Int32)) _ _ _ h hw (lv_sub hl [2, 3, 4, 5, 1, 0] rfl)
      · have h := h.2 c5
        refine lv_aload_n hx hb dX4_likeness_29 rfl (lv_at hl 0 rfl) ?_
        refine q_get (v := .ref (w.1 8)) (C := RX4) (T := TX4) (N := 5) (ci := 4) hx hb hta kw_X4 hown hK hw 1 (hcs _ (by omega)) (by unfold isB; omega) rfl rfl 3 (by decide) (hta _ kw_28) rfl rfl dX4_likeness_30 ?_
        refine lv_iload hx hb dX4_likeness_33 (lv_at hl 5 rfl) ?_
        obtain ⟨hin14, h⟩ := h
        have hv15 : 32 ≤ (32 + cl v5) ∧ (32 + cl v5) < 38 := vp_iv hin14
        refine q_aald (b := 32) (n := 6) hx hb hK hw (a := 8) (hcs _ (by omega)) (by unfold isO; omega) rfl rfl hin14 dX4_likeness_35 ?_
        refine lv_iload_n hx hb dX4_likeness_36 rfl (lv_at hl 2 rfl) ?_
        obtain ⟨hin16, h⟩ := h
        refine q_iald (n := 12) hx hb hK hw (hcs _ (by omega)) (isI_row (by omega) (by omega)) (ln_iv32 hv15) hin16 dX4_likeness_37 ?_
        refine lv_if_ne (tgt := 47) hx hb dX4_likeness_38 (by decide) (fun c17 => ?_) (fun c17 => ?_)
        · have h := h.1 c17
          refine lv_aload_n hx hb dX4_likeness_47 rfl (lv_at hl 0 rfl) ?_
          refine q_get (v := .ref (w.1 8)) (C := RX4) (T := TX4) (N := 5) (ci := 4) hx hb hta kw_X4 hown hK hw 1 (hcs _ (by omega)) (by unfold isB; omega) rfl rfl 3 (by decide) (hta _ kw_28) rfl rfl dX4_likeness_48 ?_
          refine lv_iload hx hb dX4_likeness_51 (lv_at hl 5 rfl) ?_
          obtain ⟨hin18, h⟩ := h
          have hv19 : 32 ≤ (32 + cl v5) ∧ (32 + cl v5) < 38 := vp_iv hin18
          refine q_aald (b := 32) (n := 6) hx hb hK hw (a := 8) (hcs _ (by omega)) (by unfold isO; omega) rfl rfl hin18 dX4_likeness_53 ?_
          refine lv_iload_n hx hb dX4_likeness_54 rfl (lv_at hl 1 rfl) ?_
          obtain ⟨hin20, h⟩ := h
          refine q_iald (n := 12) hx hb hK hw (hcs _ (by omega)) (isI_row (by omega) (by omega)) (ln_iv32 hv19) hin20 dX4_likeness_55 ?_
          refine lv_if_eq (tgt := 86) hx hb dX4_likeness_56 (by decide) (fun c21 => ?_) (fun c21 => ?_)
          · have h := h.1 c21
            refine lv_iinc (v := (v5 + (1 : Int32))) (lv' := [(5, .int (v5 + (1 : Int32))), (0, .ref (w.1 1)), (1, .int v1), (2, .int v2), (3, .int v3), (4, .int v4)]) hx hb dX4_likeness_86 hl (k := 5) rfl rfl (by decide) rfl (fun ls hl => ?_)
            refine lv_goto (tgt := 8) hx hb dX4_likeness_89 (by decide) ?_
            exact ih v3 v4 (v5 + (1 : Int32)) _ _ _ h hw (lv_sub hl [1, 2, 3, 4, 5, 0] rfl)
          · have h := h.2 c21
            refine lv_aload_n hx hb dX4_likeness_59 rfl (lv_at hl 0 rfl) ?_
            refine q_get (v := .ref (w.1 8)) (C := RX4) (T := TX4) (N := 5) (ci := 4) hx hb hta kw_X4 hown hK hw 1 (hcs _ (by omega)) (by unfold isB; omega) rfl rfl 3 (by decide) (hta _ kw_28) rfl rfl dX4_likeness_60 ?_
            refine lv_iload hx hb dX4_likeness_63 (lv_at hl 5 rfl) ?_
            obtain ⟨hin22, h⟩ := h
            have hv23 : 32 ≤ (32 + cl v5) ∧ (32 + cl v5) < 38 := vp_iv hin22
            refine q_aald (b := 32) (n := 6) hx hb hK hw (a := 8) (hcs _ (by omega)) (by unfold isO; omega) rfl rfl hin22 dX4_likeness_65 ?_
            refine lv_iload_n hx hb dX4_likeness_66 rfl (lv_at hl 2 rfl) ?_
            obtain ⟨hin24, h⟩ := h
            refine q_iald (n := 12) hx hb hK hw (hcs _ (by omega)) (isI_row (by omega) (by omega)) (ln_iv32 hv23) hin24 dX4_likeness_67 ?_
            refine lv_if_eq (tgt := 86) hx hb dX4_likeness_68 (by decide) (fun c25 => ?_) (fun c25 => ?_)
            · have h := h.1 c25
              refine lv_iinc (v := (v5 + (1 : Int32))) (lv' := [(5, .int (v5 + (1 : Int32))), (0, .ref (w.1 1)), (1, .int v1), (2, .int v2), (3, .int v3), (4, .int v4)]) hx hb dX4_likeness_86 hl (k := 5) rfl rfl (by decide) rfl (fun ls hl => ?_)
              refine lv_goto (tgt := 8) hx hb dX4_likeness_89 (by decide) ?_
              exact ih v3 v4 (v5 + (1 : Int32)) _ _ _ h hw (lv_sub hl [1, 2, 3, 4, 5, 0] rfl)
            · have h := h.2 c25
              refine lv_iload hx hb dX4_likeness_71 (lv_at hl 4 rfl) ?_
              refine lv_aload_n hx hb dX4_likeness_73 rfl (lv_at hl 0 rfl) ?_
              refine lv_iload hx hb dX4_likeness_74 (lv_at hl 5 rfl) ?_
              refine lv_iload_n hx hb dX4_likeness_76 rfl (lv_at hl 1 rfl) ?_
              refine lv_iload_n hx hb dX4_likeness_77 rfl (lv_at hl 2 rfl) ?_
              refine q_calli hw (va_runV (As := [.int v5, .int v1, .int v2]) (rest := [.int v4]) C (mX4_placesWithFactorOf l w cs (fun c h => hcs c (by omega)) _ G B v5 v1 v2 _ h) (cwV 3 hta (gVw kw_38 kw_39 kw_40 kw_36 kw_37) rfl rfl rfl (by decide +kernel) ⟨Nat.le_of_ble_eq_true rfl, Nat.le_of_ble_eq_true rfl⟩) (preV hK hw 1 (hcs _ (by omega)) (by unfold isB; omega) rfl rfl _) rfl rfl hl.1 rfl (lv_room (Nat.le_of_ble_eq_true rfl)) dX4_likeness_78 ⟨Nat.le_refl 0, Nat.le_refl 0⟩) (fun r78 G78 B78 H locs h hw => ?_)
              obtain ⟨h, e1, e2⟩ := h; subst e1; subst e2
              refine va_mmax hx hb (C.2.2.1.trans hl.1.symm) hown (hta _ kw_41) (hta _ kw_42) (hta _ kw_2) (hta _ kw_43) (Nat.le_of_ble_eq_true rfl) (Nat.le_of_ble_eq_true rfl) (Nat.le_refl 0) (Nat.le_refl 0) dX4_likeness_81 ?_
              refine lv_topi (fun x84 ex84 => ?_)
              have h := h x84 ex84
              refine lv_istore (lv' := [(4, .int x84), (0, .ref (w.1 1)), (1, .int v1), (2, .int v2), (3, .int v3), (5, .int v5)]) hx hb dX4_likeness_84 hl (by decide) rfl (fun ls hl => ?_)
              refine lv_iinc (v := (v5 + (1 : Int32))) (lv' := [(5, .int (v5 + (1 : Int32))), (4, .int x84), (0, .ref (w.1 1)), (1, .int v1), (2, .int v2), (3, .int v3)]) hx hb dX4_likeness_86 hl (k := 5) rfl rfl (by decide) rfl (fun ls hl => ?_)
              refine lv_goto (tgt := 8) hx hb dX4_likeness_89 (by decide) ?_
              exact ih v3 x84 (v5 + (1 : Int32)) _ _ _ h hw (lv_sub hl [2, 3, 4, 5, 1, 0] rfl)
        · have h := h.2 c17
          refine lv_iinc (v := (v3 + (1 : Int32))) (lv' := [(3, .int (v3 + (1 : Int32))), (0, .ref (w.1 1)), (1, .int v1), (2, .int v2), (4, .int v4), (5, .int v5)]) hx hb dX4_likeness_41 hl (k := 3) rfl rfl (by decide) rfl (fun ls hl => ?_)
          refine lv_goto (tgt := 86) hx hb dX4_likeness_44 (by decide) ?_
          refine lv_iinc (v := (v5 + (1 : Int32))) (lv' := [(5, .int (v5 + (1 : Int32))), (3, .int (v3 + (1 : Int32))), (0, .ref (w.1 1)), (1, .int v1), (2, .int v2), (4, .int v4)]) hx hb dX4_likeness_86 hl (k := 5) rfl rfl (by decide) rfl (fun ls hl => ?_)
          refine lv_goto (tgt := 8) hx hb dX4_likeness_89 (by decide) ?_
          exact ih (v3 + (1 : Int32)) v4 (v5 + (1 : Int32)) _ _ _ h hw (lv_sub hl [2, 3, 4, 1, 5, 0] rfl)
set_option maxHeartbeats 4000000 in
set_option maxRecDepth 100000 in
theorem mX4_likeness (l : Launch) (w : WE) (cs : List Nat) (hcs : ∀ c, (c = 1 ∨ c = 8 ∨ c = 9 ∨ (32 ≤ c ∧ c < 38)) → c ∈ cs) (sz : Nat) (G : GS) (B : BS) (v1 : Int32) (v2 : Int32) (P : Int32 → Prop) (h : wX4_likeness v1 v2 G P) : Met l yX4_likeness wsX4_likeness (rmW 2) (PcW w cs sz G B [.ref (w.1 1), .int v1, .int v2]) (QI w cs sz (fun r G1 B1 => P r ∧ G = G1 ∧ B = B1)) 0 0 (AA w cs sz) := by
  refine metW (own := RX4) [.ref (w.1 1), .int v1, .int v2] (by decide +kernel) rfl rfl (Nat.le_of_ble_eq_true rfl) ?_
  intro p e s m below meth c ls hsz C hr hK hw hl
  subst hsz
  have hx := C.1
  have hb := C.2.1
  have hown := C.2.2.2.1
  have hta := fun w h => C.2.2.2.2 w (List.mem_cons_of_mem _ h)
  have hl : lv_has ls 6 [(0, .ref (w.1 1)), (1, .int v1), (2, .int v2)] := hl
  refine lv_iconst (v := 0) hx hb dX4_likeness_0 (by decide) ?_
  refine lv_istore_n (lv' := [(3, .int (0 : Int32)), (0, .ref (w.1 1)), (1, .int v1), (2, .int v2)]) hx hb dX4_likeness_1 rfl hl (by decide) rfl (fun ls hl => ?_)
  refine lv_iconst (v := 0) hx hb dX4_likeness_2 (by decide) ?_
  refine lv_istore (lv' := [(4, .int (0 : Int32)), (3, .int (0 : Int32)), (0, .ref (w.1 1)), (1, .int v1), (2, .int v2)]) hx hb dX4_likeness_3 hl (by decide) rfl (fun ls hl => ?_)
  refine lv_iconst (v := 0) hx hb dX4_likeness_5 (by decide) ?_
  refine lv_istore (lv' := [(5, .int (0 : Int32)), (4, .int (0 : Int32)), (3, .int (0 : Int32)), (0, .ref (w.1 1)), (1, .int v1), (2, .int v2)]) hx hb dX4_likeness_6 hl (by decide) rfl (fun ls hl => ?_)
  obtain ⟨n8, h⟩ := h
  refine lX4_likeness_8 C hK hcs v1 v2 G B (K92 := _) ?_ n8 (0 : Int32) (0 : Int32) (0 : Int32) _ _ _ h hw (lv_sub hl [3, 4, 5, 2, 1, 0] rfl)
  · intro x3_92 x4_92 H locs ls h hw hl
    refine lv_iload_n hx hb dX4_likeness_92 rfl (lv_at hl 0 rfl) ?_
    refine lv_iload hx hb dX4_likeness_93 (lv_at hl 1 rfl) ?_
    refine lv_iadd hx hb dX4_likeness_95 ?_
    exact q_reti hx hb hr hw ⟨h, rfl, rfl⟩ dX4_likeness_96
def wlX4_mostLike_14 (K36 : Int32 → Prop) (v2 : Int32) (G : GS) : Nat → Int32 → Int32 → Prop
  | 0, _, _ => False
  | n14 + 1, v1, v3 => ((v2 ≤ v3 → K36 v1) ∧ (¬ v2 ≤ v3 → (wX4_likeness v2 v3 G (fun r23 => (∀ x29 : Int32, x29 = (if v1 < r23 then r23 else v1) → wlX4_mostLike_14 K36 v2 G n14 x29 (v3 + (1 : Int32)))))))
def wlX4_mostLike_4 (K42 : Int32 → Prop) (G : GS) : Nat → Int32 → Int32 → Prop
  | 0, _, _ => False
  | n4 + 1, v1, v2 => (((G 1 2) ≤ v2 → K42 v1) ∧ (¬ (G 1 2) ≤ v2 → (∃ z14 : Nat, wlX4_mostLike_14 (fun x1_36 => wlX4_mostLike_4 K42 G n4 x1_36 (v2 + (1 : Int32))) v2 G z14 v1 (0 : Int32))))
def wX4_mostLike (G : GS) (P : Int32 → Prop) : Prop := (∃ z4 : Nat, wlX4_mostLike_4 (fun x1_42 => P x1_42) G z4 (0 : Int32) (0 : Int32))
set_option maxHeartbeats 4000000 in
set_option maxRecDepth 100000 in
theorem lX4_mostLike_14 {p : Program} {l : Launch} {e : Env} {s : State} {m : MethodId} {args : Array Value} {below : List Frame} {meth : Method} {c : Code} {Q : State → Prop} {w : WE} {cs : List Nat} {A : Nat → Prop} {H0 : Heap} (C : CallFix p m c cX4_mostLike 4 s args wsX4_mostLike RX4) (hK : KW w s) (hcs : ∀ c, (c = 1 ∨ c = 8 ∨ c = 9 ∨ (32 ≤ c ∧ c < 38)) → c ∈ cs) (v2 : Int32) (G : GS) (B : BS) {K36 : Int32 → Prop} (k36 : ∀ (y1 : Int32) (H : Heap) (locs : List Loc) (ls : Array Slot), K36 y1 → WO w cs A H0 G B H locs → lv_has ls 4 [(0, .ref (w.1 1)), (1, .int y1), (2, .int v2)] → W p l e (rmW 3) s m args below meth c H locs 0 0 Q (F0 m 36 ls [])) : ∀ (n : Nat) (v1 : Int32) (v3 : Int32) (H : Heap) (locs : List Loc) (ls : Array Slot), wlX4_mostLike_14 K36 v2 G n v1 v3 → WO w cs A H0 G B H locs → lv_has ls 4 [(0, .ref (w.1 1)), (1, .int v1), (2, .int v2), (3, .int v3)] → W p l e (rmW 3) s m args below meth c H locs 0 0 Q (F0 m 14 ls []) := by
  have hx := C.1
  have hb := C.2.1
  have hown := C.2.2.2.1
  have hta := fun w h => C.2.2.2.2 w (List.mem_cons_of_mem _ h)
  intro n
  induction n with
  | zero => intro v1 v3 H locs ls h hw hl; exact False.elim h
  | succ n ih =>
    intro v1 v3 H locs ls h hw hl
    refine lv_iload_n hx hb dX4_mostLike_14 rfl (lv_at hl 3 rfl) ?_
    refine lv_iload_n hx hb dX4_mostLike_15 rfl (lv_at hl 2 rfl) ?_
    refine lv_icmp_ge (tgt := 36) hx hb dX4_mostLike_16 (by decide) (fun c2 => ?_) (fun c2 => ?_)
    · have h := h.1 c2
      exact k36 v1 _ _ _ h hw (lv_sub hl [0, 1, 2] rfl)
    · have h := h.2 c2
      refine lv_iload_n hx hb dX4_mostLike_19 rfl (lv_at hl 1 rfl) ?_
      refine lv_aload_n hx hb dX4_mostLike_20 rfl (lv_at hl 0 rfl) ?_
      refine lv_iload_n hx hb dX4_mostLike_21 rfl (lv_at hl 2 rfl) ?_
      refine lv_iload_n hx hb dX4_mostLike_22 rfl (lv_at hl 3 rfl) ?_
      refine q_calli hw (va_runV (As := [.int v2, .int v3]) (rest := [.int v1]) C (mX4_likeness l w cs (fun c h => hcs c (by omega)) _ G B v2 v3 _ h) (cwV 2 hta (gVw kw_45 kw_46 kw_47 kw_36 kw_44) rfl rfl rfl (by decide +kernel) ⟨Nat.le_of_ble_eq_true rfl, Nat.le_of_ble_eq_true rfl⟩) (preV hK hw 1 (hcs _ (by omega)) (by unfold isB; omega) rfl rfl _) rfl rfl hl.1 rfl (lv_room (Nat.le_of_ble_eq_true rfl)) dX4_mostLike_23 ⟨Nat.le_refl 0, Nat.le_refl 0⟩) (fun r23 G23 B23 H locs h hw => ?_)
      obtain ⟨h, e1, e2⟩ := h; subst e1; subst e2
      refine va_mmax hx hb (C.2.2.1.trans hl.1.symm) hown (hta _ kw_41) (hta _ kw_42) (hta _ kw_2) (hta _ kw_43) (Nat.le_of_ble_eq_true rfl) (Nat.le_of_ble_eq_true rfl) (Nat.le_refl 0) (Nat.le_refl 0) dX4_mostLike_26 ?_
      refine lv_topi (fun x29 ex29 => ?_)
      have h := h x29 ex29
      refine lv_istore_n (lv' := [(1, .int x29), (0, .ref (w.1 1)), (2, .int v2), (3, .int v3)]) hx hb dX4_mostLike_29 rfl hl (by decide) rfl (fun ls hl => ?_)
      refine lv_iinc (v := (v3 + (1 : Int32))) (lv' := [(3, .int (v3 + (1 : Int32))), (1, .int x29), (0, .ref (w.1 1)), (2, .int v2)]) hx hb dX4_mostLike_30 hl (k := 3) rfl rfl (by decide) rfl (fun ls hl => ?_)
      refine lv_goto (tgt := 14) hx hb dX4_mostLike_33 (by decide) ?_
      exact ih x29 (v3 + (1 : Int32)) _ _ _ h hw (lv_sub hl [2, 1, 3, 0] rfl)
set_option maxHeartbeats 4000000 in
set_option maxRecDepth 100000 in
theorem lX4_mostLike_4 {p : Program} {l : Launch} {e : Env} {s : State} {m : MethodId} {args : Array Value} {below : List Frame} {meth : Method} {c : Code} {Q : State → Prop} {w : WE} {cs : List Nat} {A : Nat → Prop} {H0 : Heap} (C : CallFix p m c cX4_mostLike 4 s args wsX4_mostLike RX4) (hK : KW w s) (hcs : ∀ c, (c = 1 ∨ c = 8 ∨ c = 9 ∨ (32 ≤ c ∧ c < 38)) → c ∈ cs) (G : GS) (B : BS) {K42 : Int32 → Prop} (k42 : ∀ (y1 : Int32) (H : Heap) (locs : List Loc) (ls : Array Slot), K42 y1 → WO w cs A H0 G B H locs → lv_has ls 4 [(1, .int y1)] → W p l e (rmW 3) s m args below meth c H locs 0 0 Q (F0 m 42 ls [])) : ∀ (n : Nat) (v1 : Int32) (v2 : Int32) (H : Heap) (locs : List Loc) (ls : Array Slot), wlX4_mostLike_4 K42 G n v1 v2 → WO w cs A H0 G B H locs → lv_has ls 4 [(0, .ref (w.1 1)), (1, .int v1), (2, .int v2)] → W p l e (rmW 3) s m args below meth c H locs 0 0 Q (F0 m 4 ls []) := by
  have hx := C.1
  have hb := C.2.1
  have hown := C.2.2.2.1
  have hta := fun w h => C.2.2.2.2 w (List.mem_cons_of_mem _ h)
  intro n
  induction n with
  | zero => intro v1 v2 H locs ls h hw hl; exact False.elim h
  | succ n ih =>
    intro v1 v2 H locs ls h hw hl
    refine lv_iload_n hx hb dX4_mostLike_4 rfl (lv_at hl 2 rfl) ?_
    refine lv_aload_n hx hb dX4_mostLike_5 rfl (lv_at hl 0 rfl) ?_
    refine q_get (v := .int (G 1 2)) (C := RX4) (T := TX4) (N := 5) (ci := 4) hx hb hta kw_X4 hown hK hw 1 (hcs _ (by omega)) (by unfold isB; omega) rfl rfl 2 (by decide) (hta _ kw_27) rfl rfl dX4_mostLike_6 ?_
    refine lv_icmp_ge (tgt := 42) hx hb dX4_mostLike_9 (by decide) (fun c1 => ?_) (fun c1 => ?_)
    · have h := h.1 c1
      exact k42 v1 _ _ _ h hw (lv_sub hl [1] rfl)
    · have h := h.2 c1
      refine lv_iconst (v := 0) hx hb dX4_mostLike_12 (by decide) ?_
      refine lv_istore_n (lv' := [(3, .int (0 : Int32)), (0, .ref (w.1 1)), (1, .int v1), (2, .int v2)]) hx hb dX4_mostLike_13 rfl hl (by decide) rfl (fun ls hl => ?_)
      obtain ⟨n14, h⟩ := h
      refine lX4_mostLike_14 C hK hcs v2 G B (K36 := _) ?_ n14 v1 (0 : Int32) _ _ _ h hw (lv_sub hl [1, 2, 3, 0] rfl)
      · intro x1_36 H locs ls h hw hl
        refine lv_iinc (v := (v2 + (1 : Int32))) (lv' := [(2, .int (v2 + (1 : Int32))), (0, .ref (w.1 1)), (1, .int x1_36)]) hx hb dX4_mostLike_36 hl (k := 2) rfl rfl (by decide) rfl (fun ls hl => ?_)
        refine lv_goto (tgt := 4) hx hb dX4_mostLike_39 (by decide) ?_
        exact ih x1_36 (v2 + (1 : Int32)) _ _ _ h hw (lv_sub hl [1, 2, 0] rfl)
set_option maxHeartbeats 4000000 in
set_option maxRecDepth 100000 in
theorem mX4_mostLike (l : Launch) (w : WE) (cs : List Nat) (hcs : ∀ c, (c = 1 ∨ c = 8 ∨ c = 9 ∨ (32 ≤ c ∧ c < 38)) → c ∈ cs) (sz : Nat) (G : GS) (B : BS) (P : Int32 → Prop) (h : wX4_mostLike G P) : Met l yX4_mostLike wsX4_mostLike (rmW 3) (PcW w cs sz G B [.ref (w.1 1)]) (QI w cs sz (fun r G1 B1 => P r ∧ G = G1 ∧ B = B1)) 0 0 (AA w cs sz) := by
  refine metW (own := RX4) [.ref (w.1 1)] (by decide +kernel) rfl rfl (Nat.le_of_ble_eq_true rfl) ?_
  intro p e s m below meth c ls hsz C hr hK hw hl
  subst hsz
  have hx := C.1
  have hb := C.2.1
  have hown := C.2.2.2.1
  have hta := fun w h => C.2.2.2.2 w (List.mem_cons_of_mem _ h)
  have hl : lv_has ls 4 [(0, .ref (w.1 1))] := hl
  refine lv_iconst (v := 0) hx hb dX4_mostLike_0 (by decide) ?_
  refine lv_istore_n (lv' := [(1, .int (0 : Int32)), (0, .ref (w.1 1))]) hx hb dX4_mostLike_1 rfl hl (by decide) rfl (fun ls hl => ?_)
  refine lv_iconst (v := 0) hx hb dX4_mostLike_2 (by decide) ?_
  refine lv_istore_n (lv' := [(2, .int (0 : Int32)), (1, .int (0 : Int32)), (0, .ref (w.1 1))]) hx hb dX4_mostLike_3 rfl hl (by decide) rfl (fun ls hl => ?_)
  obtain ⟨n4, h⟩ := h
  refine lX4_mostLike_4 C hK hcs G B (K42 := _) ?_ n4 (0 : Int32) (0 : Int32) _ _ _ h hw (lv_sub hl [2, 1, 0] rfl)
  · intro x1_42 H locs ls h hw hl
    refine lv_iload_n hx hb dX4_mostLike_42 rfl (lv_at hl 0 rfl) ?_
    exact q_reti hx hb hr hw ⟨h, rfl, rfl⟩ dX4_mostLike_43
