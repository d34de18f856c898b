def wX0_restWithout (v1 : Int32) (v2 : Int32) (v3 : Int32) (G : GS) (P : Int32 → Prop) : Prop := (vp_in v1 6 ∧ (vp_in v1 6 ∧ (vp_in v2 12 ∧ (wX4_remainder ((G 15 (cl v1)) - (v3 * (G (32 + cl v1) (cl v2)))) G (fun r24 => P r24)))))
set_option maxHeartbeats 4000000 in
set_option maxRecDepth 100000 in
theorem mX0_restWithout (l : Launch) (w : WE) (cs : List Nat) (hcs : ∀ c, c < 56 → c ∈ cs) (sz : Nat) (G : GS) (B : BS) (v1 : Int32) (v2 : Int32) (v3 : Int32) (P : Int32 → Prop) (h : wX0_restWithout v1 v2 v3 G P) : Met l yX0_restWithout wsX0_restWithout (rmW 2) (PcW w cs sz G B [.ref (w.1 4), .int v1, .int v2, .int v3]) (QI w cs sz (fun r G1 B1 => P r ∧ G = G1 ∧ B = B1)) 0 0 (AA w cs sz) := by
  refine metW (own := RX0) [.ref (w.1 4), .int v1, .int v2, .int v3] (by decide +kernel) rfl rfl (Nat.le_of_ble_eq_true rfl) ?_
  intro p e s m below meth c ls hsz C hr hK hw hl
  subst hsz
  have hx := C.1
  have hb := C.2.1
  have hown := C.2.2.2.1
  have hta := fun w h => C.2.2.2.2 w (List.mem_cons_of_mem _ h)
  have hl : lv_has ls 4 [(0, .ref (w.1 4)), (1, .int v1), (2, .int v2), (3, .int v3)] := hl
  refine lv_aload_n hx hb dX0_restWithout_0 rfl (lv_at hl 0 rfl) ?_
  refine q_get (v := .ref (w.1 1)) (C := RX0) (T := TX0) (N := 5) (ci := 0) hx hb hta kw_X0 hown hK hw 4 (hcs _ (by omega)) (by unfold isB; omega) rfl rfl 0 (by decide) (hta _ kw_130) rfl rfl dX0_restWithout_1 ?_
  refine lv_aload_n hx hb dX0_restWithout_4 rfl (lv_at hl 0 rfl) ?_
  refine q_get (v := .ref (w.1 15)) (C := RX0) (T := TX0) (N := 5) (ci := 0) hx hb hta kw_X0 hown hK hw 4 (hcs _ (by omega)) (by unfold isB; omega) rfl rfl 1 (by decide) (hta _ kw_131) rfl rfl dX0_restWithout_5 ?_
  refine lv_iload_n hx hb dX0_restWithout_8 rfl (lv_at hl 1 rfl) ?_
  obtain ⟨hin1, h⟩ := h
  refine q_iald (n := 6) hx hb hK hw (hcs _ (by omega)) (by unfold isI; omega) rfl hin1 dX0_restWithout_9 ?_
  refine lv_iload_n hx hb dX0_restWithout_10 rfl (lv_at hl 3 rfl) ?_
  refine lv_aload_n hx hb dX0_restWithout_11 rfl (lv_at hl 0 rfl) ?_
  refine q_get (v := .ref (w.1 1)) (C := RX0) (T := TX0) (N := 5) (ci := 0) hx hb hta kw_X0 hown hK hw 4 (hcs _ (by omega)) (by unfold isB; omega) rfl rfl 0 (by decide) (hta _ kw_130) rfl rfl dX0_restWithout_12 ?_
  refine q_getN (v := .ref (w.1 8)) (host := RX5) (C := RX4) (T := TX4) (N := 5) (ci := 4) hx hb hta kw_X4 hown hK hw 1 (hcs _ (by omega)) (by unfold isB; omega) rfl rfl 3 (by decide) (by decide +kernel) rfl rfl dX0_restWithout_15 ?_
  refine lv_iload_n hx hb dX0_restWithout_18 rfl (lv_at hl 1 rfl) ?_
  obtain ⟨hin2, h⟩ := h
  have hv3 : 32 ≤ (32 + cl v1) ∧ (32 + cl v1) < 38 := vp_iv hin2
  refine q_aald (b := 32) (n := 6) hx hb hK hw (a := 8) (hcs _ (by omega)) (by unfold isO; omega) rfl rfl hin2 dX0_restWithout_19 ?_
  refine lv_iload_n hx hb dX0_restWithout_20 rfl (lv_at hl 2 rfl) ?_
  obtain ⟨hin4, h⟩ := h
  refine q_iald (n := 12) hx hb hK hw (hcs _ (by omega)) (isI_row (by omega) (by omega)) (ln_iv32 hv3) hin4 dX0_restWithout_21 ?_
  refine lv_imul hx hb dX0_restWithout_22 ?_
  refine lv_isub hx hb dX0_restWithout_23 ?_
  refine q_calli hw (va_runV (As := [.int ((G 15 (cl v1)) - (v3 * (G (32 + cl v1) (cl v2))))]) (rest := []) C (mX4_remainder l w cs (fun c h => hcs c (by omega)) _ G B ((G 15 (cl v1)) - (v3 * (G (32 + cl v1) (cl v2)))) _ h) (cwV 1 hta (gVw kw_133 kw_134 kw_135 kw_36 kw_132) rfl rfl rfl (by decide +kernel) ⟨Nat.le_of_ble_eq_true rfl, Nat.le_of_ble_eq_true rfl⟩) (preV hK hw 1 (hcs _ (by omega)) (by unfold isB; omega) rfl rfl _) rfl rfl hl.1 rfl (lv_room (Nat.le_of_ble_eq_true rfl)) dX0_restWithout_24 ⟨Nat.le_refl 0, Nat.le_refl 0⟩) (fun r24 G24 B24 H locs h hw => ?_)
  obtain ⟨h, e1, e2⟩ := h; subst e1; subst e2
  exact q_reti hx hb hr hw ⟨h, rfl, rfl⟩ dX0_restWithout_27
def wlX0_weigh_5 (K37 : Int32 → Prop) (v1 : Int32) (v2 : Int32) (G : GS) : Nat → Int32 → Int32 → Prop
  | 0, _, _ => False
  | n5 + 1, v3, v4 => (((G 1 1) ≤ v4 → K37 v3) ∧ (¬ (G 1 1) ≤ v4 → (wX0_restWithout v4 v1 v2 G (fun r22 => ((r22 = 0 → wlX0_weigh_5 K37 v1 v2 G n5 v3 (v4 + (1 : Int32))) ∧ (¬ r22 = 0 → wlX0_weigh_5 K37 v1 v2 G n5 (v3 + (1 : Int32)) (v4 + (1 : Int32))))))))
def wX0_weigh (v1 : Int32) (v2 : Int32) (G : GS) (P : GS → Prop) : Prop := (∃ z5 : Nat, wlX0_weigh_5 (fun x3_37 => ((¬ v1 = (G 4 2) → ((x3_37 < (G 4 4) → (∀ G83 : GS, G83 = wr G 4 2 v1 → (∀ G88 : GS, G88 = wr G83 4 3 v2 → (∀ G93 : GS, G93 = wr G88 4 4 x3_37 → P G93)))) ∧ (¬ x3_37 < (G 4 4) → ((¬ x3_37 = (G 4 4) → P G) ∧ (x3_37 = (G 4 4) → (((0 : Int32) = 0 → P G) ∧ (¬ (0 : Int32) = 0 → (∀ G83 : GS, G83 = wr G 4 2 v1 → (∀ G88 : GS, G88 = wr G83 4 3 v2 → (∀ G93 : GS, G93 = wr G88 4 4 x3_37 → P G93)))))))))) ∧ (v1 = (G 4 2) → (((G 4 3) ≤ v2 → ((x3_37 < (G 4 4) → (∀ G83 : GS, G83 = wr G 4 2 v1 → (∀ G88 : GS, G88 = wr G83 4 3 v2 → (∀ G93 : GS, G93 = wr G88 4 4 x3_37 → P G93)))) ∧ (¬ x3_37 < (G 4 4) → ((¬ x3_37 = (G 4 4) → P G) ∧ (x3_37 = (G 4 4) → (((0 : Int32) = 0 → P G) ∧ (¬ (0 : Int32) = 0 → (∀ G83 : GS, G83 = wr G 4 2 v1 → (∀ G88 : GS, G88 = wr G83 4 3 v2 → (∀ G93 : GS, G93 = wr G88 4 4 x3_37 → P G93)))))))))) ∧ (¬ (G 4 3) ≤ v2 → ((x3_37 < (G 4 4) → (∀ G83 : GS, G83 = wr G 4 2 v1 → (∀ G88 : GS, G88 = wr G83 4 3 v2 → (∀ G93 : GS, G93 = wr G88 4 4 x3_37 → P G93)))) ∧ (¬ x3_37 < (G 4 4) → ((¬ x3_37 = (G 4 4) → P G) ∧ (x3_37 = (G 4 4) → (((1 : Int32) = 0 → P G) ∧ (¬ (1 : Int32) = 0 → (∀ G83 : GS, G83 = wr G 4 2 v1 → (∀ G88 : GS, G88 = wr G83 4 3 v2 → (∀ G93 : GS, G93 = wr G88 4 4 x3_37 → P G93)))))))))))))) v1 v2 G z5 (0 : Int32) (0 : Int32))
set_option maxHeartbeats 4000000 in
set_option maxRecDepth 100000 in
theorem lX0_weigh_5 {p : Program} {l : Launch} {e : Env} {s : State} {m : MethodId} {args : Array Value} {below : List Frame} {meth : Method} {c : Code} {Q : State → Prop} {w : WE} {cs : List Nat} {A : Nat → Prop} {H0 : Heap} (C : CallFix p m c cX0_weigh 5 s args wsX0_weigh RX0) (hK : KW w s) (hcs : ∀ c, c < 56 → c ∈ cs) (v1 : Int32) (v2 : Int32) (G : GS) (B : BS) {K37 : Int32 → Prop} (k37 : ∀ (y3 : Int32) (H : Heap) (locs : List Loc) (ls : Array Slot), K37 y3 → WO w cs A H0 G B H locs → lv_has ls 5 [(0, .ref (w.1 4)), (1, .int v1), (2, .int v2), (3, .int y3)] → W p l e (rmW 3) s m args below meth c H locs 0 0 Q (F0 m 37 ls [])) : ∀ (n : Nat) (v3 : Int32) (v4 : Int32) (H : Heap) (locs : List Loc) (ls : Array Slot), wlX0_weigh_5 K37 v1 v2 G n v3 v4 → WO w cs A H0 G B H locs → lv_has ls 5 [(0, .ref (w.1 4)), (1, .int v1), (2, .int v2), (3, .int v3), (4, .int v4)] → W p l e (rmW 3) s m args below meth c H locs 0 0 Q (F0 m 5 ls []) := by
  have hx := C.1
  have hb := C.2.1
  have hown := C.2.2.2.1
  have hta := fun w h => C.2.2.2.2 w (List.mem_cons_of_mem _ h)
  intro n
  induction n with
  | zero => intro v3 v4 H locs ls h hw hl; exact False.elim h
  | succ n ih =>
    intro v3 v4 H locs ls h hw hl
    refine lv_iload hx hb dX0_weigh_5 (lv_at hl 4 rfl) ?_
    refine lv_aload_n hx hb dX0_weigh_7 rfl (lv_at hl 0 rfl) ?_
    refine q_get (v := .ref (w.1 1)) (C := RX0) (T := TX0) (N := 5) (ci := 0) hx hb hta kw_X0 hown hK hw 4 (hcs _ (by omega)) (by unfold isB; omega) rfl rfl 0 (by decide) (hta _ kw_130) rfl rfl dX0_weigh_8 ?_
    refine q_getN (v := .int (G 1 1)) (host := RX5) (C := RX4) (T := TX4) (N := 5) (ci := 4) hx hb hta kw_X4 hown hK hw 1 (hcs _ (by omega)) (by unfold isB; omega) rfl rfl 1 (by decide) (by decide +kernel) rfl rfl dX0_weigh_11 ?_
    refine lv_icmp_ge (tgt := 37) hx hb dX0_weigh_14 (by decide) (fun c1 => ?_) (fun c1 => ?_)
    · have h := h.1 c1
      exact k37 v3 _ _ _ h hw (lv_sub hl [0, 1, 2, 3] rfl)
    · have h := h.2 c1
      refine lv_aload_n hx hb dX0_weigh_17 rfl (lv_at hl 0 rfl) ?_
      refine lv_iload hx hb dX0_weigh_18 (lv_at hl 4 rfl) ?_
      refine lv_iload_n hx hb dX0_weigh_20 rfl (lv_at hl 1 rfl) ?_
      refine lv_iload_n hx hb dX0_weigh_21 rfl (lv_at hl 2 rfl) ?_
      refine q_calli hw (va_runV (As := [.int v4, .int v1, .int v2]) (rest := []) C (mX0_restWithout l w cs (fun c h => hcs c (by omega)) _ G B v4 v1 v2 _ h) (cwV 3 hta (gVw kw_137 kw_138 kw_139 kw_140 kw_136) rfl rfl rfl (by decide +kernel) ⟨Nat.le_of_ble_eq_true rfl, Nat.le_of_ble_eq_true rfl⟩) (preV hK hw 4 (hcs _ (by omega)) (by unfold isB; omega) rfl rfl _) rfl rfl hl.1 rfl (lv_room (Nat.le_of_ble_eq_true rfl)) dX0_weigh_22 ⟨Nat.le_refl 0, Nat.le_refl 0⟩) (fun r22 G22 B22 H locs h hw => ?_)
      obtain ⟨h, e1, e2⟩ := h; subst e1; subst e2
      refine lv_if_eq (tgt := 31) hx hb dX0_weigh_25 (by decide) (fun c2 => ?_) (fun c2 => ?_)
      · have h := h.1 c2
        refine lv_iinc (v := (v4 + (1 : Int32))) (lv' := [(4, .int (v4 + (1 : Int32))), (0, .ref (w.1 4)), (1, .int v1), (2, .int v2), (3, .int v3)]) hx hb dX0_weigh_31 hl (k := 4) rfl rfl (by decide) rfl (fun ls hl => ?_)
        refine lv_goto (tgt := 5) hx hb dX0_weigh_34 (by decide) ?_
        exact ih v3 (v4 + (1 : Int32)) _ _ _ h hw (lv_sub hl [1, 2, 3, 4, 0] rfl)
      · have h := h.2 c2
        refine lv_iinc (v := (v3 + (1 : Int32))) (lv' := [(3, .int (v3 + (1 : Int32))), (0, .ref (w.1 4)), (1, .int v1), (2, .int v2), (4, .int v4)]) hx hb dX0_weigh_28 hl (k := 3) rfl rfl (by decide) rfl (fun ls hl => ?_)
        refine lv_iinc (v := (v4 + (1 : Int32))) (lv' := [(4, .int (v4 + (1 : Int32))), (3, .int (v3 + (1 : Int32))), (0, .ref (w.1 4)), (1, .int v1), (2, .int v2)]) hx hb dX0_weigh_31 hl (k := 4) rfl rfl (by decide) rfl (fun ls hl => ?_)
        refine lv_goto (tgt := 5) hx hb dX0_weigh_34 (by decide) ?_
        exact ih (v3 + (1 : Int32)) (v4 + (1 : Int32)) _ _ _ h hw (lv_sub hl [2, 3, 4, 1, 0] rfl)
set_option maxHeartbeats 4000000 in
set_option maxRecDepth 100000 in
theorem mX0_weigh (l : Launch) (w : WE) (cs : List Nat) (hcs : ∀ c, c < 56 → c ∈ cs) (sz : Nat) (G : GS) (B : BS) (v1 : Int32) (v2 : Int32) (P : GS → Prop) (h : wX0_weigh v1 v2 G P) : Met l yX0_weigh wsX0_weigh (rmW 3) (PcW w cs sz G B [.ref (w.1 4), .int v1, .int v2]) (QV w cs sz (fun G1 B1 => P G1 ∧ B = B1)) 0 0 (AA w cs sz) := by
  refine metW (own := RX0) [.ref (w.1 4), .int v1, .int v2] (by decide +kernel) rfl rfl (Nat.le_of_ble_eq_true rfl) ?_
  intro p e s m below meth c ls hsz C hr hK hw hl
  subst hsz
  have hx := C.1
  have hb := C.2.1
  have hown := C.2.2.2.1
  have hta := fun w h => C.2.2.2.2 w (List.mem_cons_of_mem _ h)
  have hl : lv_has ls 5 [(0, .ref (w.1 4)), (1, .int v1), (2, .int v2)] := hl
  refine lv_iconst (v := 0) hx hb dX0_weigh_0 (by decide) ?_
  refine lv_istore_n (lv' := [(3, .int (0 : Int32)), (0, .ref (w.1 4)), (1, .int v1), (2, .int v2)]) hx hb dX0_weigh_1 rfl hl (by decide) rfl (fun ls hl => ?_)
  refine lv_iconst (v := 0) hx hb dX0_weigh_2 (by decide) ?_
  refine lv_istore (lv' := [(4, .int (0 : Int32)), (3, .int (0 : Int32)), (0, .ref (w.1 4)), (1, .int v1), (2, .int v2)]) hx hb dX0_weigh_3 hl (by decide) rfl (fun ls hl => ?_)
  obtain ⟨n5, h⟩ := h
  refine lX0_weigh_5 C hK hcs v1 v2 G B (K37 := _) ?_ n5 (0 : Int32) (0 : Int32) _ _ _ h hw (lv_sub hl [2, 3, 4, 1, 0] rfl)
  · intro x3_37 H locs ls h hw hl
    refine lv_iload_n hx hb dX0_weigh_37 rfl (lv_at hl 1 rfl) ?_
    refine lv_aload_n hx hb dX0_weigh_38 rfl (lv_at hl 0 rfl) ?_
    refine q_get (v := .int (G 4 2)) (C := RX0) (T := TX0) (N := 5) (ci := 0) hx hb hta kw_X0 hown hK hw 4 (hcs _ (by omega)) (by unfold isB; omega) rfl rfl 2 (by decide) (hta _ kw_141) rfl rfl dX0_weigh_39 ?_
    refine lv_icmp_ne (tgt := 57) hx hb dX0_weigh_42 (by decide) (fun c3 => ?_) (fun c3 => ?_)
    · have h := h.1 c3
      refine lv_iconst (v := 0) hx hb dX0_weigh_57 (by decide) ?_
      refine lv_istore (lv' := [(4, .int (0 : Int32)), (0, .ref (w.1 4)), (1, .int v1), (2, .int v2), (3, .int x3_37)]) hx hb dX0_weigh_58 hl (by decide) rfl (fun ls hl => ?_)
      refine lv_iload_n hx hb dX0_weigh_60 rfl (lv_at hl 4 rfl) ?_
      refine lv_aload_n hx hb dX0_weigh_61 rfl (lv_at hl 1 rfl) ?_
      refine q_get (v := .int (G 4 4)) (C := RX0) (T := TX0) (N := 5) (ci := 0) hx hb hta kw_X0 hown hK hw 4 (hcs _ (by omega)) (by unfold isB; omega) rfl rfl 4 (by decide) (hta _ kw_142) rfl rfl dX0_weigh_62 ?_
      refine lv_icmp_lt (tgt := 81) hx hb dX0_weigh_65 (by decide) (fun c4 => ?_) (fun c4 => ?_)
      · have h := h.1 c4
        refine lv_aload_n hx hb dX0_weigh_81 rfl (lv_at hl 1 rfl) ?_
        refine lv_iload_n hx hb dX0_weigh_82 rfl (lv_at hl 2 rfl) ?_
        refine q_put (x := v1) (C := RX0) (T := TX0) (N := 5) (ci := 0) hx hb hta kw_X0 tyX0 tyX0_ok nmX0 hown hK hw 4 (hcs _ (by omega)) (by unfold isB; omega) rfl rfl 2 (by decide) (hta _ kw_141) rfl rfl rfl (Nat.le_of_ble_eq_true rfl) rfl dX0_weigh_83 (fun H locs G83 eG83 hw => ?_)
        have h := h G83 eG83
        refine lv_aload_n hx hb dX0_weigh_86 rfl (lv_at hl 1 rfl) ?_
        refine lv_iload_n hx hb dX0_weigh_87 rfl (lv_at hl 3 rfl) ?_
        refine q_put (x := v2) (C := RX0) (T := TX0) (N := 5) (ci := 0) hx hb hta kw_X0 tyX0 tyX0_ok nmX0 hown hK hw 4 (hcs _ (by omega)) (by unfold isB; omega) rfl rfl 3 (by decide) (hta _ kw_143) rfl rfl rfl (Nat.le_of_ble_eq_true rfl) rfl dX0_weigh_88 (fun H locs G88 eG88 hw => ?_)
        have h := h G88 eG88
        refine lv_aload_n hx hb dX0_weigh_91 rfl (lv_at hl 1 rfl) ?_
        refine lv_iload_n hx hb dX0_weigh_92 rfl (lv_at hl 4 rfl) ?_
        refine q_put (x := x3_37) (C := RX0) (T := TX0) (N := 5) (ci := 0) hx hb hta kw_X0 tyX0 tyX0_ok nmX0 hown hK hw 4 (hcs _ (by omega)) (by unfold isB; omega) rfl rfl 4 (by decide) (hta _ kw_142) rfl rfl rfl (Nat.le_of_ble_eq_true rfl) rfl dX0_weigh_93 (fun H locs G93 eG93 hw => ?_)
        have h := h G93 eG93
        exact q_retv hx hb hr hw ⟨h, rfl⟩ dX0_weigh_96
      · have h := h.2 c4
        refine lv_iload_n hx hb dX0_weigh_68 rfl (lv_at hl 4 rfl) ?_
        refine lv_aload_n hx hb dX0_weigh_69 rfl (lv_at hl 1 rfl) ?_
        refine q_get (v := .int (G 4 4)) (C := RX0) (T := TX0) (N := 5) (ci := 0) hx hb hta kw_X0 hown hK hw 4 (hcs _ (by omega)) (by unfold isB; omega) rfl rfl 4 (by decide) (hta _ kw_142) rfl rfl dX0_weigh_70 ?_
        refine lv_icmp_ne (tgt := 96) hx hb dX0_weigh_73 (by decide) (fun c5 => ?_) (fun c5 => ?_)
        · have h := h.1 c5
          exact q_retv hx hb hr hw ⟨h, rfl⟩ dX0_weigh_96
        · have h := h.2 c5
          refine lv_iload hx hb dX0_weigh_76 (lv_at hl 0 rfl) ?_
          refine lv_if_eq (tgt := 96) hx hb dX0_weigh_78 (by decide) (fun c6 => ?_) (fun c6 => ?_)
          · have h := h.1 c6
            exact q_retv hx hb hr hw ⟨h, rfl⟩ dX0_weigh_96
          · have h := h.2 c6
            refine lv_aload_n hx hb dX0_weigh_81 rfl (lv_at hl 1 rfl) ?_
            refine lv_iload_n hx hb dX0_weigh_82 rfl (lv_at hl 2 rfl) ?_
            refine q_put (x := v1) (C := RX0) (T := TX0) (N := 5) (ci := 0) hx hb hta kw_X0 tyX0 tyX0_ok nmX0 hown hK hw 4 (hcs _ (by omega)) (by unfold isB; omega) rfl rfl 2 (by decide) (hta _ kw_141) rfl rfl rfl (Nat.le_of_ble_eq_true rfl) rfl dX0_weigh_83 (fun H locs G83 eG83 hw => ?_)
            have h := h G83 eG83
            refine lv_aload_n hx hb dX0_weigh_86 rfl (lv_at hl 1 rfl) ?_
            refine lv_iload_n hx hb dX0_weigh_87 rfl (lv_at hl 3 rfl) ?_
            refine q_put (x := v2) (C := RX0) (T := TX0) (N := 5) (ci := 0) hx hb hta kw_X0 tyX0 tyX0_ok nmX0 hown hK hw 4 (hcs _ (by omega)) (by unfold isB; omega) rfl rfl 3 (by decide) (hta _ kw_143) rfl rfl rfl (Nat.le_of_ble_eq_true rfl) rfl dX0_weigh_88 (fun H locs G88 eG88 hw => ?_)
            have h := h G88 eG88
            refine lv_aload_n hx hb dX0_weigh_91 rfl (lv_at hl 1 rfl) ?_
            refine lv_iload_n hx hb dX0_weigh_92 rfl (lv_at hl 4 rfl) ?_
            refine q_put (x := x3_37) (C := RX0) (T := TX0) (N := 5) (ci := 0) hx hb hta kw_X0 tyX0 tyX0_ok nmX0 hown hK hw 4 (hcs _ (by omega)) (by unfold isB; omega) rfl rfl 4 (by decide) (hta _ kw_142) rfl rfl rfl (Nat.le_of_ble_eq_true rfl) rfl dX0_weigh_93 (fun H locs G93 eG93 hw => ?_)
            have h := h G93 eG93
            exact q_retv hx hb hr hw ⟨h, rfl⟩ dX0_weigh_96
    · have h := h.2 c3
      refine lv_iload_n hx hb dX0_weigh_45 rfl (lv_at hl 2 rfl) ?_
      refine lv_aload_n hx hb dX0_weigh_46 rfl (lv_at hl 0 rfl) ?_
      refine q_get (v := .int (G 4 3)) (C := RX0) (T := TX0) (N := 5) (ci := 0) hx hb hta kw_X0 hown hK hw 4 (hcs _ (by omega)) (by unfold isB; omega) rfl rfl 3 (by decide) (hta _ kw_143) rfl rfl dX0_weigh_47 ?_
      refine lv_icmp_ge (tgt := 57) hx hb dX0_weigh_50 (by decide) (fun c7 => ?_) (fun c7 => ?_)
      · have h := h.1 c7
        refine lv_iconst (v := 0) hx hb dX0_weigh_57 (by decide) ?_
        refine lv_istore (lv' := [(4, .int (0 : Int32)), (0, .ref (w.1 4)), (1, .int v1), (2, .int v2), (3, .int x3_37)]) hx hb dX0_weigh_58 hl (by decide) rfl (fun ls hl => ?_)
        refine lv_iload_n hx hb dX0_weigh_60 rfl (lv_at hl 4 rfl) ?_
        refine lv_aload_n hx hb dX0_weigh_61 rfl (lv_at hl 1 rfl) ?_
        refine q_get (v := .int (G 4 4)) (C := RX0) (T := TX0) (N := 5) (ci := 0) hx hb hta kw_X0 hown hK hw 4 (hcs _ (by omega)) (by unfold isB; omega) rfl rfl 4 (by decide) (hta _ kw_142) rfl rfl dX0_weigh_62 ?_
        refine lv_icmp_lt (tgt := 81) hx hb dX0_weigh_65 (by decide) (fun c8 => ?_) (fun c8 => ?_)
        · have h := h.1 c8
          refine lv_aload_n hx hb dX0_weigh_81 rfl (lv_at hl 1 rfl) ?_
          refine lv_iload_n hx hb dX0_weigh_82 rfl (lv_at hl 2 rfl) ?_
          refine q_put (x := v1) (C := RX0) (T := TX0) (N := 5) (ci := 0) hx hb hta kw_X0 tyX0 tyX0_ok nmX0 hown hK hw 4 (hcs _ (by omega)) (by unfold isB; omega) rfl rfl 2 (by decide) (hta _ kw_141) rfl rfl rfl (Nat.le_of_ble_eq_true rfl) rfl dX0_weigh_83 (fun H locs G83 eG83 hw => ?_)
          have h := h G83 eG83
          refine lv_aload_n hx hb dX0_weigh_86 rfl (lv_at hl 1 rfl) ?_
          refine lv_iload_n hx hb dX0_weigh_87 rfl (lv_at hl 3 rfl) ?_
          refine q_put (x := v2) (C := RX0) (T := TX0) (N := 5) (ci := 0) hx hb hta kw_X0 tyX0 tyX0_ok nmX0 hown hK hw 4 (hcs _ (by omega)) (by unfold isB; omega) rfl rfl 3 (by decide) (hta _ kw_143) rfl rfl rfl (Nat.le_of_ble_eq_true rfl) rfl dX0_weigh_88 (fun H locs G88 eG88 hw => ?_)
          have h := h G88 eG88
          refine lv_aload_n hx hb dX0_weigh_91 rfl (lv_at hl 1 rfl) ?_
          refine lv_iload_n hx hb dX0_weigh_92 rfl (lv_at hl 4 rfl) ?_
          refine q_put (x := x3_37) (C := RX0) (T := TX0) (N := 5) (ci := 0) hx hb hta kw_X0 tyX0 tyX0_ok nmX0 hown hK hw 4 (hcs _ (by omega)) (by unfold isB; omega) rfl rfl 4 (by decide) (hta _ kw_142) rfl rfl rfl (Nat.le_of_ble_eq_true rfl) rfl dX0_weigh_93 (fun H locs G93 eG93 hw => ?_)
          have h := h G93 eG93
          exact q_retv hx hb hr hw ⟨h, rfl⟩ dX0_weigh_96
        · have h := h.2 c8
          refine lv_iload_n hx hb dX0_weigh_68 rfl (lv_at hl 4 rfl) ?_
          refine lv_aload_n hx hb dX0_weigh_69 rfl (lv_at hl 1 rfl) ?_
          refine q_get (v := .int (G 4 4)) (C := RX0) (T := TX0) (N := 5) (ci := 0) hx hb hta kw_X0 hown hK hw 4 (hcs _ (by omega)) (by unfold isB; omega) rfl rfl 4 (by decide) (hta _ kw_142) rfl rfl dX0_weigh_70 ?_
          refine lv_icmp_ne (tgt := 96) hx hb dX0_weigh_73 (by decide) (fun c9 => ?_) (fun c9 => ?_)
          · have h := h.1 c9
            exact q_retv hx hb hr hw ⟨h, rfl⟩ dX0_weigh_96
          · have h := h.2 c9
            refine lv_iload hx hb dX0_weigh_76 (lv_at hl 0 rfl) ?_
            refine lv_if_eq (tgt := 96) hx hb dX0_weigh_78 (by decide) (fun c10 => ?_) (fun c10 => ?_)
            · have h := h.1 c10
              exact q_retv hx hb hr hw ⟨h, rfl⟩ dX0_weigh_96
            · have h := h.2 c10
              refine lv_aload_n hx hb dX0_weigh_81 rfl (lv_at hl 1 rfl) ?_
              refine lv_iload_n hx hb dX0_weigh_82 rfl (lv_at hl 2 rfl) ?_
              refine q_put (x := v1) (C := RX0) (T := TX0) (N := 5) (ci := 0) hx hb hta kw_X0 tyX0 tyX0_ok nmX0 hown hK hw 4 (hcs _ (by omega)) (by unfold isB; omega) rfl rfl 2 (by decide) (hta _ kw_141) rfl rfl rfl (Nat.le_of_ble_eq_true rfl) rfl dX0_weigh_83 (fun H locs G83 eG83 hw => ?_)
              have h := h G83 eG83
              refine lv_aload_n hx hb dX0_weigh_86 rfl (lv_at hl 1 rfl) ?_
              refine lv_iload_n hx hb dX0_weigh_87 rfl (lv_at hl 3 rfl) ?_
              refine q_put (x := v2) (C := RX0) (T := TX0) (N := 5) (ci := 0) hx hb hta kw_X0 tyX0 tyX0_ok nmX0 hown hK hw 4 (hcs _ (by omega)) (by unfold isB; omega) rfl rfl 3 (by decide) (hta _ kw_143) rfl rfl rfl (Nat.le_of_ble_eq_true rfl) rfl dX0_weigh_88 (fun H locs G88 eG88 hw => ?_)
              have h := h G88 eG88
              refine lv_aload_n hx hb dX0_weigh_91 rfl (lv_at hl 1 rfl) ?_
              refine lv_iload_n hx hb dX0_weigh_92 rfl (lv_at hl 4 rfl) ?_
              refine q_put (x := x3_37) (C := RX0) (T := TX0) (N := 5) (ci := 0) hx hb hta kw_X0 tyX0 tyX0_ok nmX0 hown hK hw 4 (hcs _ (by omega)) (by unfold isB; omega) rfl rfl 4 (by decide) (hta _ kw_142) rfl rfl rfl (Nat.le_of_ble_eq_true rfl) rfl dX0_weigh_93 (fun H locs G93 eG93 hw => ?_)
              have h := h G93 eG93
              exact q_retv hx hb hr hw ⟨h, rfl⟩ dX0_weigh_96
      · have h := h.2 c7
        refine lv_iconst (v := 1) hx hb dX0_weigh_53 (by decide) ?_
        refine lv_goto (tgt := 58) hx hb dX0_weigh_54 (by decide) ?_
        refine lv_istore (lv' := [(4, .int (1 : Int32)), (0, .ref (w.1 4)), (1, .int v1), (2, .int v2), (3, .int x3_37)]) hx hb dX0_weigh_58 hl (by decide) rfl (fun ls hl => ?_)
        refine lv_iload_n hx hb dX0_weigh_60 rfl (lv_at hl 4 rfl) ?_
        refine lv_aload_n hx hb dX0_weigh_61 rfl (lv_at hl 1 rfl) ?_
        refine q_get (v := .int (G 4 4)) (C := RX0) (T := TX0) (N := 5) (ci := 0) hx hb hta kw_X0 hown hK hw 4 (hcs _ (by omega)) (by unfold isB; omega) rfl rfl 4 (by decide) (hta _ kw_142) rfl rfl dX0_weigh_62 ?_
        refine lv_icmp_lt (tgt := 81) hx hb dX0_weigh_65 (by decide) (fun c11 => ?_) (fun c11 => ?_)
        · have h := h.1 c11
          refine lv_aload_n hx hb dX0_weigh_81 rfl (lv_at hl 1 rfl) ?_
          refine lv_iload_n hx hb dX0_weigh_82 rfl (lv_at hl 2 rfl) ?_
          refine q_put (x := v1) (C := RX0) (T := TX0) (N := 5) (ci := 0) hx hb hta kw_X0 tyX0 tyX0_ok nmX0 hown hK hw 4 (hcs _ (by omega)) (by unfold isB; omega) rfl rfl 2 (by decide) (hta _ kw_141) rfl rfl rfl (Nat.le_of_ble_eq_true rfl) rfl dX0_weigh_83 (fun H locs G83 eG83 hw => ?_)
          have h := h G83 eG83
          refine lv_aload_n hx hb dX0_weigh_86 rfl (lv_at hl 1 rfl) ?_
          refine lv_iload_n hx hb dX0_weigh_87 rfl (lv_at hl 3 rfl) ?_
          refine q_put (x := v2) (C := RX0) (T := TX0) (N := 5) (ci := 0) hx hb hta kw_X0 tyX0 tyX0_ok nmX0 hown hK hw 4 (hcs _ (by omega)) (by unfold isB; omega) rfl rfl 3 (by decide) (hta _ kw_143) rfl rfl rfl (Nat.le_of_ble_eq_true rfl) rfl dX0_weigh_88 (fun H locs G88 eG88 hw => ?_)
          have h := h G88 eG88
          refine lv_aload_n hx hb dX0_weigh_91 rfl (lv_at hl 1 rfl) ?_
          refine lv_iload_n hx hb dX0_weigh_92 rfl (lv_at hl 4 rfl) ?_
          refine q_put (x := x3_37) (C := RX0) (T := TX0) (N := 5) (ci := 0) hx hb hta kw_X0 tyX0 tyX0_ok nmX0 hown hK hw 4 (hcs _ (by omega)) (by unfold isB; omega) rfl rfl 4 (by decide) (hta _ kw_142) rfl rfl rfl (Nat.le_of_ble_eq_true rfl) rfl dX0_weigh_93 (fun H locs G93 eG93 hw => ?_)
          have h := h G93 eG93
          exact q_retv hx hb hr hw ⟨h, rfl⟩ dX0_weigh_96
        · have h := h.2 c11
          refine lv_iload_n hx hb dX0_weigh_68 rfl (lv_at hl 4 rfl) ?_
          refine lv_aload_n hx hb dX0_weigh_69 rfl (lv_at hl 1 rfl) ?_
          refine q_get (v := .int (G 4 4)) (C := RX0) (T := TX0) (N := 5) (ci := 0) hx hb hta kw_X0 hown hK hw 4 (hcs _ (by omega)) (by unfold isB; omega) rfl rfl 4 (by decide) (hta _ kw_142) rfl rfl dX0_weigh_70 ?_
          refine lv_icmp_ne (tgt := 96) hx hb dX0_weigh_73 (by decide) (fun c12 => ?_) (fun c12 => ?_)
          · have h := h.1 c12
            exact q_retv hx hb hr hw ⟨h, rfl⟩ dX0_weigh_96
          · have h := h.2 c12
            refine lv_iload hx hb dX0_weigh_76 (lv_at hl 0 rfl) ?_
            refine lv_if_eq (tgt := 96) hx hb dX0_weigh_78 (by decide) (fun c13 => ?_) (fun c13 => ?_)
            · have h := h.1 c13
              exact q_retv hx hb hr hw ⟨h, rfl⟩ dX0_weigh_96
            · have h := h.2 c13
              refine lv_aload_n hx hb dX0_weigh_81 rfl (lv_at hl 1 rfl) ?_
              refine lv_iload_n hx hb dX0_weigh_82 rfl (lv_at hl 2 rfl) ?_
              refine q_put (x := v1) (C := RX0) (T := TX0) (N := 5) (ci := 0) hx hb hta kw_X0 tyX0 tyX0_ok nmX0 hown hK hw 4 (hcs _ (by omega)) (by unfold isB; omega) rfl rfl 2 (by decide) (hta _ kw_141) rfl rfl rfl (Nat.le_of_ble_eq_true rfl) rfl dX0_weigh_83 (fun H locs G83 eG83 hw => ?_)
              have h := h G83 eG83
              refine lv_aload_n hx hb dX0_weigh_86 rfl (lv_at hl 1 rfl) ?_
              refine lv_iload_n hx hb dX0_weigh_87 rfl (lv_at hl 3 rfl) ?_
              refine q_put (x := v2) (C := RX0) (T := TX0) (N := 5) (ci := 0) hx hb hta kw_X0 tyX0 tyX0_ok nmX0 hown hK hw 4 (hcs _ (by omega)) (by unfold isB; omega) rfl rfl 3 (by decide) (hta _ kw_143) rfl rfl rfl (Nat.le_of_ble_eq_true rfl) rfl dX0_weigh_88 (fun H locs G88 eG88 hw => ?_)
              have h := h G88 eG88
              refine lv_aload_n hx hb dX0_weigh_91 rfl (lv_at hl 1 rfl) ?_
              refine lv_iload_n hx hb dX0_weigh_92 rfl (lv_at hl 4 rfl) ?_
              refine q_put (x := x3_37) (C := RX0) (T := TX0) (N := 5) (ci := 0) hx hb hta kw_X0 tyX0 tyX0_ok nmX0 hown hK hw 4 (hcs _ (by omega)) (by unfold isB; omega) rfl rfl 4 (by decide) (hta _ kw_142) rfl rfl rfl (Nat.le_of_ble_eq_true rfl) rfl dX0_weigh_93 (fun H locs G93 eG93 hw => ?_)
              have h := h G93 eG93
              exact q_retv hx hb hr hw ⟨h, rfl⟩ dX0_weigh_96
def wlX0_choose_31 (K113 : GS → Prop) (v1 : Int32) (v3 : Int32) : Nat → Int32 → GS → Prop
  | 0, _, _ => False
  | n31 + 1, v4, G => (((G 1 1) ≤ v4 → K113 G) ∧ (¬ (G 1 1) ≤ v4 → ((¬ ((v1 >>> (v3 &&& (31 : Int32))) &&& (1 : Int32)) = 0 → K113 G) ∧ (((v1 >>> (v3 &&& (31 : Int32))) &&& (1 : Int32)) = 0 → (vp_in v4 6 ∧ (((G 15 (cl v4)) = 0 → wlX0_choose_31 K113 v1 v3 n31 (v4 + (1 : Int32)) G) ∧ (¬ (G 15 (cl v4)) = 0 → (vp_in v4 6 ∧ (vp_in v3 12 ∧ (((G (32 + cl v4) (cl v3)) = 0 → wlX0_choose_31 K113 v1 v3 n31 (v4 + (1 : Int32)) G) ∧ (¬ (G (32 + cl v4) (cl v3)) = 0 → (vp_in v4 6 ∧ (vp_in v4 6 ∧ (vp_in v3 12 ∧ (wX4_quotient (G 15 (cl v4)) (G (32 + cl v4) (cl v3)) G (fun r101 => (wX0_weigh v3 r101 G (fun G104 => wlX0_choose_31 K113 v1 v3 n31 (v4 + (1 : Int32)) G104))))))))))))))))))
def wlX0_choose_17 (K119 : GS → Prop) (v1 : Int32) : Nat → Int32 → GS → Prop
  | 0, _, _ => False
  | n17 + 1, v3, G => (((G 1 2) ≤ v3 → K119 G) ∧ (¬ (G 1 2) ≤ v3 → (∃ z31 : Nat, wlX0_choose_31 (fun G_113 => wlX0_choose_17 K119 v1 n17 (v3 + (1 : Int32)) G_113) v1 v3 z31 (0 : Int32) G)))
def wX0_choose (v1 : Int32) (v2 : Int32) (G : GS) (P : GS → Prop) : Prop := (∀ G2 : GS, G2 = wr G 4 2 (-1 : Int32) → (∀ G7 : GS, G7 = wr G2 4 3 (0 : Int32) → (∀ G12 : GS, G12 = wr G7 4 4 v2 → (∃ z17 : Nat, wlX0_choose_17 (fun G_119 => P G_119) v1 z17 (0 : Int32) G12))))
set_option maxHeartbeats 4000000 in
set_option maxRecDepth 100000 in
theorem lX0_choose_31 {p : Program} {l : Launch} {e : Env} {s : State} {m : MethodId} {args : Array Value} {below : List Frame} {meth : Method} {c : Code} {Q : State → Prop} {w : WE} {cs : List Nat} {A : Nat → Prop} {H0 : Heap} (C : CallFix p m c cX0_choose 5 s args wsX0_choose RX0) (hK : KW w s) (hcs : ∀ c, c < 56 → c ∈ cs) (v1 : Int32) (v3 : Int32) (B : BS) {K113 : GS → Prop} (k113 : ∀ (G : GS) (H : Heap) (locs : List Loc) (ls : Array Slot), K113 G → WO w cs A H0 G B H locs → lv_has ls 5 [(0, .ref (w.1 4)), (1, .int v1), (3, .int v3)] → W p l e (rmW 4) s m args below meth c H locs 0 0 Q (F0 m 113 ls [])) : ∀ (n : Nat) (v4 : Int32) (G : GS) (H : Heap) (locs : List Loc) (ls : Array Slot), wlX0_choose_31 K113 v1 v3 n v4 G → WO w cs A H0 G B H locs → lv_has ls 5 [(0, .ref (w.1 4)), (1, .int v1), (3, .int v3), (4, .int v4)] → W p l e (rmW 4) s m args below meth c H locs 0 0 Q (F0 m 31 ls []) := by
  have hx := C.1
  have hb := C.2.1
  have hown := C.2.2.2.1
  have hta := fun w h => C.2.2.2.2 w (List.mem_cons_of_mem _ h)
  intro n
  induction n with
  | zero => intro v4 G H locs ls h hw hl; exact False.elim h
  | succ n ih =>
    intro v4 G H locs ls h hw hl
    refine lv_iload hx hb dX0_choose_31 (lv_at hl 3 rfl) ?_
    refine lv_aload_n hx hb dX0_choose_33 rfl (lv_at hl 0 rfl) ?_
    refine q_get (v := .ref (w.1 1)) (C := RX0) (T := TX0) (N := 5) (ci := 0) hx hb hta kw_X0 hown hK hw 4 (hcs _ (by omega)) (by unfold isB; omega) rfl rfl 0 (by decide) (hta _ kw_130) rfl rfl dX0_choose_34 ?_
    refine q_getN (v := .int (G 1 1)) (host := RX5) (C := RX4) (T := TX4) (N := 5) (ci := 4) hx hb hta kw_X4 hown hK hw 1 (hcs _ (by omega)) (by unfold isB; omega) rfl rfl 1 (by decide) (by decide +kernel) rfl rfl dX0_choose_37 ?_
    refine lv_icmp_ge (tgt := 113) hx hb dX0_choose_40 (by decide) (fun c2 => ?_) (fun c2 => ?_)
    · have h := h.1 c2
      exact k113 G _ _ _ h hw (lv_sub hl [0, 1, 2] rfl)
    · have h := h.2 c2
      refine lv_iload_n hx hb dX0_choose_43 rfl (lv_at hl 1 rfl) ?_
      refine lv_iload_n hx hb dX0_choose_44 rfl (lv_at hl 2 rfl) ?_
      refine lv_ishr hx hb dX0_choose_45 ?_
      refine lv_iconst (v := 1) hx hb dX0_choose_46 (by decide) ?_
      refine lv_iand hx hb dX0_choose_47 ?_
      refine lv_if_ne (tgt := 113) hx hb dX0_choose_48 (by decide) (fun c3 => ?_) (fun c3 => ?_)
      · have h := h.1 c3
        exact k113 G _ _ _ h hw (lv_sub hl [0, 1, 2] rfl)
      · have h := h.2 c3
        refine lv_aload_n hx hb dX0_choose_51 rfl (lv_at hl 0 rfl) ?_
        refine q_get (v := .ref (w.1 15)) (C := RX0) (T := TX0) (N := 5) (ci := 0) hx hb hta kw_X0 hown hK hw 4 (hcs _ (by omega)) (by unfold isB; omega) rfl rfl 1 (by decide) (hta _ kw_131) rfl rfl dX0_choose_52 ?_
        refine lv_iload hx hb dX0_choose_55 (lv_at hl 3 rfl) ?_
        obtain ⟨hin4, h⟩ := h
        refine q_iald (n := 6) hx hb hK hw (hcs _ (by omega)) (by unfold isI; omega) rfl hin4 dX0_choose_57 ?_
        refine lv_if_eq (tgt := 107) hx hb dX0_choose_58 (by decide) (fun c5 => ?_) (fun c5 => ?_)
        · have h := h.1 c5
          refine lv_iinc (v := (v4 + (1 : Int32))) (lv' := [(4, .int (v4 + (1 : Int32))), (0, .ref (w.1 4)), (1, .int v1), (3, .int v3)]) hx hb dX0_choose_107 hl (k := 3) rfl rfl (by decide) rfl (fun ls hl => ?_)
          refine lv_goto (tgt := 31) hx hb dX0_choose_110 (by decide) ?_
          exact ih (v4 + (1 : Int32)) G _ _ _ h hw (lv_sub hl [1, 2, 3, 0] rfl)
        · have h := h.2 c5
          refine lv_aload_n hx hb dX0_choose_61 rfl (lv_at hl 0 rfl) ?_
          refine q_get (v := .ref (w.1 1)) (C := RX0) (T := TX0) (N := 5) (ci := 0) hx hb hta kw_X0 hown hK hw 4 (hcs _ (by omega)) (by unfold isB; omega) rfl rfl 0 (by decide) (hta _ kw_130) rfl rfl dX0_choose_62 ?_
          refine q_getN (v := .ref (w.1 8)) (host := RX5) (C := RX4) (T := TX4) (N := 5) (ci := 4) hx hb hta kw_X4 hown hK hw 1 (hcs _ (by omega)) (by unfold isB; omega) rfl rfl 3 (by decide) (by decide +kernel) rfl rfl dX0_choose_65 ?_
          refine lv_iload hx hb dX0_choose_68 (lv_at hl 3 rfl) ?_
          obtain ⟨hin6, h⟩ := h
          have hv7 : 32 ≤ (32 + cl v4) ∧ (32 + cl v4) < 38 := vp_iv hin6
          refine q_aald (b := 32) (n := 6) hx hb hK hw (a := 8) (hcs _ (by omega)) (by unfold isO; omega) rfl rfl hin6 dX0_choose_70 ?_
          refine lv_iload_n hx hb dX0_choose_71 rfl (lv_at hl 2 rfl) ?_
          obtain ⟨hin8, h⟩ := h
          refine q_iald (n := 12) hx hb hK hw (hcs _ (by omega)) (isI_row (by omega) (by omega)) (ln_iv32 hv7) hin8 dX0_choose_72 ?_
          refine lv_if_eq (tgt := 107) hx hb dX0_choose_73 (by decide) (fun c9 => ?_) (fun c9 => ?_)
          · have h := h.1 c9
            refine lv_iinc (v := (v4 + (1 : Int32))) (lv' := [(4, .int (v4 + (1 : Int32))), (0, .ref (w.1 4)), (1, .int v1), (3, .int v3)]) hx hb dX0_choose_107 hl (k := 3) rfl rfl (by decide) rfl (fun ls hl => ?_)
            refine lv_goto (tgt := 31) hx hb dX0_choose_110 (by decide) ?_
            exact ih (v4 + (1 : Int32)) G _ _ _ h hw (lv_sub hl [1, 2, 3, 0] rfl)
          · have h := h.2 c9
            refine lv_aload_n hx hb dX0_choose_76 rfl (lv_at hl 0 rfl) ?_
            refine lv_iload_n hx hb dX0_choose_77 rfl (lv_at hl 2 rfl) ?_
            refine lv_aload_n hx hb dX0_choose_78 rfl (lv_at hl 0 rfl) ?_
            refine q_get (v := .ref (w.1 1)) (C := RX0) (T := TX0) (N := 5) (ci := 0) hx hb hta kw_X0 hown hK hw 4 (hcs _ (by omega)) (by unfold isB; omega) rfl rfl 0 (by decide) (hta _ kw_130) rfl rfl dX0_choose_79 ?_
            refine lv_aload_n hx hb dX0_choose_82 rfl (lv_at hl 0 rfl) ?_
            refine q_get (v := .ref (w.1 15)) (C := RX0) (T := TX0) (N := 5) (ci := 0) hx hb hta kw_X0 hown hK hw 4 (hcs _ (by omega)) (by unfold isB; omega) rfl rfl 1 (by decide) (hta _ kw_131) rfl rfl dX0_choose_83 ?_
            refine lv_iload hx hb dX0_choose_86 (lv_at hl 3 rfl) ?_
            obtain ⟨hin10, h⟩ := h
            refine q_iald (n := 6) hx hb hK hw (hcs _ (by omega)) (by unfold isI; omega) rfl hin10 dX0_choose_88 ?_
            refine lv_aload_n hx hb dX0_choose_89 rfl (lv_at hl 0 rfl) ?_
            refine q_get (v := .ref (w.1 1)) (C := RX0) (T := TX0) (N := 5) (ci := 0) hx hb hta kw_X0 hown hK hw 4 (hcs _ (by omega)) (by unfold isB; omega) rfl rfl 0 (by decide) (hta _ kw_130) rfl rfl dX0_choose_90 ?_
            refine q_getN (v := .ref (w.1 8)) (host := RX5) (C := RX4) (T := TX4) (N := 5) (ci := 4) hx hb hta kw_X4 hown hK hw 1 (hcs _ (by omega)) (by unfold isB; omega) rfl rfl 3 (by decide) (by decide +kernel) rfl rfl dX0_choose_93 ?_
            refine lv_iload hx hb dX0_choose_96 (lv_at hl 3 rfl) ?_
            obtain ⟨hin11, h⟩ := h
            have hv12 : 32 ≤ (32 + cl v4) ∧ (32 + cl v4) < 38 := vp_iv hin11
            refine q_aald (b := 32) (n := 6) hx hb hK hw (a := 8) (hcs _ (by omega)) (by unfold isO; omega) rfl rfl hin11 dX0_choose_98 ?_
            refine lv_iload_n hx hb dX0_choose_99 rfl (lv_at hl 2 rfl) ?_
            obtain ⟨hin13, h⟩ := h
            refine q_iald (n := 12) hx hb hK hw (hcs _ (by omega)) (isI_row (by omega) (by omega)) (ln_iv32 hv12) hin13 dX0_choose_100 ?_
            refine q_calli hw (va_runV (As := [.int (G 15 (cl v4)), .int (G (32 + cl v4) (cl v3))]) (rest := [.int v3, .ref (w.1 4)]) C (mX4_quotient l w cs (fun c h => hcs c (by omega)) _ G B (G 15 (cl v4)) (G (32 + cl v4) (cl v3)) _ h) (cwV 2 hta (gVw kw_144 kw_34 kw_35 kw_36 kw_32) rfl rfl rfl (by decide +kernel) ⟨Nat.le_of_ble_eq_true rfl, Nat.le_of_ble_eq_true rfl⟩) (preV hK hw 1 (hcs _ (by omega)) (by unfold isB; omega) rfl rfl _) rfl rfl hl.1 rfl (lv_room (Nat.le_of_ble_eq_true rfl)) dX0_choose_101 ⟨Nat.le_refl 0, Nat.le_refl 0⟩) (fun r101 G101 B101 H locs h hw => ?_)
            obtain ⟨h, e1, e2⟩ := h; subst e1; subst e2
            refine q_callv hw (va_runV (As := [.int v3, .int r101]) (rest := []) C (mX0_weigh l w cs (fun c h => hcs c (by omega)) _ G B v3 r101 _ h) (cwV 2 hta (gVw kw_146 kw_147 kw_148 kw_140 kw_145) rfl rfl rfl (by decide +kernel) ⟨Nat.le_of_ble_eq_true rfl, Nat.le_of_ble_eq_true rfl⟩) (preV hK hw 4 (hcs _ (by omega)) (by unfold isB; omega) rfl rfl _) rfl rfl hl.1 rfl (lv_room (Nat.le_of_ble_eq_true rfl)) dX0_choose_104 ⟨Nat.le_refl 0, Nat.le_refl 0⟩) (fun G104 B104 H locs h hw => ?_)
            obtain ⟨h, e2⟩ := h; subst e2
            refine lv_iinc (v := (v4 + (1 : Int32))) (lv' := [(4, .int (v4 + (1 : Int32))), (0, .ref (w.1 4)), (1, .int v1), (3, .int v3)]) hx hb dX0_choose_107 hl (k := 3) rfl rfl (by decide) rfl (fun ls hl => ?_)
            refine lv_goto (tgt := 31) hx hb dX0_choose_110 (by decide) ?_
            exact ih (v4 + (1 : Int32)) G104 _ _ _ h hw (lv_sub hl [1, 2, 3, 0] rfl)
set_option maxHeartbeats 4000000 in
set_option maxRecDepth 100000 in
theorem lX0_choose_17 {p : Program} {l : Launch} {e : Env} {s : State} {m : MethodId} {args : Array Value} {below : List Frame} {meth : Method} {c : Code} {Q : State → Prop} {w : WE} {cs : List Nat} {A : Nat → Prop} {H0 : Heap} (C : CallFix p m c cX0_choose 5 s args wsX0_choose RX0) (hK : KW w s) (hcs : ∀ c, c < 56 → c ∈ cs) (v1 : Int32) (B : BS) {K119 : GS → Prop} (k119 : ∀ (G : GS) (H : Heap) (locs : List Loc) (ls : Array Slot), K119 G → WO w cs A H0 G B H locs → lv_has ls 5 [] → W p l e (rmW 4) s m args below meth c H locs 0 0 Q (F0 m 119 ls [])) : ∀ (n : Nat) (v3 : Int32) (G : GS) (H : Heap) (locs : List Loc) (ls : Array Slot), wlX0_choose_17 K119 v1 n v3 G → WO w cs A H0 G B H locs → lv_has ls 5 [(0, .ref (w.1 4)), (1, .int v1), (3, .int v3)] → W p l e (rmW 4) s m args below meth c H locs 0 0 Q (F0 m 17 ls []) := by
  have hx := C.1
  have hb := C.2.1
  have hown := C.2.2.2.1
  have hta := fun w h => C.2.2.2.2 w (List.mem_cons_of_mem _ h)
  intro n
  induction n with
  | zero => intro v3 G H locs ls h hw hl; exact False.elim h
  | succ n ih =>
    intro v3 G H locs ls h hw hl
    refine lv_iload_n hx hb dX0_choose_17 rfl (lv_at hl 2 rfl) ?_
    refine lv_aload_n hx hb dX0_choose_18 rfl (lv_at hl 0 rfl) ?_
    refine q_get (v := .ref (w.1 1)) (C := RX0) (T := TX0) (N := 5) (ci := 0) hx hb hta kw_X0 hown hK hw 4 (hcs _ (by omega)) (by unfold isB; omega) rfl rfl 0 (by decide) (hta _ kw_130) rfl rfl dX0_choose_19 ?_
    refine q_getN (v := .int (G 1 2)) (host := RX5) (C := RX4) (T := TX4) (N := 5) (ci := 4) hx hb hta kw_X4 hown hK hw 1 (hcs _ (by omega)) (by unfold isB; omega) rfl rfl 2 (by decide) (by decide +kernel) rfl rfl dX0_choose_22 ?_
    refine lv_icmp_ge (tgt := 119) hx hb dX0_choose_25 (by decide) (fun c1 => ?_) (fun c1 => ?_)
    · have h := h.1 c1
      exact k119 G _ _ _ h hw (lv_sub hl [] rfl)
    · have h := h.2 c1
      refine lv_iconst (v := 0) hx hb dX0_choose_28 (by decide) ?_
      refine lv_istore (lv' := [(4, .int (0 : Int32)), (0, .ref (w.1 4)), (1, .int v1), (3, .int v3)]) hx hb dX0_choose_29 hl (by decide) rfl (fun ls hl => ?_)
      obtain ⟨n31, h⟩ := h
      refine lX0_choose_31 C hK hcs v1 v3 B (K113 := _) ?_ n31 (0 : Int32) G _ _ _ h hw (lv_sub hl [1, 2, 3, 0] rfl)
      · intro G_113 H locs ls h hw hl
        refine lv_iinc (v := (v3 + (1 : Int32))) (lv' := [(3, .int (v3 + (1 : Int32))), (0, .ref (w.1 4)), (1, .int v1)]) hx hb dX0_choose_113 hl (k := 2) rfl rfl (by decide) rfl (fun ls hl => ?_)
        refine lv_goto (tgt := 17) hx hb dX0_choose_116 (by decide) ?_
        exact ih (v3 + (1 : Int32)) G_113 _ _ _ h hw (lv_sub hl [1, 2, 0] rfl)
set_option maxHeartbeats 4000000 in
set_option maxRecDepth 100000 in
theorem mX0_choose (l : Launch) (w : WE) (cs : List Nat) (hcs : ∀ c, c < 56 → c ∈ cs) (sz : Nat) (G : GS) (B : BS) (v1 : Int32) (v2 : Int32) (P : GS → Prop) (h : wX0_choose v1 v2 G P) : Met l yX0_choose wsX0_choose (rmW 4) (PcW w cs sz G B [.ref (w.1 4), .int v1, .int v2]) (QV w cs sz (fun G1 B1 => P G1 ∧ B = B1)) 0 0 (AA w cs sz) := by
  refine metW (own := RX0) [.ref (w.1 4), .int v1, .int v2] (by decide +kernel) rfl rfl (Nat.le_of_ble_eq_true rfl) ?_
  intro p e s m below meth c ls hsz C hr hK hw hl
  subst hsz
  have hx := C.1
  have hb := C.2.1
  have hown := C.2.2.2.1
  have hta := fun w h => C.2.2.2.2 w (List.mem_cons_of_mem _ h)
  have hl : lv_has ls 5 [(0, .ref (w.1 4)), (1, .int v1), (2, .int v2)] := hl
  refine lv_aload_n hx hb dX0_choose_0 rfl (lv_at hl 0 rfl) ?_
  refine lv_iconst (v := -1) hx hb dX0_choose_1 (by decide) ?_
  refine q_put (x := (-1 : Int32)) (C := RX0) (T := TX0) (N := 5) (ci := 0) hx hb hta kw_X0 tyX0 tyX0_ok nmX0 hown hK hw 4 (hcs _ (by omega)) (by unfold isB; omega) rfl rfl 2 (by decide) (hta _ kw_141) rfl rfl rfl (Nat.le_of_ble_eq_true rfl) rfl dX0_choose_2 (fun H locs G2 eG2 hw => ?_)
  have h := h G2 eG2
  refine lv_aload_n hx hb dX0_choose_5 rfl (lv_at hl 0 rfl) ?_
  refine lv_iconst (v := 0) hx hb dX0_choose_6 (by decide) ?_
  refine q_put (x := (0 : Int32)) (C := RX0) (T := TX0) (N := 5) (ci := 0) hx hb hta kw_X0 tyX0 tyX0_ok nmX0 hown hK hw 4 (hcs _ (by omega)) (by unfold isB; omega) rfl rfl 3 (by decide) (hta _ kw_143) rfl rfl rfl (Nat.le_of_ble_eq_true rfl) rfl dX0_choose_7 (fun H locs G7 eG7 hw => ?_)
  have h := h G7 eG7
  refine lv_aload_n hx hb dX0_choose_10 rfl (lv_at hl 0 rfl) ?_
  refine lv_iload_n hx hb dX0_choose_11 rfl (lv_at hl 2 rfl) ?_
  refine q_put (x := v2) (C := RX0) (T := TX0) (N := 5) (ci := 0) hx hb hta kw_X0 tyX0 tyX0_ok nmX0 hown hK hw 4 (hcs _ (by omega)) (by unfold isB; omega) rfl rfl 4 (by decide) (hta _ kw_142) rfl rfl rfl (Nat.le_of_ble_eq_true rfl) rfl dX0_choose_12 (fun H locs G12 eG12 hw => ?_)
  have h := h G12 eG12
  refine lv_iconst (v := 0) hx hb dX0_choose_15 (by decide) ?_
  refine lv_istore_n (lv' := [(3, .int (0 : Int32)), (0, .ref (w.1 4)), (1, .int v1), (2, .int v2)]) hx hb dX0_choose_16 rfl hl (by decide) rfl (fun ls hl => ?_)
  obtain ⟨n17, h⟩ := h
  refine lX0_choose_17 C hK hcs v1 B (K119 := _) ?_ n17 (0 : Int32) G12 _ _ _ h hw (lv_sub hl [1, 2, 0] rfl)
  · intro G_119 H locs ls h hw hl
    exact q_retv hx hb hr hw ⟨h, rfl⟩ dX0_choose_119
def wlX0_takeOff_2 (K38 : GS → Prop) : Nat → Int32 → GS → Prop
  | 0, _, _ => False
  | n2 + 1, v1, G => (((G 1 1) ≤ v1 → K38 G) ∧ (¬ (G 1 1) ≤ v1 → (wX0_restWithout v1 (G 4 2) (G 4 3) G (fun r28 => (vp_in v1 6 ∧ (∀ G31 : GS, G31 = wr G 15 (cl v1) r28 → wlX0_takeOff_2 K38 n2 (v1 + (1 : Int32)) G31))))))
def wX0_takeOff (G : GS) (P : GS → Prop) : Prop := (∃ z2 : Nat, wlX0_takeOff_2 (fun G_38 => P G_38) z2 (0 : Int32) G)
set_option maxHeartbeats 4000000 in
set_option maxRecDepth 100000 in
theorem lX0_takeOff_2 {p : Program} {l : Launch} {e : Env} {s : State} {m : MethodId} {args : Array Value} {below : List Frame} {meth : Method} {c : Code} {Q : State → Prop} {w : WE} {cs : List Nat} {A : Nat → Prop} {H0 : Heap} (C : CallFix p m c cX0_takeOff 2 s args wsX0_takeOff RX0) (hK : KW w s) (hcs : ∀ c, c < 56 → c ∈ cs) (B : BS) {K38 : GS → Prop} (k38 : ∀ (G : GS) (H : Heap) (locs : List Loc) (ls : Array Slot), K38 G → WO w cs A H0 G B H locs → lv_has ls 2 [] → W p l e (rmW 3) s m args below meth c H locs 0 0 Q (F0 m 38 ls [])) : ∀ (n : Nat) (v1 : Int32) (G : GS) (H : Heap) (locs : List Loc) (ls : Array Slot), wlX0_takeOff_2 K38 n v1 G → WO w cs A H0 G B H locs → lv_has ls 2 [(0, .ref (w.1 4)), (1, .int v1)] → W p l e (rmW 3) s m args below meth c H locs 0 0 Q (F0 m 2 ls []) := by
  have hx := C.1
  have hb := C.2.1
  have hown := C.2.2.2.1
  have hta := fun w h => C.2.2.2.2 w (List.mem_cons_of_mem _ h)
  intro n
  induction n with
  | zero => intro v1 G H locs ls h hw hl; exact False.elim h
  | succ n ih =>
    intro v1 G H locs ls h hw hl
    refine lv_iload_n hx hb dX0_takeOff_2 rfl (lv_at hl 1 rfl) ?_
    refine lv_aload_n hx hb dX0_takeOff_3 rfl (lv_at hl 0 rfl) ?_
    refine q_get (v := .ref (w.1 1)) (C := RX0) (T := TX0) (N := 5) (ci := 0) hx hb hta kw_X0 hown hK hw 4 (hcs _ (by omega)) (by unfold isB; omega) rfl rfl 0 (by decide) (hta _ kw_130) rfl rfl dX0_takeOff_4 ?_
    refine q_getN (v := .int (G 1 1)) (host := RX5) (C := RX4) (T := TX4) (N := 5) (ci := 4) hx hb hta kw_X4 hown hK hw 1 (hcs _ (by omega)) (by unfold isB; omega) rfl rfl 1 (by decide) (by decide +kernel) rfl rfl dX0_takeOff_7 ?_
    refine lv_icmp_ge (tgt := 38) hx hb dX0_takeOff_10 (by decide) (fun c1 => ?_) (fun c1 => ?_)
    · have h := h.1 c1
      exact k38 G _ _ _ h hw (lv_sub hl [] rfl)
    · have h := h.2 c1
      refine lv_aload_n hx hb dX0_takeOff_13 rfl (lv_at hl 0 rfl) ?_
      refine q_get (v := .ref (w.1 15)) (C := RX0) (T := TX0) (N := 5) (ci := 0) hx hb hta kw_X0 hown hK hw 4 (hcs _ (by omega)) (by unfold isB; omega) rfl rfl 1 (by decide) (hta _ kw_131) rfl rfl dX0_takeOff_14 ?_
      refine lv_iload_n hx hb dX0_takeOff_17 rfl (lv_at hl 1 rfl) ?_
      refine lv_aload_n hx hb dX0_takeOff_18 rfl (lv_at hl 0 rfl) ?_
      refine lv_iload_n hx hb dX0_takeOff_19 rfl (lv_at hl 1 rfl) ?_
      refine lv_aload_n hx hb dX0_takeOff_20 rfl (lv_at hl 0 rfl) ?_
      refine q_get (v := .int (G 4 2)) (C := RX0) (T := TX0) (N := 5) (ci := 0) hx hb hta kw_X0 hown hK hw 4 (hcs _ (by omega)) (by unfold isB; omega) rfl rfl 2 (by decide) (hta _ kw_141) rfl rfl dX0_takeOff_21 ?_
      refine lv_aload_n hx hb dX0_takeOff_24 rfl (lv_at hl 0 rfl) ?_
      refine q_get (v := .int (G 4 3)) (C := RX0) (T := TX0) (N := 5) (ci := 0) hx hb hta kw_X0 hown hK hw 4 (hcs _ (by omega)) (by unfold isB; omega) rfl rfl 3 (by decide) (hta _ kw_143) rfl rfl dX0_takeOff_25 ?_
      refine q_calli hw (va_runV (As := [.int v1, .int (G 4 2), .int (G 4 3)]) (rest := [.int v1, .ref (w.1 15)]) C (mX0_restWithout l w cs (fun c h => hcs c (by omega)) _ G B v1 (G 4 2) (G 4 3) _ h) (cwV 3 hta (gVw kw_137 kw_138 kw_139 kw_140 kw_136) rfl rfl rfl (by decide +kernel) ⟨Nat.le_of_ble_eq_true rfl, Nat.le_of_ble_eq_true rfl⟩) (preV hK hw 4 (hcs _ (by omega)) (by unfold isB; omega) rfl rfl _) rfl rfl hl.1 rfl (lv_room (Nat.le_of_ble_eq_true rfl)) dX0_takeOff_28 ⟨Nat.le_refl 0, Nat.le_refl 0⟩) (fun r28 G28 B28 H locs h hw => ?_)
      obtain ⟨h, e1, e2⟩ := h; subst e1; subst e2
      obtain ⟨hin2, h⟩ := h
      refine q_iast (n := 6) hx hb hK hw (hcs _ (by omega)) (by unfold isI; omega) rfl hin2 dX0_takeOff_31 (fun H locs G31 eG31 hw => ?_)
      have h := h G31 eG31
      refine lv_iinc (v := (v1 + (1 : Int32))) (lv' := [(1, .int (v1 + (1 : Int32))), (0, .ref (w.1 4))]) hx hb dX0_takeOff_32 hl (k := 1) rfl rfl (by decide) rfl (fun ls hl => ?_)
      refine lv_goto (tgt := 2) hx hb dX0_takeOff_35 (by decide) ?_
      exact ih (v1 + (1 : Int32)) G31 _ _ _ h hw (lv_sub hl [1, 0] rfl)
set_option maxHeartbeats 4000000 in
set_option maxRecDepth 100000 in
theorem mX0_takeOff (l : Launch) (w : WE) (cs : List Nat) (hcs : ∀ c, c < 56 → c ∈ cs) (sz : Nat) (G : GS) (B : BS) (P : GS → Prop) (h : wX0_takeOff G P) : Met l yX0_takeOff wsX0_takeOff (rmW 3) (PcW w cs sz G B [.ref (w.1 4)]) (QV w cs sz (fun G1 B1 => P G1 ∧ B = B1)) 0 0 (AA w cs sz) := by
  refine metW (own := RX0) [.ref (w.1 4)] (by decide +kernel) rfl rfl (Nat.le_of_ble_eq_true rfl) ?_
  intro p e s m below meth c ls hsz C hr hK hw hl
  subst hsz
  have hx := C.1
  have hb := C.2.1
  have hown := C.2.2.2.1
  have hta := fun w h => C.2.2.2.2 w (List.mem_cons_of_mem _ h)
  have hl : lv_has ls 2 [(0, .ref (w.1 4))] := hl
  refine lv_iconst (v := 0) hx hb dX0_takeOff_0 (by decide) ?_
  refine lv_istore_n (lv' := [(1, .int (0 : Int32)), (0, .ref (w.1 4))]) hx hb dX0_takeOff_1 rfl hl (by decide) rfl (fun ls hl => ?_)
  obtain ⟨n2, h⟩ := h
  refine lX0_takeOff_2 C hK hcs B (K38 := _) ?_ n2 (0 : Int32) G _ _ _ h hw (lv_sub hl [1, 0] rfl)
  · intro G_38 H locs ls h hw hl
    exact q_retv hx hb hr hw ⟨h, rfl⟩ dX0_takeOff_38
def wlX0_walk_27 (K53 : Int32 → GS → Prop) (K93 : Int32 → GS → Prop) (v2 : Int32) (a3 : Nat) : Nat → Int32 → Int32 → Int32 → GS → Prop
  | 0, _, _, _, _ => False
  | n27 + 1, v4, v5, v6, G => ((v2 ≤ v6 → K93 v5 G) ∧ (¬ v2 ≤ v6 → ((v5 ≤ 0 → K93 v5 G) ∧ (¬ v5 ≤ 0 → (wX0_choose v4 v5 G (fun G43 => ((0 ≤ (G43 4 2) → (∀ x65 : Int32, x65 = (v4 ||| ((1 : Int32) <<< ((G43 4 2) &&& (31 : Int32)))) → (vp_in (G43 4 2) (ln a3) ∧ (∀ G76 : GS, G76 = wr G43 a3 (cl (G43 4 2)) (G43 4 3) → (wX0_takeOff G76 (fun G78 => (∀ x85 : Int32, x85 = (G78 4 4) → wlX0_walk_27 K53 K93 v2 a3 n27 x65 x85 (v6 + (1 : Int32)) G78))))))) ∧ (¬ 0 ≤ (G43 4 2) → K53 v5 G43))))))))
def wX0_walk (a1 : Nat) (v2 : Int32) (a3 : Nat) (G : GS) (P : Int32 → GS → Prop) : Prop := (wX5_copy a1 15 G (fun G5 => (wX5_clear a3 G5 (fun G9 => (wX5_weight 15 G9 (fun r19 => (∃ z27 : Nat, wlX0_walk_27 (fun x5_53 G_53 => P x5_53 G_53) (fun x5_93 G_93 => P x5_93 G_93) v2 a3 z27 (0 : Int32) r19 (0 : Int32) G9)))))))
set_option maxHeartbeats 4000000 in
set_option maxRecDepth 100000 in
theorem lX0_walk_27 {p : Program} {l : Launch} {e : Env} {s : State} {m : MethodId} {args : Array Value} {below : List Frame} {meth : Method} {c : Code} {Q : State → Prop} {w : WE} {cs : List Nat} {A : Nat → Prop} {H0 : Heap} (C : CallFix p m c cX0_walk 7 s args wsX0_walk RX0) (hK : KW w s) (hcs : ∀ c, c < 56 → c ∈ cs) (v2 : Int32) (a3 : Nat) (ha3I : isI a3) (ha3C : a3 ∈ cs) (B : BS) {K53 : Int32 → GS → Prop} {K93 : Int32 → GS → Prop} (k53 : ∀ (y5 : Int32) (G : GS) (H : Heap) (locs : List Loc) (ls : Array Slot), K53 y5 G → WO w cs A H0 G B H locs → lv_has ls 7 [(5, .int y5)] → W p l e (rmW 5) s m args below meth c H locs 0 0 Q (F0 m 53 ls [])) (k93 : ∀ (y5 : Int32) (G : GS) (H : Heap) (locs : List Loc) (ls : Array Slot), K93 y5 G → WO w cs A H0 G B H locs → lv_has ls 7 [(5, .int y5)] → W p l e (rmW 5) s m args below meth c H locs 0 0 Q (F0 m 93 ls [])) : ∀ (n : Nat) (v4 : Int32) (v5 : Int32) (v6 : Int32) (G : GS) (H : Heap) (locs : List Loc) (ls : Array Slot), wlX0_walk_27 K53 K93 v2 a3 n v4 v5 v6 G → WO w cs A H0 G B H locs → lv_has ls 7 [(0, .ref (w.1 4)), (2, .int v2), (3, .ref (w.1 a3)), (4, .int v4), (5, .int v5), (6, .int v6)] → W p l e (rmW 5) s m args below meth c H locs 0 0 Q (F0 m 27 ls []) := by
  have hx := C.1
  have hb := C.2.1
  have hown := C.2.2.2.1
  have hta := fun w h => C.2.2.2.2 w (List.mem_cons_of_mem _ h)
  intro n
  induction n with
  | zero => intro v4 v5 v6 G H locs ls h hw hl; exact False.elim h
  | succ n ih =>
    intro v4 v5 v6 G H locs ls h hw hl
    refine lv_iload hx hb dX0_walk_27 (lv_at hl 5 rfl) ?_
    refine lv_iload_n hx hb dX0_walk_29 rfl (lv_at hl 1 rfl) ?_
    refine lv_icmp_ge (tgt := 93) hx hb dX0_walk_30 (by decide) (fun c1 => ?_) (fun c1 => ?_)
    · have h := h.1 c1
      exact k93 v5 G _ _ _ h hw (lv_sub hl [4] rfl)
    · have h := h.2 c1
      refine lv_iload hx hb dX0_walk_33 (lv_at hl 4 rfl) ?_
      refine lv_if_le (tgt := 93) hx hb dX0_walk_35 (by decide) (fun c2 => ?_) (fun c2 => ?_)
      · have h := h.1 c2
        exact k93 v5 G _ _ _ h hw (lv_sub hl [4] rfl)
      · have h := h.2 c2
        refine lv_aload_n hx hb dX0_walk_38 rfl (lv_at hl 0 rfl) ?_
        refine lv_iload hx hb dX0_walk_39 (lv_at hl 3 rfl) ?_
        refine lv_iload hx hb dX0_walk_41 (lv_at hl 4 rfl) ?_
        refine q_callv hw (va_runV (As := [.int v4, .int v5]) (rest := []) C (mX0_choose l w cs (fun c h => hcs c (by omega)) _ G B v4 v5 _ h) (cwV 2 hta (gVw kw_152 kw_153 kw_154 kw_140 kw_151) rfl rfl rfl (by decide +kernel) ⟨Nat.le_of_ble_eq_true rfl, Nat.le_of_ble_eq_true rfl⟩) (preV hK hw 4 (hcs _ (by omega)) (by unfold isB; omega) rfl rfl _) rfl rfl hl.1 rfl (lv_room (Nat.le_of_ble_eq_true rfl)) dX0_walk_43 ⟨Nat.le_refl 0, Nat.le_refl 0⟩) (fun G43 B43 H locs h hw => ?_)
        obtain ⟨h, e2⟩ := h; subst e2
        refine lv_aload_n hx hb dX0_walk_46 rfl (lv_at hl 0 rfl) ?_
        refine q_get (v := .int (G43 4 2)) (C := RX0) (T := TX0) (N := 5) (ci := 0) hx hb hta kw_X0 hown hK hw 4 (hcs _ (by omega)) (by unfold isB; omega) rfl rfl 2 (by decide) (hta _ kw_141) rfl rfl dX0_walk_47 ?_
        refine lv_if_ge (tgt := 56) hx hb dX0_walk_50 (by decide) (fun c3 => ?_) (fun c3 => ?_)
        · have h := h.1 c3
          refine lv_iload hx hb dX0_walk_56 (lv_at hl 3 rfl) ?_
          refine lv_iconst (v := 1) hx hb dX0_walk_58 (by decide) ?_
          refine lv_aload_n hx hb dX0_walk_59 rfl (lv_at hl 0 rfl) ?_
          refine q_get (v := .int (G43 4 2)) (C := RX0) (T := TX0) (N := 5) (ci := 0) hx hb hta kw_X0 hown hK hw 4 (hcs _ (by omega)) (by unfold isB; omega) rfl rfl 2 (by decide) (hta _ kw_141) rfl rfl dX0_walk_60 ?_
          refine lv_ishl hx hb dX0_walk_63 ?_
          refine lv_ior hx hb dX0_walk_64 ?_
          refine lv_topi (fun x65 ex65 => ?_)
          have h := h x65 ex65
          refine lv_istore (lv' := [(4, .int x65), (0, .ref (w.1 4)), (2, .int v2), (3, .ref (w.1 a3)), (5, .int v5), (6, .int v6)]) hx hb dX0_walk_65 hl (by decide) rfl (fun ls hl => ?_)
          refine lv_aload_n hx hb dX0_walk_67 rfl (lv_at hl 3 rfl) ?_
          refine lv_aload_n hx hb dX0_walk_68 rfl (lv_at hl 1 rfl) ?_
          refine q_get (v := .int (G43 4 2)) (C := RX0) (T := TX0) (N := 5) (ci := 0) hx hb hta kw_X0 hown hK hw 4 (hcs _ (by omega)) (by unfold isB; omega) rfl rfl 2 (by decide) (hta _ kw_141) rfl rfl dX0_walk_69 ?_
          refine lv_aload_n hx hb dX0_walk_72 rfl (lv_at hl 1 rfl) ?_
          refine q_get (v := .int (G43 4 3)) (C := RX0) (T := TX0) (N := 5) (ci := 0) hx hb hta kw_X0 hown hK hw 4 (hcs _ (by omega)) (by unfold isB; omega) rfl rfl 3 (by decide) (hta _ kw_143) rfl rfl dX0_walk_73 ?_
          obtain ⟨hin4, h⟩ := h
          refine q_iast (n := (ln a3)) hx hb hK hw ha3C ha3I rfl hin4 dX0_walk_76 (fun H locs G76 eG76 hw => ?_)
          have h := h G76 eG76
          refine lv_aload_n hx hb dX0_walk_77 rfl (lv_at hl 1 rfl) ?_
          refine q_callv hw (va_runV (As := []) (rest := []) C (mX0_takeOff l w cs (fun c h => hcs c (by omega)) _ G76 B _ h) (cwV 0 hta (gVw kw_156 kw_157 kw_158 kw_140 kw_155) rfl rfl rfl (by decide +kernel) ⟨Nat.le_of_ble_eq_true rfl, Nat.le_of_ble_eq_true rfl⟩) (preV hK hw 4 (hcs _ (by omega)) (by unfold isB; omega) rfl rfl _) rfl rfl hl.1 rfl (lv_room (Nat.le_of_ble_eq_true rfl)) dX0_walk_78 ⟨Nat.le_refl 0, Nat.le_refl 0⟩) (fun G78 B78 H locs h hw => ?_)
          obtain ⟨h, e2⟩ := h; subst e2
          refine lv_aload_n hx hb dX0_walk_81 rfl (lv_at hl 1 rfl) ?_
          refine q_get (v := .int (G78 4 4)) (C := RX0) (T := TX0) (N := 5) (ci := 0) hx hb hta kw_X0 hown hK hw 4 (hcs _ (by omega)) (by unfold isB; omega) rfl rfl 4 (by decide) (hta _ kw_142) rfl rfl dX0_walk_82 ?_
          refine lv_topi (fun x85 ex85 => ?_)
          have h := h x85 ex85
          refine lv_istore (lv' := [(5, .int x85), (4, .int x65), (0, .ref (w.1 4)), (2, .int v2), (3, .ref (w.1 a3)), (6, .int v6)]) hx hb dX0_walk_85 hl (by decide) rfl (fun ls hl => ?_)
          refine lv_iinc (v := (v6 + (1 : Int32))) (lv' := [(6, .int (v6 + (1 : Int32))), (5, .int x85), (4, .int x65), (0, .ref (w.1 4)), (2, .int v2), (3, .ref (w.1 a3))]) hx hb dX0_walk_87 hl (k := 5) rfl rfl (by decide) rfl (fun ls hl => ?_)
          refine lv_goto (tgt := 27) hx hb dX0_walk_90 (by decide) ?_
          exact ih x65 x85 (v6 + (1 : Int32)) G78 _ _ _ h hw (lv_sub hl [3, 4, 5, 2, 1, 0] rfl)
        · have h := h.2 c3
          exact k53 v5 G43 _ _ _ h hw (lv_sub hl [4] rfl)
set_option maxHeartbeats 4000000 in
set_option maxRecDepth 100000 in
theorem mX0_walk (l : Launch) (w : WE) (cs : List Nat) (hcs : ∀ c, c < 56 → c ∈ cs) (sz : Nat) (G : GS) (B : BS) (a1 : Nat) (ha1I : isI a1) (ha1C : a1 ∈ cs) (v2 : Int32) (a3 : Nat) (ha3I : isI a3) (ha3C : a3 ∈ cs) (P : Int32 → GS → Prop) (h : wX0_walk a1 v2 a3 G P) : Met l yX0_walk wsX0_walk (rmW 5) (PcW w cs sz G B [.ref (w.1 4), .ref (w.1 a1), .int v2, .ref (w.1 a3)]) (QI w cs sz (fun r G1 B1 => P r G1 ∧ B = B1)) 0 0 (AA w cs sz) := by
  refine metW (own := RX0) [.ref (w.1 4), .ref (w.1 a1), .int v2, .ref (w.1 a3)] (by decide +kernel) rfl rfl (Nat.le_of_ble_eq_true rfl) ?_
  intro p e s m below meth c ls hsz C hr hK hw hl
  subst hsz
  have hx := C.1
  have hb := C.2.1
  have hown := C.2.2.2.1
  have hta := fun w h => C.2.2.2.2 w (List.mem_cons_of_mem _ h)
  have hl : lv_has ls 7 [(0, .ref (w.1 4)), (1, .ref (w.1 a1)), (2, .int v2), (3, .ref (w.1 a3))] := hl
  refine lv_aload_n hx hb dX0_walk_0 rfl (lv_at hl 1 rfl) ?_
  refine lv_aload_n hx hb dX0_walk_1 rfl (lv_at hl 0 rfl) ?_
  refine q_get (v := .ref (w.1 15)) (C := RX0) (T := TX0) (N := 5) (ci := 0) hx hb hta kw_X0 hown hK hw 4 (hcs _ (by omega)) (by unfold isB; omega) rfl rfl 1 (by decide) (hta _ kw_131) rfl rfl dX0_walk_2 ?_
  refine q_callv hw (va_runSN (As := [.ref (w.1 a1), .ref (w.1 15)]) (rest := []) C (mX5_copy l w cs _ G B a1 ha1I ha1C 15 (by unfold isI; omega) (hcs _ (by omega)) _ h) ⟨va_cnB 2 hta (gNw kw_123) rfl rfl rfl (hK.2 (.methodLinkNest RX0 19 yX5_copy RX5) (by decide +kernel)) (hta _ kw_30) (by decide +kernel) ⟨Nat.le_of_ble_eq_true rfl, Nat.le_of_ble_eq_true rfl⟩, hta _ kw_124, trivial⟩ (preS hK hw _) rfl rfl hl.1 rfl (lv_room (Nat.le_of_ble_eq_true rfl)) dX0_walk_5 ⟨Nat.le_refl 0, Nat.le_refl 0⟩) (fun G5 B5 H locs h hw => ?_)
  obtain ⟨h, e2⟩ := h; subst e2
  refine lv_aload_n hx hb dX0_walk_8 rfl (lv_at hl 3 rfl) ?_
  refine q_callv hw (va_runSN (As := [.ref (w.1 a3)]) (rest := []) C (mX5_clear l w cs _ G5 B a3 ha3I ha3C _ h) ⟨va_cnB 1 hta (gNw kw_29) rfl rfl rfl (hK.2 (.methodLinkNest RX0 23 yX5_clear RX5) (by decide +kernel)) (hta _ kw_30) (by decide +kernel) ⟨Nat.le_of_ble_eq_true rfl, Nat.le_of_ble_eq_true rfl⟩, hta _ kw_31, trivial⟩ (preS hK hw _) rfl rfl hl.1 rfl (lv_room (Nat.le_of_ble_eq_true rfl)) dX0_walk_9 ⟨Nat.le_refl 0, Nat.le_refl 0⟩) (fun G9 B9 H locs h hw => ?_)
  obtain ⟨h, e2⟩ := h; subst e2
  refine lv_iconst (v := 0) hx hb dX0_walk_12 (by decide) ?_
  refine lv_istore (lv' := [(4, .int (0 : Int32)), (0, .ref (w.1 4)), (1, .ref (w.1 a1)), (2, .int v2), (3, .ref (w.1 a3))]) hx hb dX0_walk_13 hl (by decide) rfl (fun ls hl => ?_)
  refine lv_aload_n hx hb dX0_walk_15 rfl (lv_at hl 1 rfl) ?_
  refine q_get (v := .ref (w.1 15)) (C := RX0) (T := TX0) (N := 5) (ci := 0) hx hb hta kw_X0 hown hK hw 4 (hcs _ (by omega)) (by unfold isB; omega) rfl rfl 1 (by decide) (hta _ kw_131) rfl rfl dX0_walk_16 ?_
  refine q_calli hw (va_runSN (As := [.ref (w.1 15)]) (rest := []) C (mX5_weight l w cs _ G9 B 15 (by unfold isI; omega) (hcs _ (by omega)) _ h) ⟨va_cnB 1 hta (gNw kw_149) rfl rfl rfl (hK.2 (.methodLinkNest RX0 27 yX5_weight RX5) (by decide +kernel)) (hta _ kw_30) (by decide +kernel) ⟨Nat.le_of_ble_eq_true rfl, Nat.le_of_ble_eq_true rfl⟩, hta _ kw_150, trivial⟩ (preS hK hw _) rfl rfl hl.1 rfl (lv_room (Nat.le_of_ble_eq_true rfl)) dX0_walk_19 ⟨Nat.le_refl 0, Nat.le_refl 0⟩) (fun r19 G19 B19 H locs h hw => ?_)
  obtain ⟨h, e1, e2⟩ := h; subst e1; subst e2
  refine lv_istore (lv' := [(5, .int r19), (4, .int (0 : Int32)), (0, .ref (w.1 4)), (1, .ref (w.1 a1)), (2, .int v2), (3, .ref (w.1 a3))]) hx hb dX0_walk_22 hl (by decide) rfl (fun ls hl => ?_)
  refine lv_iconst (v := 0) hx hb dX0_walk_24 (by decide) ?_
  refine lv_istore (lv' := [(6, .int (0 : Int32)), (5, .int r19), (4, .int (0 : Int32)), (0, .ref (w.1 4)), (1, .ref (w.1 a1)), (2, .int v2), (3, .ref (w.1 a3))]) hx hb dX0_walk_25 hl (by decide) rfl (fun ls hl => ?_)
  obtain ⟨n27, h⟩ := h
  refine lX0_walk_27 C hK hcs v2 a3 ha3I ha3C B (K53 := _) (K93 := _) ?_ ?_ n27 (0 : Int32) r19 (0 : Int32) G9 _ _ _ h hw (lv_sub hl [3, 5, 6, 2, 1, 0] rfl)
  · intro x5_53 G_53 H locs ls h hw hl
    refine lv_iload hx hb dX0_walk_53 (lv_at hl 0 rfl) ?_
    exact q_reti hx hb hr hw ⟨h, rfl⟩ dX0_walk_55
  · intro x5_93 G_93 H locs ls h hw hl
    refine lv_iload hx hb dX0_walk_93 (lv_at hl 0 rfl) ?_
    exact q_reti hx hb hr hw ⟨h, rfl⟩ dX0_walk_95
