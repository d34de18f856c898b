set_option maxHeartbeats 4000000 in
set_option maxRecDepth 100000 in
theorem mX0_init (l : Launch) (w : WE) (sz : Nat) (h0 : Nat) (t : Nat) : Met l yX0_init wsX0_init (rmC 1 1 6) (PcC w sz (h0, .inr (0, [.null, .null, .int 0, .int 0, .int 0])) [.ref h0, .ref t]) (QC (S := Nat) w sz (h0, .inr (0, [.null, .null, .int 0, .int 0, .int 0])) (fun _ => True) (fun q1 => [(h0, .inr (0, [.ref t, .ref q1, .int 0, .int 0, .int 0])), iaC w q1 6 (fun _ => 0)])) 1 6 (va_A [(h0, .inr (0, [.null, .null, .int 0, .int 0, .int 0]))] sz) := by
  refine metC (own := RX0) [.ref h0, .ref t] (by decide +kernel) rfl rfl rfl (Nat.le_of_ble_eq_true rfl) ?_
  intro p e s m below meth c ls hsz C hr hin2 hK hw hl
  subst hsz
  have hx := C.1
  have hb := C.2.1
  have hown := C.2.2.2.1
  have hta := fun w h => C.2.2.2.2 w (List.mem_cons_of_mem _ h)
  have hl : lv_has ls 2 [(0, .ref h0), (1, .ref t)] := hl
  refine lv_aload_n hx hb dX0_init_0 rfl (lv_at hl 0 rfl) ?_
  refine W.objInit hx hb hown (hta _ kw_551) (hta _ kw_549) (hta _ kw_550) rfl (hl.1.trans C.2.2.1.symm) rfl dX0_init_1 (Nat.le_of_ble_eq_true rfl) (Nat.le_of_ble_eq_true rfl) ?_
  refine W.eq (g2 := F0 m 4 ls []) rfl ?_
  refine lv_aload_n hx hb dX0_init_4 rfl (lv_at hl 0 rfl) ?_
  refine lv_bipush (v := 6) hx hb dX0_init_5 (by decide) ?_
  refine n_newI hx hb (hta _ kw_552) hK hw 6 (by decide) (by decide) (by decide) (Nat.le_of_ble_eq_true rfl) (Nat.le_of_ble_eq_true rfl) dX0_init_7 (fun q1 H hw => ?_)
  have hw : CW w ([(h0, .inr (0, [.null, .null, .int 0, .int 0, .int 0])), iaC w q1 6 (fun _ => 0)]) _ _ _ _ := hw
  refine n_putF (v := .ref q1) (ty := .array .int) (C := RX0) (T := TX0) (N := 5) (ci := 0) hx hb hta kw_X0 tyX0 tyX0_ok nmX0 hown hK hw 0 rfl rfl 1 (by decide) (hta _ kw_131) rfl rfl hin2 (by decide +kernel) rfl rfl (Nat.le_of_ble_eq_true rfl) dX0_init_9 (fun H locs hw => ?_)
  have hw : CW w ([(h0, .inr (0, [.null, .ref q1, .int 0, .int 0, .int 0])), iaC w q1 6 (fun _ => 0)]) _ _ _ _ := hw
  refine lv_aload_n hx hb dX0_init_12 rfl (lv_at hl 0 rfl) ?_
  refine lv_aload_n hx hb dX0_init_13 rfl (lv_at hl 1 rfl) ?_
  refine n_putF (v := .ref t) (ty := .object "FewThatMatter$Table") (C := RX0) (T := TX0) (N := 5) (ci := 0) hx hb hta kw_X0 tyX0 tyX0_ok nmX0 hown hK hw 0 rfl rfl 0 (by decide) (hta _ kw_130) rfl rfl hin2 (by decide +kernel) rfl rfl (Nat.le_of_ble_eq_true rfl) dX0_init_14 (fun H locs hw => ?_)
  have hw : CW w ([(h0, .inr (0, [.ref t, .ref q1, .int 0, .int 0, .int 0])), iaC w q1 6 (fun _ => 0)]) _ _ _ _ := hw
  exact n_ret (q1) hx hb hr hw rfl trivial dX0_init_17
set_option maxHeartbeats 4000000 in
set_option maxRecDepth 100000 in
theorem mX1_init (l : Launch) (w : WE) (sz : Nat) (h0 : Nat) (t t2 : Nat) : Met l yX1_init wsX1_init (rmC 1 1 12) (PcC w sz (h0, .inr (1, [.null, .null, .null])) [.ref h0, .ref t, .ref t2]) (QC (S := Nat) w sz (h0, .inr (1, [.null, .null, .null])) (fun _ => True) (fun q1 => [(h0, .inr (1, [.ref t, .ref t2, .ref q1])), iaC w q1 12 (fun _ => 0)])) 1 12 (va_A [(h0, .inr (1, [.null, .null, .null]))] sz) := by
  refine metC (own := RX1) [.ref h0, .ref t, .ref t2] (by decide +kernel) rfl rfl rfl (Nat.le_of_ble_eq_true rfl) ?_
  intro p e s m below meth c ls hsz C hr hin2 hK hw hl
  subst hsz
  have hx := C.1
  have hb := C.2.1
  have hown := C.2.2.2.1
  have hta := fun w h => C.2.2.2.2 w (List.mem_cons_of_mem _ h)
  have hl : lv_has ls 3 [(0, .ref h0), (1, .ref t), (2, .ref t2)] := hl
  refine lv_aload_n hx hb dX1_init_0 rfl (lv_at hl 0 rfl) ?_
  refine W.objInit hx hb hown (hta _ kw_553) (hta _ kw_549) (hta _ kw_550) rfl (hl.1.trans C.2.2.1.symm) rfl dX1_init_1 (Nat.le_of_ble_eq_true rfl) (Nat.le_of_ble_eq_true rfl) ?_
  refine W.eq (g2 := F0 m 4 ls []) rfl ?_
  refine lv_aload_n hx hb dX1_init_4 rfl (lv_at hl 0 rfl) ?_
  refine lv_bipush (v := 12) hx hb dX1_init_5 (by decide) ?_
  refine n_newI hx hb (hta _ kw_552) hK hw 12 (by decide) (by decide) (by decide) (Nat.le_of_ble_eq_true rfl) (Nat.le_of_ble_eq_true rfl) dX1_init_7 (fun q1 H hw => ?_)
  have hw : CW w ([(h0, .inr (1, [.null, .null, .null])), iaC w q1 12 (fun _ => 0)]) _ _ _ _ := hw
  refine n_putF (v := .ref q1) (ty := .array .int) (C := RX1) (T := TX1) (N := 3) (ci := 1) hx hb hta kw_X1 tyX1 tyX1_ok nmX1 hown hK hw 0 rfl rfl 2 (by decide) (hta _ kw_122) rfl rfl hin2 (by decide +kernel) rfl rfl (Nat.le_of_ble_eq_true rfl) dX1_init_9 (fun H locs hw => ?_)
  have hw : CW w ([(h0, .inr (1, [.null, .null, .ref q1])), iaC w q1 12 (fun _ => 0)]) _ _ _ _ := hw
  refine lv_aload_n hx hb dX1_init_12 rfl (lv_at hl 0 rfl) ?_
  refine lv_aload_n hx hb dX1_init_13 rfl (lv_at hl 1 rfl) ?_
  refine n_putF (v := .ref t) (ty := .object "FewThatMatter$Table") (C := RX1) (T := TX1) (N := 3) (ci := 1) hx hb hta kw_X1 tyX1 tyX1_ok nmX1 hown hK hw 0 rfl rfl 0 (by decide) (hta _ kw_112) rfl rfl hin2 (by decide +kernel) rfl rfl (Nat.le_of_ble_eq_true rfl) dX1_init_14 (fun H locs hw => ?_)
  have hw : CW w ([(h0, .inr (1, [.ref t, .null, .ref q1])), iaC w q1 12 (fun _ => 0)]) _ _ _ _ := hw
  refine lv_aload_n hx hb dX1_init_17 rfl (lv_at hl 0 rfl) ?_
  refine lv_aload_n hx hb dX1_init_18 rfl (lv_at hl 2 rfl) ?_
  refine n_putF (v := .ref t2) (ty := .object "FewThatMatter$Sets") (C := RX1) (T := TX1) (N := 3) (ci := 1) hx hb hta kw_X1 tyX1 tyX1_ok nmX1 hown hK hw 0 rfl rfl 1 (by decide) (hta _ kw_117) rfl rfl hin2 (by decide +kernel) rfl rfl (Nat.le_of_ble_eq_true rfl) dX1_init_19 (fun H locs hw => ?_)
  have hw : CW w ([(h0, .inr (1, [.ref t, .ref t2, .ref q1])), iaC w q1 12 (fun _ => 0)]) _ _ _ _ := hw
  exact n_ret (q1) hx hb hr hw rfl trivial dX1_init_22
def setL (w : WE) (h0 t q1 q2 q3 q4 : Nat) : va_W := [(h0, .inr (2, [.ref t, .ref q1, .ref q2, .ref q3, .ref q4, .int 0, .int 0, .int 0, .int 0, .int 0, .int 0])), outC w q1 7, iaC w (q1 + 1 + 0) 78 (fun _ => 0), iaC w (q1 + 1 + 1) 78 (fun _ => 0), iaC w (q1 + 1 + 2) 78 (fun _ => 0), iaC w (q1 + 1 + 3) 78 (fun _ => 0), iaC w (q1 + 1 + 4) 78 (fun _ => 0), iaC w (q1 + 1 + 5) 78 (fun _ => 0), iaC w (q1 + 1 + 6) 78 (fun _ => 0), iaC w q2 7 (fun _ => 0), iaC w q3 7 (fun _ => 0), iaC w q4 12 (fun _ => 0)]
set_option maxHeartbeats 4000000 in
set_option maxRecDepth 100000 in
theorem mX2_init (l : Launch) (w : WE) (sz : Nat) (h0 : Nat) (t : Nat) : Met l yX2_init wsX2_init (rmC 1 11 579) (PcC w sz (h0, .inr (2, [.null, .null, .null, .null, .null, .int 0, .int 0, .int 0, .int 0, .int 0, .int 0])) [.ref h0, .ref t]) (QC (S := Nat × Nat × Nat × Nat) w sz (h0, .inr (2, [.null, .null, .null, .null, .null, .int 0, .int 0, .int 0, .int 0, .int 0, .int 0])) (fun _ => True) (fun u => setL w h0 t u.1 u.2.1 u.2.2.1 u.2.2.2)) 11 579 (va_A [(h0, .inr (2, [.null, .null, .null, .null, .null, .int 0, .int 0, .int 0, .int 0, .int 0, .int 0]))] sz) := by
  refine metC (own := RX2) [.ref h0, .ref t] (by decide +kernel) rfl rfl rfl (Nat.le_of_ble_eq_true rfl) ?_
  intro p e s m below meth c ls hsz C hr hin2 hK hw hl
  subst hsz
  have hx := C.1
  have hb := C.2.1
  have hown := C.2.2.2.1
  have hta := fun w h => C.2.2.2.2 w (List.mem_cons_of_mem _ h)
  have hl : lv_has ls 2 [(0, .ref h0), (1, .ref t)] := hl
  refine lv_aload_n hx hb dX2_init_0 rfl (lv_at hl 0 rfl) ?_
  refine W.objInit hx hb hown (hta _ kw_554) (hta _ kw_549) (hta _ kw_550) rfl (hl.1.trans C.2.2.1.symm) rfl dX2_init_1 (Nat.le_of_ble_eq_true rfl) (Nat.le_of_ble_eq_true rfl) ?_
  refine W.eq (g2 := F0 m 4 ls []) rfl ?_
  refine lv_aload_n hx hb dX2_init_4 rfl (lv_at hl 0 rfl) ?_
  refine lv_bipush (v := 7) hx hb dX2_init_5 (by decide) ?_
  refine lv_bipush (v := 78) hx hb dX2_init_7 (by decide) ?_
  refine n_mna hx hb hown (hta _ kw_555) (hta _ kw_552) hK hw 7 78 (by decide) (by decide) (by decide) (by decide) (by decide) (by decide) (by decide) (Nat.le_of_ble_eq_true rfl) (Nat.le_of_ble_eq_true rfl) dX2_init_9 (fun q1 H hw => ?_)
  have hw : CW w ([(h0, .inr (2, [.null, .null, .null, .null, .null, .int 0, .int 0, .int 0, .int 0, .int 0, .int 0])), outC w q1 7, iaC w (q1 + 1 + 0) 78 (fun _ => 0), iaC w (q1 + 1 + 1) 78 (fun _ => 0), iaC w (q1 + 1 + 2) 78 (fun _ => 0), iaC w (q1 + 1 + 3) 78 (fun _ => 0), iaC w (q1 + 1 + 4) 78 (fun _ => 0), iaC w (q1 + 1 + 5) 78 (fun _ => 0), iaC w (q1 + 1 + 6) 78 (fun _ => 0)]) _ _ _ _ := hw
  refine n_putF (v := .ref q1) (ty := .array (.array .int)) (C := RX2) (T := TX2) (N := 11) (ci := 2) hx hb hta kw_X2 tyX2 tyX2_ok nmX2 hown hK hw 0 rfl rfl 1 (by decide) (hta _ kw_51) rfl rfl hin2 (by decide +kernel) rfl rfl (Nat.le_of_ble_eq_true rfl) dX2_init_13 (fun H locs hw => ?_)
  have hw : CW w ([(h0, .inr (2, [.null, .ref q1, .null, .null, .null, .int 0, .int 0, .int 0, .int 0, .int 0, .int 0])), outC w q1 7, iaC w (q1 + 1 + 0) 78 (fun _ => 0), iaC w (q1 + 1 + 1) 78 (fun _ => 0), iaC w (q1 + 1 + 2) 78 (fun _ => 0), iaC w (q1 + 1 + 3) 78 (fun _ => 0), iaC w (q1 + 1 + 4) 78 (fun _ => 0), iaC w (q1 + 1 + 5) 78 (fun _ => 0), iaC w (q1 + 1 + 6) 78 (fun _ => 0)]) _ _ _ _ := hw
  refine lv_aload_n hx hb dX2_init_16 rfl (lv_at hl 0 rfl) ?_
  refine lv_bipush (v := 7) hx hb dX2_init_17 (by decide) ?_
  refine n_newI hx hb (hta _ kw_552) hK hw 7 (by decide) (by decide) (by decide) (Nat.le_of_ble_eq_true rfl) (Nat.le_of_ble_eq_true rfl) dX2_init_19 (fun q2 H hw => ?_)
  have hw : CW w ([(h0, .inr (2, [.null, .ref q1, .null, .null, .null, .int 0, .int 0, .int 0, .int 0, .int 0, .int 0])), outC w q1 7, iaC w (q1 + 1 + 0) 78 (fun _ => 0), iaC w (q1 + 1 + 1) 78 (fun _ => 0), iaC w (q1 + 1 + 2) 78 (fun _ => 0), iaC w (q1 + 1 + 3) 78 (fun _ => 0), iaC w (q1 + 1 + 4) 78 (fun _ => 0), iaC w (q1 + 1 + 5) 78 (fun _ => 0), iaC w (q1 + 1 + 6) 78 (fun _ => 0), iaC w q2 7 (fun _ => 0)]) _ _ _ _ := hw
  refine n_putF (v := .ref q2) (ty := .array .int) (C := RX2) (T := TX2) (N := 11) (ci := 2) hx hb hta kw_X2 tyX2 tyX2_ok nmX2 hown hK hw 0 rfl rfl 2 (by decide) (hta _ kw_60) rfl rfl hin2 (by decide +kernel) rfl rfl (Nat.le_of_ble_eq_true rfl) dX2_init_21 (fun H locs hw => ?_)
  have hw : CW w ([(h0, .inr (2, [.null, .ref q1, .ref q2, .null, .null, .int 0, .int 0, .int 0, .int 0, .int 0, .int 0])), outC w q1 7, iaC w (q1 + 1 + 0) 78 (fun _ => 0), iaC w (q1 + 1 + 1) 78 (fun _ => 0), iaC w (q1 + 1 + 2) 78 (fun _ => 0), iaC w (q1 + 1 + 3) 78 (fun _ => 0), iaC w (q1 + 1 + 4) 78 (fun _ => 0), iaC w (q1 + 1 + 5) 78 (fun _ => 0), iaC w (q1 + 1 + 6) 78 (fun _ => 0), iaC w q2 7 (fun _ => 0)]) _ _ _ _ := hw
  refine lv_aload_n hx hb dX2_init_24 rfl (lv_at hl 0 rfl) ?_
  refine lv_bipush (v := 7) hx hb dX2_init_25 (by decide) ?_
  refine n_newI hx hb (hta _ kw_552) hK hw 7 (by decide) (by decide) (by decide) (Nat.le_of_ble_eq_true rfl) (Nat.le_of_ble_eq_true rfl) dX2_init_27 (fun q3 H hw => ?_)
  have hw : CW w ([(h0, .inr (2, [.null, .ref q1, .ref q2, .null, .null, .int 0, .int 0, .int 0, .int 0, .int 0, .int 0])), outC w q1 7, iaC w (q1 + 1 + 0) 78 (fun _ => 0), iaC w (q1 + 1 + 1) 78 (fun _ => 0), iaC w (q1 + 1 + 2) 78 (fun _ => 0), iaC w (q1 + 1 + 3) 78 (fun _ => 0), iaC w (q1 + 1 + 4) 78 (fun _ => 0), iaC w (q1 + 1 + 5) 78 (fun _ => 0), iaC w (q1 + 1 + 6) 78 (fun _ => 0), iaC w q2 7 (fun _ => 0), iaC w q3 7 (fun _ => 0)]) _ _ _ _ := hw
  refine n_putF (v := .ref q3) (ty := .array .int) (C := RX2) (T := TX2) (N := 11) (ci := 2) hx hb hta kw_X2 tyX2 tyX2_ok nmX2 hown hK hw 0 rfl rfl 3 (by decide) (hta _ kw_57) rfl rfl hin2 (by decide +kernel) rfl rfl (Nat.le_of_ble_eq_true rfl) dX2_init_29 (fun H locs hw => ?_)
  have hw : CW w ([(h0, .inr (2, [.null, .ref q1, .ref q2, .ref q3, .null, .int 0, .int 0, .int 0, .int 0, .int 0, .int 0])), outC w q1 7, iaC w (q1 + 1 + 0) 78 (fun _ => 0), iaC w (q1 + 1 + 1) 78 (fun _ => 0), iaC w (q1 + 1 + 2) 78 (fun _ => 0), iaC w (q1 + 1 + 3) 78 (fun _ => 0), iaC w (q1 + 1 + 4) 78 (fun _ => 0), iaC w (q1 + 1 + 5) 78 (fun _ => 0), iaC w (q1 + 1 + 6) 78 (fun _ => 0), iaC w q2 7 (fun _ => 0), iaC w q3 7 (fun _ => 0)]) _ _ _ _ := hw
  refine lv_aload_n hx hb dX2_init_32 rfl (lv_at hl 0 rfl) ?_
  refine lv_bipush (v := 12) hx hb dX2_init_33 (by decide) ?_
  refine n_newI hx hb (hta _ kw_552) hK hw 12 (by decide) (by decide) (by decide) (Nat.le_of_ble_eq_true rfl) (Nat.le_of_ble_eq_true rfl) dX2_init_35 (fun q4 H hw => ?_)
  have hw : CW w ([(h0, .inr (2, [.null, .ref q1, .ref q2, .ref q3, .null, .int 0, .int 0, .int 0, .int 0, .int 0, .int 0])), outC w q1 7, iaC w (q1 + 1 + 0) 78 (fun _ => 0), iaC w (q1 + 1 + 1) 78 (fun _ => 0), iaC w (q1 + 1 + 2) 78 (fun _ => 0), iaC w (q1 + 1 + 3) 78 (fun _ => 0), iaC w (q1 + 1 + 4) 78 (fun _ => 0), iaC w (q1 + 1 + 5) 78 (fun _ => 0), iaC w (q1 + 1 + 6) 78 (fun _ => 0), iaC w q2 7 (fun _ => 0), iaC w q3 7 (fun _ => 0), iaC w q4 12 (fun _ => 0)]) _ _ _ _ := hw
  refine n_putF (v := .ref q4) (ty := .array .int) (C := RX2) (T := TX2) (N := 11) (ci := 2) hx hb hta kw_X2 tyX2 tyX2_ok nmX2 hown hK hw 0 rfl rfl 4 (by decide) (hta _ kw_59) rfl rfl hin2 (by decide +kernel) rfl rfl (Nat.le_of_ble_eq_true rfl) dX2_init_37 (fun H locs hw => ?_)
  have hw : CW w ([(h0, .inr (2, [.null, .ref q1, .ref q2, .ref q3, .ref q4, .int 0, .int 0, .int 0, .int 0, .int 0, .int 0])), outC w q1 7, iaC w (q1 + 1 + 0) 78 (fun _ => 0), iaC w (q1 + 1 + 1) 78 (fun _ => 0), iaC w (q1 + 1 + 2) 78 (fun _ => 0), iaC w (q1 + 1 + 3) 78 (fun _ => 0), iaC w (q1 + 1 + 4) 78 (fun _ => 0), iaC w (q1 + 1 + 5) 78 (fun _ => 0), iaC w (q1 + 1 + 6) 78 (fun _ => 0), iaC w q2 7 (fun _ => 0), iaC w q3 7 (fun _ => 0), iaC w q4 12 (fun _ => 0)]) _ _ _ _ := hw
  refine lv_aload_n hx hb dX2_init_40 rfl (lv_at hl 0 rfl) ?_
  refine lv_aload_n hx hb dX2_init_41 rfl (lv_at hl 1 rfl) ?_
  refine n_putF (v := .ref t) (ty := .object "FewThatMatter$Table") (C := RX2) (T := TX2) (N := 11) (ci := 2) hx hb hta kw_X2 tyX2 tyX2_ok nmX2 hown hK hw 0 rfl rfl 0 (by decide) (hta _ kw_50) rfl rfl hin2 (by decide +kernel) rfl rfl (Nat.le_of_ble_eq_true rfl) dX2_init_42 (fun H locs hw => ?_)
  have hw : CW w ([(h0, .inr (2, [.ref t, .ref q1, .ref q2, .ref q3, .ref q4, .int 0, .int 0, .int 0, .int 0, .int 0, .int 0])), outC w q1 7, iaC w (q1 + 1 + 0) 78 (fun _ => 0), iaC w (q1 + 1 + 1) 78 (fun _ => 0), iaC w (q1 + 1 + 2) 78 (fun _ => 0), iaC w (q1 + 1 + 3) 78 (fun _ => 0), iaC w (q1 + 1 + 4) 78 (fun _ => 0), iaC w (q1 + 1 + 5) 78 (fun _ => 0), iaC w (q1 + 1 + 6) 78 (fun _ => 0), iaC w q2 7 (fun _ => 0), iaC w q3 7 (fun _ => 0), iaC w q4 12 (fun _ => 0)]) _ _ _ _ := hw
  exact n_ret ((q1, q2, q3, q4)) hx hb hr hw rfl trivial dX2_init_45
def modL (w : WE) (h0 : Nat) (u : Nat → Nat) : va_W := [(h0, .inr (6, [.int 11, .int 1, .int 1, .ref (u 0), .ref (u 1), .ref (u 2), .int 1, .int 2, .int 0, .ref (u 3), .int 0, .ref (u 4), .ref (u 5), .ref (u 6), .ref (u 7), .ref (u 8), .ref (u 9)])), iaC w (u 0) 72 (fun _ => 0), iaC w (u 1) 72 (fun _ => 0), iaC w (u 2) 36 (fun _ => 0), laC w (u 3) 768 (fun _ => 0), iaC w (u 4) 100 (fun _ => 0), iaC w (u 5) 100 (fun _ => 0), iaC w (u 6) 78 (fun _ => 0), iaC w (u 7) 12 (fun _ => 0), iaC w (u 8) 12 (fun _ => 0), iaC w (u 9) 6 (fun _ => 0)]
set_option maxHeartbeats 4000000 in
set_option maxRecDepth 100000 in
theorem mX6_init (l : Launch) (w : WE) (sz : Nat) (h0 : Nat) : Met l yX6_init wsX6_init (rmC 1 10 1256) (PcC w sz (h0, .inr (6, [.int 0, .int 0, .int 0, .null, .null, .null, .int 0, .int 0, .int 0, .null, .int 0, .null, .null, .null, .null, .null, .null])) [.ref h0]) (QC (S := Nat → Nat) w sz (h0, .inr (6, [.int 0, .int 0, .int 0, .null, .null, .null, .int 0, .int 0, .int 0, .null, .int 0, .null, .null, .null, .null, .null, .null])) (fun _ => True) (fun u => modL w h0 u)) 10 1256 (va_A [(h0, .inr (6, [.int 0, .int 0, .int 0, .null, .null, .null, .int 0, .int 0, .int 0, .null, .int 0, .null, .null, .null, .null, .null, .null]))] sz) := by
  refine metC (own := RX6) [.ref h0] (by decide +kernel) rfl rfl rfl (Nat.le_of_ble_eq_true rfl) ?_
  intro p e s m below meth c ls hsz C hr hin2 hK hw hl
  subst hsz
  have hx := C.1
  have hb := C.2.1
  have hown := C.2.2.2.1
  have hta := fun w h => C.2.2.2.2 w (List.mem_cons_of_mem _ h)
  have hl : lv_has ls 1 [(0, .ref h0)] := hl
  refine lv_aload_n hx hb dX6_init_0 rfl (lv_at hl 0 rfl) ?_
  refine W.objInit hx hb hown (hta _ kw_556) (hta _ kw_549) (hta _ kw_550) rfl (hl.1.trans C.2.2.1.symm) rfl dX6_init_1 (Nat.le_of_ble_eq_true rfl) (Nat.le_of_ble_eq_true rfl) ?_
  refine W.eq (g2 := F0 m 4 ls []) rfl ?_
  refine lv_aload_n hx hb dX6_init_4 rfl (lv_at hl 0 rfl) ?_
  refine lv_bipush (v := 11) hx hb dX6_init_5 (by decide) ?_
  refine n_put (v := .int 11) (ty := .int) (C := RX6) (T := TX6) (N := 17) (ci := 6) hx hb hta kw_X6 tyX6 tyX6_ok nmX6 hown hK hw 0 rfl rfl 0 (by decide) (hta _ kw_278) rfl rfl (by decide +kernel) rfl rfl (Nat.le_of_ble_eq_true rfl) dX6_init_7 (fun H locs hw => ?_)
  have hw : CW w ([(h0, .inr (6, [.int 11, .int 0, .int 0, .null, .null, .null, .int 0, .int 0, .int 0, .null, .int 0, .null, .null, .null, .null, .null, .null]))]) _ _ _ _ := hw
  refine lv_aload_n hx hb dX6_init_10 rfl (lv_at hl 0 rfl) ?_
  refine lv_iconst (v := 1) hx hb dX6_init_11 (by decide) ?_
  refine n_put (v := .int 1) (ty := .int) (C := RX6) (T := TX6) (N := 17) (ci := 6) hx hb hta kw_X6 tyX6 tyX6_ok nmX6 hown hK hw 0 rfl rfl 1 (by decide) (hta _ kw_284) rfl rfl (by decide +kernel) rfl rfl (Nat.le_of_ble_eq_true rfl) dX6_init_12 (fun H locs hw => ?_)
  have hw : CW w ([(h0, .inr (6, [.int 11, .int 1, .int 0, .null, .null, .null, .int 0, .int 0, .int 0, .null, .int 0, .null, .null, .null, .null, .null, .null]))]) _ _ _ _ := hw
  refine lv_aload_n hx hb dX6_init_15 rfl (lv_at hl 0 rfl) ?_
  refine lv_iconst (v := 1) hx hb dX6_init_16 (by decide) ?_
  refine n_put (v := .int 1) (ty := .int) (C := RX6) (T := TX6) (N := 17) (ci := 6) hx hb hta kw_X6 tyX6 tyX6_ok nmX6 hown hK hw 0 rfl rfl 2 (by decide) (hta _ kw_285) rfl rfl (by decide +kernel) rfl rfl (Nat.le_of_ble_eq_true rfl) dX6_init_17 (fun H locs hw => ?_)
  have hw : CW w ([(h0, .inr (6, [.int 11, .int 1, .int 1, .null, .null, .null, .int 0, .int 0, .int 0, .null, .int 0, .null, .null, .null, .null, .null, .null]))]) _ _ _ _ := hw
  refine lv_aload_n hx hb dX6_init_20 rfl (lv_at hl 0 rfl) ?_
  refine lv_bipush (v := 72) hx hb dX6_init_21 (by decide) ?_
  refine n_newI hx hb (hta _ kw_552) hK hw 72 (by decide) (by decide) (by decide) (Nat.le_of_ble_eq_true rfl) (Nat.le_of_ble_eq_true rfl) dX6_init_23 (fun q1 H hw => ?_)
  have hw : CW w ([(h0, .inr (6, [.int 11, .int 1, .int 1, .null, .null, .null, .int 0, .int 0, .int 0, .null, .int 0, .null, .null, .null, .null, .null, .null])), iaC w q1 72 (fun _ => 0)]) _ _ _ _ := hw
  refine n_putF (v := .ref q1) (ty := .array .int) (C := RX6) (T := TX6) (N := 17) (ci := 6) hx hb hta kw_X6 tyX6 tyX6_ok nmX6 hown hK hw 0 rfl rfl 3 (by decide) (hta _ kw_286) rfl rfl hin2 (by decide +kernel) rfl rfl (Nat.le_of_ble_eq_true rfl) dX6_init_25 (fun H locs hw => ?_)
  have hw : CW w ([(h0, .inr (6, [.int 11, .int 1, .int 1, .ref q1, .null, .null, .int 0, .int 0, .int 0, .null, .int 0, .null, .null, .null, .null, .null, .null])), iaC w q1 72 (fun _ => 0)]) _ _ _ _ := hw
  refine lv_aload_n hx hb dX6_init_28 rfl (lv_at hl 0 rfl) ?_
  refine lv_bipush (v := 72) hx hb dX6_init_29 (by decide) ?_
  refine n_newI hx hb (hta _ kw_552) hK hw 72 (by decide) (by decide) (by decide) (Nat.le_of_ble_eq_true rfl) (Nat.le_of_ble_eq_true rfl) dX6_init_31 (fun q2 H hw => ?_)
  have hw : CW w ([(h0, .inr (6, [.int 11, .int 1, .int 1, .ref q1, .null, .null, .int 0, .int 0, .int 0, .null, .int 0, .null, .null, .null, .null, .null, .null])), iaC w q1 72 (fun _ => 0), iaC w q2 72 (fun _ => 0)]) _ _ _ _ := hw
  refine n_putF (v := .ref q2) (ty := .array .int) (C := RX6) (T := TX6) (N := 17) (ci := 6) hx hb hta kw_X6 tyX6 tyX6_ok nmX6 hown hK hw 0 rfl rfl 4 (by decide) (hta _ kw_287) rfl rfl hin2 (by decide +kernel) rfl rfl (Nat.le_of_ble_eq_true rfl) dX6_init_33 (fun H locs hw => ?_)
  have hw : CW w ([(h0, .inr (6, [.int 11, .int 1, .int 1, .ref q1, .ref q2, .null, .int 0, .int 0, .int 0, .null, .int 0, .null, .null, .null, .null, .null, .null])), iaC w q1 72 (fun _ => 0), iaC w q2 72 (fun _ => 0)]) _ _ _ _ := hw
  refine lv_aload_n hx hb dX6_init_36 rfl (lv_at hl 0 rfl) ?_
  refine lv_bipush (v := 36) hx hb dX6_init_37 (by decide) ?_
  refine n_newI hx hb (hta _ kw_552) hK hw 36 (by decide) (by decide) (by decide) (Nat.le_of_ble_eq_true rfl) (Nat.le_of_ble_eq_true rfl) dX6_init_39 (fun q3 H hw => ?_)
  have hw : CW w ([(h0, .inr (6, [.int 11, .int 1, .int 1, .ref q1, .ref q2, .null, .int 0, .int 0, .int 0, .null, .int 0, .null, .null, .null, .null, .null, .null])), iaC w q1 72 (fun _ => 0), iaC w q2 72 (fun _ => 0), iaC w q3 36 (fun _ => 0)]) _ _ _ _ := hw
  refine n_putF (v := .ref q3) (ty := .array .int) (C := RX6) (T := TX6) (N := 17) (ci := 6) hx hb hta kw_X6 tyX6 tyX6_ok nmX6 hown hK hw 0 rfl rfl 5 (by decide) (hta _ kw_288) rfl rfl hin2 (by decide +kernel) rfl rfl (Nat.le_of_ble_eq_true rfl) dX6_init_41 (fun H locs hw => ?_)
  have hw : CW w ([(h0, .inr (6, [.int 11, .int 1, .int 1, .ref q1, .ref q2, .ref q3, .int 0, .int 0, .int 0, .null, .int 0, .null, .null, .null, .null, .null, .null])), iaC w q1 72 (fun _ => 0), iaC w q2 72 (fun _ => 0), iaC w q3 36 (fun _ => 0)]) _ _ _ _ := hw
  refine lv_aload_n hx hb dX6_init_44 rfl (lv_at hl 0 rfl) ?_
  refine lv_iconst (v := 1) hx hb dX6_init_45 (by decide) ?_
  refine n_put (v := .int 1) (ty := .int) (C := RX6) (T := TX6) (N := 17) (ci := 6) hx hb hta kw_X6 tyX6 tyX6_ok nmX6 hown hK hw 0 rfl rfl 6 (by decide) (hta _ kw_368) rfl rfl (by decide +kernel) rfl rfl (Nat.le_of_ble_eq_true rfl) dX6_init_46 (fun H locs hw => ?_)
  have hw : CW w ([(h0, .inr (6, [.int 11, .int 1, .int 1, .ref q1, .ref q2, .ref q3, .int 1, .int 0, .int 0, .null, .int 0, .null, .null, .null, .null, .null, .null])), iaC w q1 72 (fun _ => 0), iaC w q2 72 (fun _ => 0), iaC w q3 36 (fun _ => 0)]) _ _ _ _ := hw
  refine lv_aload_n hx hb dX6_init_49 rfl (lv_at hl 0 rfl) ?_
  refine lv_iconst (v := 2) hx hb dX6_init_50 (by decide) ?_
  refine n_put (v := .int 2) (ty := .int) (C := RX6) (T := TX6) (N := 17) (ci := 6) hx hb hta kw_X6 tyX6 tyX6_ok nmX6 hown hK hw 0 rfl rfl 7 (by decide) (hta _ kw_369) rfl rfl (by decide +kernel) rfl rfl (Nat.le_of_ble_eq_true rfl) dX6_init_51 (fun H locs hw => ?_)
  have hw : CW w ([(h0, .inr (6, [.int 11, .int 1, .int 1, .ref q1, .ref q2, .ref q3, .int 1, .int 2, .int 0, .null, .int 0, .null, .null, .null, .null, .null, .null])), iaC w q1 72 (fun _ => 0), iaC w q2 72 (fun _ => 0), iaC w q3 36 (fun _ => 0)]) _ _ _ _ := hw
  refine lv_aload_n hx hb dX6_init_54 rfl (lv_at hl 0 rfl) ?_
  refine lv_sipush (v := 768) hx hb dX6_init_55 (by decide) ?_
  refine n_newJ hx hb (hta _ kw_557) hK hw 768 (by decide) (by decide) (by decide) (Nat.le_of_ble_eq_true rfl) (Nat.le_of_ble_eq_true rfl) dX6_init_58 (fun q4 H hw => ?_)
  have hw : CW w ([(h0, .inr (6, [.int 11, .int 1, .int 1, .ref q1, .ref q2, .ref q3, .int 1, .int 2, .int 0, .null, .int 0, .null, .null, .null, .null, .null, .null])), iaC w q1 72 (fun _ => 0), iaC w q2 72 (fun _ => 0), iaC w q3 36 (fun _ => 0), laC w q4 768 (fun _ => 0)]) _ _ _ _ := hw
  refine n_putF (v := .ref q4) (ty := .array .long) (C := RX6) (T := TX6) (N := 17) (ci := 6) hx hb hta kw_X6 tyX6 tyX6_ok nmX6 hown hK hw 0 rfl rfl 9 (by decide) (hta _ kw_372) rfl rfl hin2 (by decide +kernel) rfl rfl (Nat.le_of_ble_eq_true rfl) dX6_init_60 (fun H locs hw => ?_)
  have hw : CW w ([(h0, .inr (6, [.int 11, .int 1, .int 1, .ref q1, .ref q2, .ref q3, .int 1, .int 2, .int 0, .ref q4, .int 0, .null, .null, .null, .null, .null, .null])), iaC w q1 72 (fun _ => 0), iaC w q2 72 (fun _ => 0), iaC w q3 36 (fun _ => 0), laC w q4 768 (fun _ => 0)]) _ _ _ _ := hw
  refine lv_aload_n hx hb dX6_init_63 rfl (lv_at hl 0 rfl) ?_
  refine lv_bipush (v := 100) hx hb dX6_init_64 (by decide) ?_
  refine n_newI hx hb (hta _ kw_552) hK hw 100 (by decide) (by decide) (by decide) (Nat.le_of_ble_eq_true rfl) (Nat.le_of_ble_eq_true rfl) dX6_init_66 (fun q5 H hw => ?_)
  have hw : CW w ([(h0, .inr (6, [.int 11, .int 1, .int 1, .ref q1, .ref q2, .ref q3, .int 1, .int 2, .int 0, .ref q4, .int 0, .null, .null, .null, .null, .null, .null])), iaC w q1 72 (fun _ => 0), iaC w q2 72 (fun _ => 0), iaC w q3 36 (fun _ => 0), laC w q4 768 (fun _ => 0), iaC w q5 100 (fun _ => 0)]) _ _ _ _ := hw
  refine n_putF (v := .ref q5) (ty := .array .int) (C := RX6) (T := TX6) (N := 17) (ci := 6) hx hb hta kw_X6 tyX6 tyX6_ok nmX6 hown hK hw 0 rfl rfl 11 (by decide) (hta _ kw_392) rfl rfl hin2 (by decide +kernel) rfl rfl (Nat.le_of_ble_eq_true rfl) dX6_init_68 (fun H locs hw => ?_)
  have hw : CW w ([(h0, .inr (6, [.int 11, .int 1, .int 1, .ref q1, .ref q2, .ref q3, .int 1, .int 2, .int 0, .ref q4, .int 0, .ref q5, .null, .null, .null, .null, .null])), iaC w q1 72 (fun _ => 0), iaC w q2 72 (fun _ => 0), iaC w q3 36 (fun _ => 0), laC w q4 768 (fun _ => 0), iaC w q5 100 (fun _ => 0)]) _ _ _ _ := hw
  refine lv_aload_n hx hb dX6_init_71 rfl (lv_at hl 0 rfl) ?_
  refine lv_bipush (v := 100) hx hb dX6_init_72 (by decide) ?_
  refine n_newI hx hb (hta _ kw_552) hK hw 100 (by decide) (by decide) (by decide) (Nat.le_of_ble_eq_true rfl) (Nat.le_of_ble_eq_true rfl) dX6_init_74 (fun q6 H hw => ?_)
  have hw : CW w ([(h0, .inr (6, [.int 11, .int 1, .int 1, .ref q1, .ref q2, .ref q3, .int 1, .int 2, .int 0, .ref q4, .int 0, .ref q5, .null, .null, .null, .null, .null])), iaC w q1 72 (fun _ => 0), iaC w q2 72 (fun _ => 0), iaC w q3 36 (fun _ => 0), laC w q4 768 (fun _ => 0), iaC w q5 100 (fun _ => 0), iaC w q6 100 (fun _ => 0)]) _ _ _ _ := hw
  refine n_putF (v := .ref q6) (ty := .array .int) (C := RX6) (T := TX6) (N := 17) (ci := 6) hx hb hta kw_X6 tyX6 tyX6_ok nmX6 hown hK hw 0 rfl rfl 12 (by decide) (hta _ kw_393) rfl rfl hin2 (by decide +kernel) rfl rfl (Nat.le_of_ble_eq_true rfl) dX6_init_76 (fun H locs hw => ?_)
  have hw : CW w ([(h0, .inr (6, [.int 11, .int 1, .int 1, .ref q1, .ref q2, .ref q3, .int 1, .int 2, .int 0, .ref q4, .int 0, .ref q5, .ref q6, .null, .null, .null, .null])), iaC w q1 72 (fun _ => 0), iaC w q2 72 (fun _ => 0), iaC w q3 36 (fun _ => 0), laC w q4 768 (fun _ => 0), iaC w q5 100 (fun _ => 0), iaC w q6 100 (fun _ => 0)]) _ _ _ _ := hw
  refine lv_aload_n hx hb dX6_init_79 rfl (lv_at hl 0 rfl) ?_
  refine lv_bipush (v := 78) hx hb dX6_init_80 (by decide) ?_
  refine n_newI hx hb (hta _ kw_552) hK hw 78 (by decide) (by decide) (by decide) (Nat.le_of_ble_eq_true rfl) (Nat.le_of_ble_eq_true rfl) dX6_init_82 (fun q7 H hw => ?_)
  have hw : CW w ([(h0, .inr (6, [.int 11, .int 1, .int 1, .ref q1, .ref q2, .ref q3, .int 1, .int 2, .int 0, .ref q4, .int 0, .ref q5, .ref q6, .null, .null, .null, .null])), iaC w q1 72 (fun _ => 0), iaC w q2 72 (fun _ => 0), iaC w q3 36 (fun _ => 0), laC w q4 768 (fun _ => 0), iaC w q5 100 (fun _ => 0), iaC w q6 100 (fun _ => 0), iaC w q7 78 (fun _ => 0)]) _ _ _ _ := hw
  refine n_putF (v := .ref q7) (ty := .array .int) (C := RX6) (T := TX6) (N := 17) (ci := 6) hx hb hta kw_X6 tyX6 tyX6_ok nmX6 hown hK hw 0 rfl rfl 13 (by decide) (hta _ kw_297) rfl rfl hin2 (by decide +kernel) rfl rfl (Nat.le_of_ble_eq_true rfl) dX6_init_84 (fun H locs hw => ?_)
  have hw : CW w ([(h0, .inr (6, [.int 11, .int 1, .int 1, .ref q1, .ref q2, .ref q3, .int 1, .int 2, .int 0, .ref q4, .int 0, .ref q5, .ref q6, .ref q7, .null, .null, .null])), iaC w q1 72 (fun _ => 0), iaC w q2 72 (fun _ => 0), iaC w q3 36 (fun _ => 0), laC w q4 768 (fun _ => 0), iaC w q5 100 (fun _ => 0), iaC w q6 100 (fun _ => 0), iaC w q7 78 (fun _ => 0)]) _ _ _ _ := hw
  refine lv_aload_n hx hb dX6_init_87 rfl (lv_at hl 0 rfl) ?_
  refine lv_bipush (v := 12) hx hb dX6_init_88 (by decide) ?_
  refine n_newI hx hb (hta _ kw_552) hK hw 12 (by decide) (by decide) (by decide) (Nat.le_of_ble_eq_true rfl) (Nat.le_of_ble_eq_true rfl) dX6_init_90 (fun q8 H hw => ?_)
  have hw : CW w ([(h0, .inr (6, [.int 11, .int 1, .int 1, .ref q1, .ref q2, .ref q3, .int 1, .int 2, .int 0, .ref q4, .int 0, .ref q5, .ref q6, .ref q7, .null, .null, .null])), iaC w q1 72 (fun _ => 0), iaC w q2 72 (fun _ => 0), iaC w q3 36 (fun _ => 0), laC w q4 768 (fun _ => 0), iaC w q5 100 (fun _ => 0), iaC w q6 100 (fun _ => 0), iaC w q7 78 (fun _ => 0), iaC w q8 12 (fun _ => 0)]) _ _ _ _ := hw
  refine n_putF (v := .ref q8) (ty := .array .int) (C := RX6) (T := TX6) (N := 17) (ci := 6) hx hb hta kw_X6 tyX6 tyX6_ok nmX6 hown hK hw 0 rfl rfl 14 (by decide) (hta _ kw_337) rfl rfl hin2 (by decide +kernel) rfl rfl (Nat.le_of_ble_eq_true rfl) dX6_init_92 (fun H locs hw => ?_)
  have hw : CW w ([(h0, .inr (6, [.int 11, .int 1, .int 1, .ref q1, .ref q2, .ref q3, .int 1, .int 2, .int 0, .ref q4, .int 0, .ref q5, .ref q6, .ref q7, .ref q8, .null, .null])), iaC w q1 72 (fun _ => 0), iaC w q2 72 (fun _ => 0), iaC w q3 36 (fun _ => 0), laC w q4 768 (fun _ => 0), iaC w q5 100 (fun _ => 0), iaC w q6 100 (fun _ => 0), iaC w q7 78 (fun _ => 0), iaC w q8 12 (fun _ => 0)]) _ _ _ _ := hw
  refine lv_aload_n hx hb dX6_init_95 rfl (lv_at hl 0 rfl) ?_
  refine lv_bipush (v := 12) hx hb dX6_init_96 (by decide) ?_
  refine n_newI hx hb (hta _ kw_552) hK hw 12 (by decide) (by decide) (by decide) (Nat.le_of_ble_eq_true rfl) (Nat.le_of_ble_eq_true rfl) dX6_init_98 (fun q9 H hw => ?_)
  have hw : CW w ([(h0, .inr (6, [.int 11, .int 1, .int 1, .ref q1, .ref q2, .ref q3, .int 1, .int 2, .int 0, .ref q4, .int 0, .ref q5, .ref q6, .ref q7, .ref q8, .null, .null])), iaC w q1 72 (fun _ => 0), iaC w q2 72 (fun _ => 0), iaC w q3 36 (fun _ => 0), laC w q4 768 (fun _ => 0), iaC w q5 100 (fun _ => 0), iaC w q6 100 (fun _ => 0), iaC w q7 78 (fun _ => 0), iaC w q8 12 (fun _ => 0), iaC w q9 12 (fun _ => 0)]) _ _ _ _ := hw
  refine n_putF (v := .ref q9) (ty := .array .int) (C := RX6) (T := TX6) (N := 17) (ci := 6) hx hb hta kw_X6 tyX6 tyX6_ok nmX6 hown hK hw 0 rfl rfl 15 (by decide) (hta _ kw_338) rfl rfl hin2 (by decide +kernel) rfl rfl (Nat.le_of_ble_eq_true rfl) dX6_init_100 (fun H locs hw => ?_)
  have hw : CW w ([(h0, .inr (6, [.int 11, .int 1, .int 1, .ref q1, .ref q2, .ref q3, .int 1, .int 2, .int 0, .ref q4, .int 0, .ref q5, .ref q6, .ref q7, .ref q8, .ref q9, .null])), iaC w q1 72 (fun _ => 0), iaC w q2 72 (fun _ => 0), iaC w q3 36 (fun _ => 0), laC w q4 768 (fun _ => 0), iaC w q5 100 (fun _ => 0), iaC w q6 100 (fun _ => 0), iaC w q7 78 (fun _ => 0), iaC w q8 12 (fun _ => 0), iaC w q9 12 (fun _ => 0)]) _ _ _ _ := hw
  refine lv_aload_n hx hb dX6_init_103 rfl (lv_at hl 0 rfl) ?_
  refine lv_bipush (v := 6) hx hb dX6_init_104 (by decide) ?_
  refine n_newI hx hb (hta _ kw_552) hK hw 6 (by decide) (by decide) (by decide) (Nat.le_of_ble_eq_true rfl) (Nat.le_of_ble_eq_true rfl) dX6_init_106 (fun q10 H hw => ?_)
  have hw : CW w ([(h0, .inr (6, [.int 11, .int 1, .int 1, .ref q1, .ref q2, .ref q3, .int 1, .int 2, .int 0, .ref q4, .int 0, .ref q5, .ref q6, .ref q7, .ref q8, .ref q9, .null])), iaC w q1 72 (fun _ => 0), iaC w q2 72 (fun _ => 0), iaC w q3 36 (fun _ => 0), laC w q4 768 (fun _ => 0), iaC w q5 100 (fun _ => 0), iaC w q6 100 (fun _ => 0), iaC w q7 78 (fun _ => 0), iaC w q8 12 (fun _ => 0), iaC w q9 12 (fun _ => 0), iaC w q10 6 (fun _ => 0)]) _ _ _ _ := hw
  refine n_putF (v := .ref q10) (ty := .array .int) (C := RX6) (T := TX6) (N := 17) (ci := 6) hx hb hta kw_X6 tyX6 tyX6_ok nmX6 hown hK hw 0 rfl rfl 16 (by decide) (hta _ kw_361) rfl rfl hin2 (by decide +kernel) rfl rfl (Nat.le_of_ble_eq_true rfl) dX6_init_108 (fun H locs hw => ?_)
  have hw : CW w ([(h0, .inr (6, [.int 11, .int 1, .int 1, .ref q1, .ref q2, .ref q3, .int 1, .int 2, .int 0, .ref q4, .int 0, .ref q5, .ref q6, .ref q7, .ref q8, .ref q9, .ref q10])), iaC w q1 72 (fun _ => 0), iaC w q2 72 (fun _ => 0), iaC w q3 36 (fun _ => 0), laC w q4 768 (fun _ => 0), iaC w q5 100 (fun _ => 0), iaC w q6 100 (fun _ => 0), iaC w q7 78 (fun _ => 0), iaC w q8 12 (fun _ => 0), iaC w q9 12 (fun _ => 0), iaC w q10 6 (fun _ => 0)]) _ _ _ _ := hw
  exact n_ret (fun k => match k with | 0 => q1 | 1 => q2 | 2 => q3 | 3 => q4 | 4 => q5 | 5 => q6 | 6 => q7 | 7 => q8 | 8 => q9 | _ => q10) hx hb hr hw rfl trivial dX6_init_111
