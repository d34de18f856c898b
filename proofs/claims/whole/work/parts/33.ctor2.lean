def csT : List Nat := [1, 8, 32, 33, 34, 35, 36, 37, 9]
def adT (h0 q1 q2 : Nat) : Nat → Nat := fun c => if c = 1 then h0 else if c = 8 then q1 else if c = 9 then q2 else q1 + 1 + (c - 32)
def wT (w : WE) (h0 q1 q2 : Nat) : WE := (adT h0 q1 q2, w.2)
def B0 : BS := fun _ _ => 0
def G0 : GS := fun _ _ => 0
theorem csT_in : ∀ c, (c = 1 ∨ c = 8 ∨ c = 9 ∨ (32 ≤ c ∧ c < 38)) → c ∈ csT := by
  intro c h
  have : c = 1 ∨ c = 8 ∨ c = 9 ∨ c = 32 ∨ c = 33 ∨ c = 34 ∨ c = 35 ∨ c = 36 ∨ c = 37 := by omega
  rcases this with rfl | rfl | rfl | rfl | rfl | rfl | rfl | rfl | rfl <;> decide
theorem tab0 (w : WE) (h0 q1 q2 : Nat) : wsl (wT w h0 q1 q2) csT G0 B0 = [(h0, .inr (4, [.int 0, .int 0, .int 0, .ref q1, .ref q2])), outC w q1 6, iaC w (q1 + 1 + 0) 12 (fun _ => 0), iaC w (q1 + 1 + 1) 12 (fun _ => 0), iaC w (q1 + 1 + 2) 12 (fun _ => 0), iaC w (q1 + 1 + 3) 12 (fun _ => 0), iaC w (q1 + 1 + 4) 12 (fun _ => 0), iaC w (q1 + 1 + 5) 12 (fun _ => 0), iaC w q2 98 (fun _ => 0)] := by
  have e : (fun i => if i < 6 then some (adT h0 q1 q2 (32 + i)) else none) = outF q1 6 := funext (fun i => by
    unfold outF adT
    by_cases h : i < 6
    · rw [if_pos h, if_pos h, if_neg (by omega), if_neg (by omega), if_neg (by omega), Nat.add_sub_cancel_left]
    · rw [if_neg h, if_neg h])
  show (((h0, _) :: (q1, Sum.inl (w.2.1.2.2, 6, Sum.inr (Sum.inr (Sum.inr (Sum.inr (fun i => if i < 6 then some (adT h0 q1 q2 (32 + i)) else none)))))) :: _ : va_W)) = _
  rw [e]
  rfl
def csS : List Nat := [5, 16, 17, 18, 19]
def adS (h0 q1 q2 q3 q4 : Nat) : Nat → Nat := fun c => if c = 5 then h0 else if c = 16 then q1 else if c = 17 then q2 else if c = 18 then q3 else q4
def wS (w : WE) (h0 q1 q2 q3 q4 : Nat) : WE := (adS h0 q1 q2 q3 q4, w.2)
theorem csS_in : ∀ c, (c = 5 ∨ (16 ≤ c ∧ c < 20)) → c ∈ csS := by
  intro c h
  have : c = 5 ∨ c = 16 ∨ c = 17 ∨ c = 18 ∨ c = 19 := by omega
  rcases this with rfl | rfl | rfl | rfl | rfl <;> decide
theorem ske0 (w : WE) (h0 q1 q2 q3 q4 : Nat) : wsl (wS w h0 q1 q2 q3 q4) csS G0 B0 = [(h0, .inr (3, [.int 0, .int 0, .int 0, .int 0, .ref q1, .ref q2, .ref q3, .ref q4])), laC w q1 384 (fun _ => 0), laC w q2 384 (fun _ => 0), iaC w q3 100 (fun _ => 0), iaC w q4 100 (fun _ => 0)] := rfl
set_option maxHeartbeats 4000000 in
set_option maxRecDepth 100000 in
theorem mX4_init (l : Launch) (w : WE) (sz : Nat) (h0 : Nat) (P : GS → Prop) (h : wX4_shape 11 1 1 G0 P) : Met l yX4_init wsX4_init (rmC 2 8 176) (PcC w sz (h0, .inr (4, [.int 0, .int 0, .int 0, .null, .null])) [.ref h0]) (QC (S := Nat × Nat × GS) w sz (h0, .inr (4, [.int 0, .int 0, .int 0, .null, .null])) (fun u => P u.2.2) (fun u => wsl (wT w h0 u.1 u.2.1) csT u.2.2 B0)) 8 176 (va_A [(h0, .inr (4, [.int 0, .int 0, .int 0, .null, .null]))] sz) := by
  refine metC (own := RX4) [.ref h0] (by decide +kernel) rfl rfl rfl (Nat.le_of_ble_eq_true rfl) ?_
  intro p e s m below meth c ls hsz C hr hin2 hK hw hl
  subst hsz
  have hx := C.1
  have hb := C.2.1
  have hown := C.2.2.2.1
  have hta := fun w h => C.2.2.2.2 w (List.mem_cons_of_mem _ h)
  have hl : lv_has ls 1 [(0, .ref h0)] := hl
  refine lv_aload_n hx hb dX4_init_0 rfl (lv_at hl 0 rfl) ?_
  refine W.objInit hx hb hown (hta _ kw_558) (hta _ kw_549) (hta _ kw_550) rfl (hl.1.trans C.2.2.1.symm) rfl dX4_init_1 (Nat.le_of_ble_eq_true rfl) (Nat.le_of_ble_eq_true rfl) ?_
  refine W.eq (g2 := F0 m 4 ls []) rfl ?_
  refine lv_aload_n hx hb dX4_init_4 rfl (lv_at hl 0 rfl) ?_
  refine lv_bipush (v := 6) hx hb dX4_init_5 (by decide) ?_
  refine lv_bipush (v := 12) hx hb dX4_init_7 (by decide) ?_
  refine n_mna hx hb hown (hta _ kw_559) (hta _ kw_552) hK hw 6 12 (by decide) (by decide) (by decide) (by decide) (by decide) (by decide) (by decide) (Nat.le_of_ble_eq_true rfl) (Nat.le_of_ble_eq_true rfl) dX4_init_9 (fun q1 H hw => ?_)
  have hw : CW w ([(h0, .inr (4, [.int 0, .int 0, .int 0, .null, .null])), outC w q1 6, iaC w (q1 + 1 + 0) 12 (fun _ => 0), iaC w (q1 + 1 + 1) 12 (fun _ => 0), iaC w (q1 + 1 + 2) 12 (fun _ => 0), iaC w (q1 + 1 + 3) 12 (fun _ => 0), iaC w (q1 + 1 + 4) 12 (fun _ => 0), iaC w (q1 + 1 + 5) 12 (fun _ => 0)]) _ _ _ _ := hw
  refine n_putF (v := .ref q1) (ty := .array (.array .int)) (C := RX4) (T := TX4) (N := 5) (ci := 4) hx hb hta kw_X4 tyX4 tyX4_ok nmX4 hown hK hw 0 rfl rfl 3 (by decide) (hta _ kw_28) rfl rfl hin2 (by decide +kernel) rfl rfl (Nat.le_of_ble_eq_true rfl) dX4_init_13 (fun H locs hw => ?_)
  have hw : CW w ([(h0, .inr (4, [.int 0, .int 0, .int 0, .ref q1, .null])), outC w q1 6, iaC w (q1 + 1 + 0) 12 (fun _ => 0), iaC w (q1 + 1 + 1) 12 (fun _ => 0), iaC w (q1 + 1 + 2) 12 (fun _ => 0), iaC w (q1 + 1 + 3) 12 (fun _ => 0), iaC w (q1 + 1 + 4) 12 (fun _ => 0), iaC w (q1 + 1 + 5) 12 (fun _ => 0)]) _ _ _ _ := hw
  refine lv_aload_n hx hb dX4_init_16 rfl (lv_at hl 0 rfl) ?_
  refine lv_bipush (v := 98) hx hb dX4_init_17 (by decide) ?_
  refine n_newI hx hb (hta _ kw_552) hK hw 98 (by decide) (by decide) (by decide) (Nat.le_of_ble_eq_true rfl) (Nat.le_of_ble_eq_true rfl) dX4_init_19 (fun q2 H hw => ?_)
  have hw : CW w ([(h0, .inr (4, [.int 0, .int 0, .int 0, .ref q1, .null])), outC w q1 6, iaC w (q1 + 1 + 0) 12 (fun _ => 0), iaC w (q1 + 1 + 1) 12 (fun _ => 0), iaC w (q1 + 1 + 2) 12 (fun _ => 0), iaC w (q1 + 1 + 3) 12 (fun _ => 0), iaC w (q1 + 1 + 4) 12 (fun _ => 0), iaC w (q1 + 1 + 5) 12 (fun _ => 0), iaC w q2 98 (fun _ => 0)]) _ _ _ _ := hw
  refine n_putF (v := .ref q2) (ty := .array .int) (C := RX4) (T := TX4) (N := 5) (ci := 4) hx hb hta kw_X4 tyX4 tyX4_ok nmX4 hown hK hw 0 rfl rfl 4 (by decide) (hta _ kw_21) rfl rfl hin2 (by decide +kernel) rfl rfl (Nat.le_of_ble_eq_true rfl) dX4_init_21 (fun H locs hw => ?_)
  have hw : CW w ([(h0, .inr (4, [.int 0, .int 0, .int 0, .ref q1, .ref q2])), outC w q1 6, iaC w (q1 + 1 + 0) 12 (fun _ => 0), iaC w (q1 + 1 + 1) 12 (fun _ => 0), iaC w (q1 + 1 + 2) 12 (fun _ => 0), iaC w (q1 + 1 + 3) 12 (fun _ => 0), iaC w (q1 + 1 + 4) 12 (fun _ => 0), iaC w (q1 + 1 + 5) 12 (fun _ => 0), iaC w q2 98 (fun _ => 0)]) _ _ _ _ := hw
  refine lv_aload_n hx hb dX4_init_24 rfl (lv_at hl 0 rfl) ?_
  refine lv_bipush (v := 11) hx hb dX4_init_25 (by decide) ?_
  refine lv_iconst (v := 1) hx hb dX4_init_27 (by decide) ?_
  refine lv_iconst (v := 1) hx hb dX4_init_28 (by decide) ?_
  rw [← tab0] at hw
  have hK2 : KW (wT w h0 q1 q2) s := hK.1
  refine q_callv (w := wT w h0 q1 q2) (cs := csT) hw (va_runV (As := [.int 11, .int 1, .int 1]) (rest := []) C (mX4_shape l (wT w h0 q1 q2) csT csT_in _ G0 B0 11 1 1 P h) (cwV 3 hta (gVw kw_560 kw_211 kw_212 kw_36 kw_209) rfl rfl rfl (by decide +kernel) ⟨Nat.le_of_ble_eq_true rfl, Nat.le_of_ble_eq_true rfl⟩) (preV hK2 hw 1 (csT_in _ (by omega)) (by unfold isB; omega) rfl rfl _) rfl rfl hl.1 rfl (lv_room (Nat.le_of_ble_eq_true rfl)) dX4_init_29 ⟨Nat.le_of_ble_eq_true rfl, Nat.le_of_ble_eq_true rfl⟩) (fun G1 B1 H locs h hw => ?_)
  obtain ⟨h, e2⟩ := h; subst e2
  have hw : CW w (wsl (wT w h0 q1 q2) csT G1 B0) _ _ _ _ := hw
  exact n_ret ((q1, q2, G1)) hx hb hr hw rfl h dX4_init_32
set_option maxHeartbeats 4000000 in
set_option maxRecDepth 100000 in
theorem mX3_init (l : Launch) (w : WE) (sz : Nat) (h0 : Nat) (P : GS → BS → Prop) (h : wX3_shape 1 2 G0 B0 P) : Met l yX3_init wsX3_init (rmC 2 4 968) (PcC w sz (h0, .inr (3, [.int 0, .int 0, .int 0, .int 0, .null, .null, .null, .null])) [.ref h0]) (QC (S := Nat × Nat × Nat × Nat × GS × BS) w sz (h0, .inr (3, [.int 0, .int 0, .int 0, .int 0, .null, .null, .null, .null])) (fun u => P u.2.2.2.2.1 u.2.2.2.2.2) (fun u => wsl (wS w h0 u.1 u.2.1 u.2.2.1 u.2.2.2.1) csS u.2.2.2.2.1 u.2.2.2.2.2)) 4 968 (va_A [(h0, .inr (3, [.int 0, .int 0, .int 0, .int 0, .null, .null, .null, .null]))] sz) := by
  refine metC (own := RX3) [.ref h0] (by decide +kernel) rfl rfl rfl (Nat.le_of_ble_eq_true rfl) ?_
  intro p e s m below meth c ls hsz C hr hin2 hK hw hl
  subst hsz
  have hx := C.1
  have hb := C.2.1
  have hown := C.2.2.2.1
  have hta := fun w h => C.2.2.2.2 w (List.mem_cons_of_mem _ h)
  have hl : lv_has ls 1 [(0, .ref h0)] := hl
  refine lv_aload_n hx hb dX3_init_0 rfl (lv_at hl 0 rfl) ?_
  refine W.objInit hx hb hown (hta _ kw_561) (hta _ kw_549) (hta _ kw_550) rfl (hl.1.trans C.2.2.1.symm) rfl dX3_init_1 (Nat.le_of_ble_eq_true rfl) (Nat.le_of_ble_eq_true rfl) ?_
  refine W.eq (g2 := F0 m 4 ls []) rfl ?_
  refine lv_aload_n hx hb dX3_init_4 rfl (lv_at hl 0 rfl) ?_
  refine lv_sipush (v := 384) hx hb dX3_init_5 (by decide) ?_
  refine n_newJ hx hb (hta _ kw_557) hK hw 384 (by decide) (by decide) (by decide) (Nat.le_of_ble_eq_true rfl) (Nat.le_of_ble_eq_true rfl) dX3_init_8 (fun q1 H hw => ?_)
  have hw : CW w ([(h0, .inr (3, [.int 0, .int 0, .int 0, .int 0, .null, .null, .null, .null])), laC w q1 384 (fun _ => 0)]) _ _ _ _ := hw
  refine n_putF (v := .ref q1) (ty := .array .long) (C := RX3) (T := TX3) (N := 8) (ci := 3) hx hb hta kw_X3 tyX3 tyX3_ok nmX3 hown hK hw 0 rfl rfl 4 (by decide) (hta _ kw_164) rfl rfl hin2 (by decide +kernel) rfl rfl (Nat.le_of_ble_eq_true rfl) dX3_init_10 (fun H locs hw => ?_)
  have hw : CW w ([(h0, .inr (3, [.int 0, .int 0, .int 0, .int 0, .ref q1, .null, .null, .null])), laC w q1 384 (fun _ => 0)]) _ _ _ _ := hw
  refine lv_aload_n hx hb dX3_init_13 rfl (lv_at hl 0 rfl) ?_
  refine lv_sipush (v := 384) hx hb dX3_init_14 (by decide) ?_
  refine n_newJ hx hb (hta _ kw_557) hK hw 384 (by decide) (by decide) (by decide) (Nat.le_of_ble_eq_true rfl) (Nat.le_of_ble_eq_true rfl) dX3_init_17 (fun q2 H hw => ?_)
  have hw : CW w ([(h0, .inr (3, [.int 0, .int 0, .int 0, .int 0, .ref q1, .null, .null, .null])), laC w q1 384 (fun _ => 0), laC w q2 384 (fun _ => 0)]) _ _ _ _ := hw
  refine n_putF (v := .ref q2) (ty := .array .long) (C := RX3) (T := TX3) (N := 8) (ci := 3) hx hb hta kw_X3 tyX3 tyX3_ok nmX3 hown hK hw 0 rfl rfl 5 (by decide) (hta _ kw_180) rfl rfl hin2 (by decide +kernel) rfl rfl (Nat.le_of_ble_eq_true rfl) dX3_init_19 (fun H locs hw => ?_)
  have hw : CW w ([(h0, .inr (3, [.int 0, .int 0, .int 0, .int 0, .ref q1, .ref q2, .null, .null])), laC w q1 384 (fun _ => 0), laC w q2 384 (fun _ => 0)]) _ _ _ _ := hw
  refine lv_aload_n hx hb dX3_init_22 rfl (lv_at hl 0 rfl) ?_
  refine lv_bipush (v := 100) hx hb dX3_init_23 (by decide) ?_
  refine n_newI hx hb (hta _ kw_552) hK hw 100 (by decide) (by decide) (by decide) (Nat.le_of_ble_eq_true rfl) (Nat.le_of_ble_eq_true rfl) dX3_init_25 (fun q3 H hw => ?_)
  have hw : CW w ([(h0, .inr (3, [.int 0, .int 0, .int 0, .int 0, .ref q1, .ref q2, .null, .null])), laC w q1 384 (fun _ => 0), laC w q2 384 (fun _ => 0), iaC w q3 100 (fun _ => 0)]) _ _ _ _ := hw
  refine n_putF (v := .ref q3) (ty := .array .int) (C := RX3) (T := TX3) (N := 8) (ci := 3) hx hb hta kw_X3 tyX3 tyX3_ok nmX3 hown hK hw 0 rfl rfl 6 (by decide) (hta _ kw_186) rfl rfl hin2 (by decide +kernel) rfl rfl (Nat.le_of_ble_eq_true rfl) dX3_init_27 (fun H locs hw => ?_)
  have hw : CW w ([(h0, .inr (3, [.int 0, .int 0, .int 0, .int 0, .ref q1, .ref q2, .ref q3, .null])), laC w q1 384 (fun _ => 0), laC w q2 384 (fun _ => 0), iaC w q3 100 (fun _ => 0)]) _ _ _ _ := hw
  refine lv_aload_n hx hb dX3_init_30 rfl (lv_at hl 0 rfl) ?_
  refine lv_bipush (v := 100) hx hb dX3_init_31 (by decide) ?_
  refine n_newI hx hb (hta _ kw_552) hK hw 100 (by decide) (by decide) (by decide) (Nat.le_of_ble_eq_true rfl) (Nat.le_of_ble_eq_true rfl) dX3_init_33 (fun q4 H hw => ?_)
  have hw : CW w ([(h0, .inr (3, [.int 0, .int 0, .int 0, .int 0, .ref q1, .ref q2, .ref q3, .null])), laC w q1 384 (fun _ => 0), laC w q2 384 (fun _ => 0), iaC w q3 100 (fun _ => 0), iaC w q4 100 (fun _ => 0)]) _ _ _ _ := hw
  refine n_putF (v := .ref q4) (ty := .array .int) (C := RX3) (T := TX3) (N := 8) (ci := 3) hx hb hta kw_X3 tyX3 tyX3_ok nmX3 hown hK hw 0 rfl rfl 7 (by decide) (hta _ kw_187) rfl rfl hin2 (by decide +kernel) rfl rfl (Nat.le_of_ble_eq_true rfl) dX3_init_35 (fun H locs hw => ?_)
  have hw : CW w ([(h0, .inr (3, [.int 0, .int 0, .int 0, .int 0, .ref q1, .ref q2, .ref q3, .ref q4])), laC w q1 384 (fun _ => 0), laC w q2 384 (fun _ => 0), iaC w q3 100 (fun _ => 0), iaC w q4 100 (fun _ => 0)]) _ _ _ _ := hw
  refine lv_aload_n hx hb dX3_init_38 rfl (lv_at hl 0 rfl) ?_
  refine lv_iconst (v := 1) hx hb dX3_init_39 (by decide) ?_
  refine lv_iconst (v := 2) hx hb dX3_init_40 (by decide) ?_
  rw [← ske0] at hw
  have hK2 : KW (wS w h0 q1 q2 q3 q4) s := hK.1
  refine q_callv (w := wS w h0 q1 q2 q3 q4) (cs := csS) hw (va_runV (As := [.int 1, .int 2]) (rest := []) C (mX3_shape l (wS w h0 q1 q2 q3 q4) csS csS_in _ G0 B0 1 2 P h) (cwV 2 hta (gVw kw_562 kw_261 kw_262 kw_168 kw_259) rfl rfl rfl (by decide +kernel) ⟨Nat.le_of_ble_eq_true rfl, Nat.le_of_ble_eq_true rfl⟩) (preV hK2 hw 5 (csS_in _ (by omega)) (by unfold isB; omega) rfl rfl _) rfl rfl hl.1 rfl (lv_room (Nat.le_of_ble_eq_true rfl)) dX3_init_41 ⟨Nat.le_of_ble_eq_true rfl, Nat.le_of_ble_eq_true rfl⟩) (fun G1 B1 H locs h hw => ?_)
  have hw : CW w (wsl (wS w h0 q1 q2 q3 q4) csS G1 B1) _ _ _ _ := hw
  exact n_ret ((q1, q2, q3, q4, G1, B1)) hx hb hr hw rfl h dX3_init_44
