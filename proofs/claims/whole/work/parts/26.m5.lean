def wlX5_begin_44 (K77 : GS → Prop) : Nat → Int32 → GS → Prop
  | 0, _, _ => False
  | n44 + 1, v4, G => (((6 : Int32) ≤ v4 → K77 G) ∧ (¬ (6 : Int32) ≤ v4 → (vp_in v4 6 ∧ (wX5_clear (20 + cl v4) G (fun G58 => (vp_in v4 6 ∧ (wX5_clear (26 + cl v4) G58 (fun G68 => wlX5_begin_44 K77 n44 (v4 + (1 : Int32)) G68))))))))
def wX5_begin (v1 : Int32) (v2 : Int32) (v3 : Int32) (G : GS) (P : Int32 → GS → Prop) : Prop := (wX5_isPrime v1 (fun r1 => ((r1 = 0 → P (-1 : Int32) G) ∧ (¬ r1 = 0 → ((v2 < (1 : Int32) → P (-1 : Int32) G) ∧ (¬ v2 < (1 : Int32) → (((6 : Int32) < v2 → P (-1 : Int32) G) ∧ (¬ (6 : Int32) < v2 → ((v3 < (1 : Int32) → P (-1 : Int32) G) ∧ (¬ v3 < (1 : Int32) → ((v3 ≤ (12 : Int32) → (wX4_shape v1 v2 v3 G (fun G38 => (∃ z44 : Nat, wlX5_begin_44 (fun G_77 => P (0 : Int32) G_77) z44 (0 : Int32) G38)))) ∧ (¬ v3 ≤ (12 : Int32) → P (-1 : Int32) G))))))))))))
set_option maxHeartbeats 4000000 in
set_option maxRecDepth 100000 in
theorem lX5_begin_44 {p : Program} {l : Launch} {e : Env} {s : State} {m : MethodId} {args : Array Value} {below : List Frame} {meth : Method} {c : Code} {Q : State → Prop} {w : WE} {cs : List Nat} {A : Nat → Prop} {H0 : Heap} (C : CallFix p m c cX5_begin 5 s args wsX5_begin RX5) (hK : KW w s) (hcs : ∀ c, c < 56 → c ∈ cs) (B : BS) {K77 : GS → Prop} (k77 : ∀ (G : GS) (H : Heap) (locs : List Loc) (ls : Array Slot), K77 G → WO w cs A H0 G B H locs → lv_has ls 5 [] → W p l e (rmW 2) s m args below meth c H locs 0 0 Q (F0 m 77 ls [])) : ∀ (n : Nat) (v4 : Int32) (G : GS) (H : Heap) (locs : List Loc) (ls : Array Slot), wlX5_begin_44 K77 n v4 G → WO w cs A H0 G B H locs → lv_has ls 5 [(0, .ref (w.1 0)), (4, .int v4)] → W p l e (rmW 2) s m args below meth c H locs 0 0 Q (F0 m 44 ls []) := by
  have hx := C.1
  have hb := C.2.1
  have hown := C.2.2.2.1
  have hta := fun w h => C.2.2.2.2 w (List.mem_cons_of_mem _ h)
  intro n
  induction n with
  | zero => intro v4 G H locs ls h hw hl; exact False.elim h
  | succ n ih =>
    intro v4 G H locs ls h hw hl
    refine lv_iload hx hb dX5_begin_44 (lv_at hl 1 rfl) ?_
    refine lv_bipush (v := 6) hx hb dX5_begin_46 (by decide) ?_
    refine lv_icmp_ge (tgt := 77) hx hb dX5_begin_48 (by decide) (fun c6 => ?_) (fun c6 => ?_)
    · have h := h.1 c6
      exact k77 G _ _ _ h hw (lv_sub hl [] rfl)
    · have h := h.2 c6
      refine lv_aload_n hx hb dX5_begin_51 rfl (lv_at hl 0 rfl) ?_
      refine q_get (v := .ref (w.1 6)) (C := RX5) (T := TX5) (N := 7) (ci := 5) hx hb hta kw_X5 hown hK hw 0 (hcs _ (by omega)) (by unfold isB; omega) rfl rfl 5 (by decide) (hta _ kw_213) rfl rfl dX5_begin_52 ?_
      refine lv_iload hx hb dX5_begin_55 (lv_at hl 1 rfl) ?_
      obtain ⟨hin7, h⟩ := h
      have hv8 : 20 ≤ (20 + cl v4) ∧ (20 + cl v4) < 26 := vp_iv hin7
      refine q_aald (b := 20) (n := 6) hx hb hK hw (a := 6) (hcs _ (by omega)) (by unfold isO; omega) rfl rfl hin7 dX5_begin_57 ?_
      refine q_callv hw (va_runS (As := [.ref (w.1 (20 + cl v4))]) (rest := []) C (mX5_clear l w cs _ G B (20 + cl v4) (isI_row (by omega) (by omega)) (hcs _ (by omega)) _ h) (va_cwS 1 hta (gSw kw_214 kw_31 kw_30 kw_29) rfl rfl rfl (by decide +kernel) ⟨Nat.le_of_ble_eq_true rfl, Nat.le_of_ble_eq_true rfl⟩) (preS hK hw _) rfl rfl hl.1 rfl (lv_room (Nat.le_of_ble_eq_true rfl)) dX5_begin_58 ⟨Nat.le_refl 0, Nat.le_refl 0⟩) (fun G58 B58 H locs h hw => ?_)
      obtain ⟨h, e2⟩ := h; subst e2
      refine lv_aload_n hx hb dX5_begin_61 rfl (lv_at hl 0 rfl) ?_
      refine q_get (v := .ref (w.1 7)) (C := RX5) (T := TX5) (N := 7) (ci := 5) hx hb hta kw_X5 hown hK hw 0 (hcs _ (by omega)) (by unfold isB; omega) rfl rfl 6 (by decide) (hta _ kw_215) rfl rfl dX5_begin_62 ?_
      refine lv_iload hx hb dX5_begin_65 (lv_at hl 1 rfl) ?_
      obtain ⟨hin9, h⟩ := h
      have hv10 : 26 ≤ (26 + cl v4) ∧ (26 + cl v4) < 32 := vp_iv hin9
      refine q_aald (b := 26) (n := 6) hx hb hK hw (a := 7) (hcs _ (by omega)) (by unfold isO; omega) rfl rfl hin9 dX5_begin_67 ?_
      refine q_callv hw (va_runS (As := [.ref (w.1 (26 + cl v4))]) (rest := []) C (mX5_clear l w cs _ G58 B (26 + cl v4) (isI_row (by omega) (by omega)) (hcs _ (by omega)) _ h) (va_cwS 1 hta (gSw kw_214 kw_31 kw_30 kw_29) rfl rfl rfl (by decide +kernel) ⟨Nat.le_of_ble_eq_true rfl, Nat.le_of_ble_eq_true rfl⟩) (preS hK hw _) rfl rfl hl.1 rfl (lv_room (Nat.le_of_ble_eq_true rfl)) dX5_begin_68 ⟨Nat.le_refl 0, Nat.le_refl 0⟩) (fun G68 B68 H locs h hw => ?_)
      obtain ⟨h, e2⟩ := h; subst e2
      refine lv_iinc (v := (v4 + (1 : Int32))) (lv' := [(4, .int (v4 + (1 : Int32))), (0, .ref (w.1 0))]) hx hb dX5_begin_71 hl (k := 1) rfl rfl (by decide) rfl (fun ls hl => ?_)
      refine lv_goto (tgt := 44) hx hb dX5_begin_74 (by decide) ?_
      exact ih (v4 + (1 : Int32)) G68 _ _ _ h hw (lv_sub hl [1, 0] rfl)
set_option maxHeartbeats 4000000 in
set_option maxRecDepth 100000 in
theorem mX5_begin (l : Launch) (w : WE) (cs : List Nat) (hcs : ∀ c, c < 56 → c ∈ cs) (sz : Nat) (G : GS) (B : BS) (v1 : Int32) (v2 : Int32) (v3 : Int32) (P : Int32 → GS → Prop) (h : wX5_begin v1 v2 v3 G P) : Met l yX5_begin wsX5_begin (rmW 2) (PcW w cs sz G B [.ref (w.1 0), .int v1, .int v2, .int v3]) (QI w cs sz (fun r G1 B1 => P r G1 ∧ B = B1)) 0 0 (AA w cs sz) := by
  refine metW (own := RX5) [.ref (w.1 0), .int v1, .int v2, .int v3] (by decide +kernel) rfl rfl (Nat.le_of_ble_eq_true rfl) ?_
  intro p e s m below meth c ls hsz C hr hK hw hl
  subst hsz
  have hx := C.1
  have hb := C.2.1
  have hown := C.2.2.2.1
  have hta := fun w h => C.2.2.2.2 w (List.mem_cons_of_mem _ h)
  have hl : lv_has ls 5 [(0, .ref (w.1 0)), (1, .int v1), (2, .int v2), (3, .int v3)] := hl
  refine lv_iload_n hx hb dX5_begin_0 rfl (lv_at hl 1 rfl) ?_
  refine q_calli hw (va_runS (As := [.int v1]) (rest := []) C (mX5_isPrime l w cs _ G B v1 _ h) (va_cwS 1 hta (gSw kw_205 kw_206 kw_30 kw_204) rfl rfl rfl (by decide +kernel) ⟨Nat.le_of_ble_eq_true rfl, Nat.le_of_ble_eq_true rfl⟩) (preS hK hw _) rfl rfl hl.1 rfl (lv_room (Nat.le_of_ble_eq_true rfl)) dX5_begin_1 ⟨Nat.le_refl 0, Nat.le_refl 0⟩) (fun r1 G1 B1 H locs h hw => ?_)
  obtain ⟨h, e1, e2⟩ := h; subst e1; subst e2
  refine lv_if_eq (tgt := 29) hx hb dX5_begin_4 (by decide) (fun c1 => ?_) (fun c1 => ?_)
  · have h := h.1 c1
    refine lv_iconst (v := -1) hx hb dX5_begin_29 (by decide) ?_
    exact q_reti hx hb hr hw ⟨h, rfl⟩ dX5_begin_30
  · have h := h.2 c1
    refine lv_iload_n hx hb dX5_begin_7 rfl (lv_at hl 2 rfl) ?_
    refine lv_iconst (v := 1) hx hb dX5_begin_8 (by decide) ?_
    refine lv_icmp_lt (tgt := 29) hx hb dX5_begin_9 (by decide) (fun c2 => ?_) (fun c2 => ?_)
    · have h := h.1 c2
      refine lv_iconst (v := -1) hx hb dX5_begin_29 (by decide) ?_
      exact q_reti hx hb hr hw ⟨h, rfl⟩ dX5_begin_30
    · have h := h.2 c2
      refine lv_iload_n hx hb dX5_begin_12 rfl (lv_at hl 2 rfl) ?_
      refine lv_bipush (v := 6) hx hb dX5_begin_13 (by decide) ?_
      refine lv_icmp_gt (tgt := 29) hx hb dX5_begin_15 (by decide) (fun c3 => ?_) (fun c3 => ?_)
      · have h := h.1 c3
        refine lv_iconst (v := -1) hx hb dX5_begin_29 (by decide) ?_
        exact q_reti hx hb hr hw ⟨h, rfl⟩ dX5_begin_30
      · have h := h.2 c3
        refine lv_iload_n hx hb dX5_begin_18 rfl (lv_at hl 3 rfl) ?_
        refine lv_iconst (v := 1) hx hb dX5_begin_19 (by decide) ?_
        refine lv_icmp_lt (tgt := 29) hx hb dX5_begin_20 (by decide) (fun c4 => ?_) (fun c4 => ?_)
        · have h := h.1 c4
          refine lv_iconst (v := -1) hx hb dX5_begin_29 (by decide) ?_
          exact q_reti hx hb hr hw ⟨h, rfl⟩ dX5_begin_30
        · have h := h.2 c4
          refine lv_iload_n hx hb dX5_begin_23 rfl (lv_at hl 3 rfl) ?_
          refine lv_bipush (v := 12) hx hb dX5_begin_24 (by decide) ?_
          refine lv_icmp_le (tgt := 31) hx hb dX5_begin_26 (by decide) (fun c5 => ?_) (fun c5 => ?_)
          · have h := h.1 c5
            refine lv_aload_n hx hb dX5_begin_31 rfl (lv_at hl 0 rfl) ?_
            refine q_get (v := .ref (w.1 1)) (C := RX5) (T := TX5) (N := 7) (ci := 5) hx hb hta kw_X5 hown hK hw 0 (hcs _ (by omega)) (by unfold isB; omega) rfl rfl 0 (by decide) (hta _ kw_208) rfl rfl dX5_begin_32 ?_
            refine lv_iload_n hx hb dX5_begin_35 rfl (lv_at hl 1 rfl) ?_
            refine lv_iload_n hx hb dX5_begin_36 rfl (lv_at hl 2 rfl) ?_
            refine lv_iload_n hx hb dX5_begin_37 rfl (lv_at hl 3 rfl) ?_
            refine q_callv hw (va_runV (As := [.int v1, .int v2, .int v3]) (rest := []) C (mX4_shape l w cs (fun c h => hcs c (by omega)) _ G B v1 v2 v3 _ h) (cwV 3 hta (gVw kw_210 kw_211 kw_212 kw_36 kw_209) rfl rfl rfl (by decide +kernel) ⟨Nat.le_of_ble_eq_true rfl, Nat.le_of_ble_eq_true rfl⟩) (preV hK hw 1 (hcs _ (by omega)) (by unfold isB; omega) rfl rfl _) rfl rfl hl.1 rfl (lv_room (Nat.le_of_ble_eq_true rfl)) dX5_begin_38 ⟨Nat.le_refl 0, Nat.le_refl 0⟩) (fun G38 B38 H locs h hw => ?_)
            obtain ⟨h, e2⟩ := h; subst e2
            refine lv_iconst (v := 0) hx hb dX5_begin_41 (by decide) ?_
            refine lv_istore (lv' := [(4, .int (0 : Int32)), (0, .ref (w.1 0)), (1, .int v1), (2, .int v2), (3, .int v3)]) hx hb dX5_begin_42 hl (by decide) rfl (fun ls hl => ?_)
            obtain ⟨n44, h⟩ := h
            refine lX5_begin_44 C hK hcs B (K77 := _) ?_ n44 (0 : Int32) G38 _ _ _ h hw (lv_sub hl [1, 0] rfl)
            · intro G_77 H locs ls h hw hl
              refine lv_iconst (v := 0) hx hb dX5_begin_77 (by decide) ?_
              exact q_reti hx hb hr hw ⟨h, rfl⟩ dX5_begin_78
          · have h := h.2 c5
            refine lv_iconst (v := -1) hx hb dX5_begin_29 (by decide) ?_
            exact q_reti hx hb hr hw ⟨h, rfl⟩ dX5_begin_30
def wX5_set (v1 : Int32) (v2 : Int32) (v3 : Int32) (G : GS) (P : Int32 → GS → Prop) : Prop := (wX4_has v1 v2 G (fun r6 => ((¬ r6 = 0 → (vp_in v1 6 ∧ (vp_in v2 12 ∧ (∀ x25 : Int32, x25 = (G (32 + cl v1) (cl v2)) → (vp_in v1 6 ∧ (wX4_remainder v3 G (fun r42 => (vp_in v2 12 ∧ (∀ G45 : GS, G45 = wr G (32 + cl v1) (cl v2) r42 → P x25 G45))))))))) ∧ (r6 = 0 → P (-1 : Int32) G))))
set_option maxHeartbeats 4000000 in
set_option maxRecDepth 100000 in
theorem mX5_set (l : Launch) (w : WE) (cs : List Nat) (hcs : ∀ c, c < 56 → c ∈ cs) (sz : Nat) (G : GS) (B : BS) (v1 : Int32) (v2 : Int32) (v3 : Int32) (P : Int32 → GS → Prop) (h : wX5_set v1 v2 v3 G P) : Met l yX5_set wsX5_set (rmW 2) (PcW w cs sz G B [.ref (w.1 0), .int v1, .int v2, .int v3]) (QI w cs sz (fun r G1 B1 => P r G1 ∧ B = B1)) 0 0 (AA w cs sz) := by
  refine metW (own := RX5) [.ref (w.1 0), .int v1, .int v2, .int v3] (by decide +kernel) rfl rfl (Nat.le_of_ble_eq_true rfl) ?_
  intro p e s m below meth c ls hsz C hr hK hw hl
  subst hsz
  have hx := C.1
  have hb := C.2.1
  have hown := C.2.2.2.1
  have hta := fun w h => C.2.2.2.2 w (List.mem_cons_of_mem _ h)
  have hl : lv_has ls 5 [(0, .ref (w.1 0)), (1, .int v1), (2, .int v2), (3, .int v3)] := hl
  refine lv_aload_n hx hb dX5_set_0 rfl (lv_at hl 0 rfl) ?_
  refine q_get (v := .ref (w.1 1)) (C := RX5) (T := TX5) (N := 7) (ci := 5) hx hb hta kw_X5 hown hK hw 0 (hcs _ (by omega)) (by unfold isB; omega) rfl rfl 0 (by decide) (hta _ kw_208) rfl rfl dX5_set_1 ?_
  refine lv_iload_n hx hb dX5_set_4 rfl (lv_at hl 1 rfl) ?_
  refine lv_iload_n hx hb dX5_set_5 rfl (lv_at hl 2 rfl) ?_
  refine q_calli hw (va_runV (As := [.int v1, .int v2]) (rest := []) C (mX4_has l w cs (fun c h => hcs c (by omega)) _ G B v1 v2 _ h) (cwV 2 hta (gVw kw_217 kw_218 kw_219 kw_36 kw_216) rfl rfl rfl (by decide +kernel) ⟨Nat.le_of_ble_eq_true rfl, Nat.le_of_ble_eq_true rfl⟩) (preV hK hw 1 (hcs _ (by omega)) (by unfold isB; omega) rfl rfl _) rfl rfl hl.1 rfl (lv_room (Nat.le_of_ble_eq_true rfl)) dX5_set_6 ⟨Nat.le_refl 0, Nat.le_refl 0⟩) (fun r6 G6 B6 H locs h hw => ?_)
  obtain ⟨h, e1, e2⟩ := h; subst e1; subst e2
  refine lv_if_ne (tgt := 14) hx hb dX5_set_9 (by decide) (fun c1 => ?_) (fun c1 => ?_)
  · have h := h.1 c1
    refine lv_aload_n hx hb dX5_set_14 rfl (lv_at hl 0 rfl) ?_
    refine q_get (v := .ref (w.1 1)) (C := RX5) (T := TX5) (N := 7) (ci := 5) hx hb hta kw_X5 hown hK hw 0 (hcs _ (by omega)) (by unfold isB; omega) rfl rfl 0 (by decide) (hta _ kw_208) rfl rfl dX5_set_15 ?_
    refine q_getN (v := .ref (w.1 8)) (host := RX5) (C := RX4) (T := TX4) (N := 5) (ci := 4) hx hb hta kw_X4 hown hK hw 1 (hcs _ (by omega)) (by unfold isB; omega) rfl rfl 3 (by decide) (by decide +kernel) rfl rfl dX5_set_18 ?_
    refine lv_iload_n hx hb dX5_set_21 rfl (lv_at hl 1 rfl) ?_
    obtain ⟨hin2, h⟩ := h
    have hv3 : 32 ≤ (32 + cl v1) ∧ (32 + cl v1) < 38 := vp_iv hin2
    refine q_aald (b := 32) (n := 6) hx hb hK hw (a := 8) (hcs _ (by omega)) (by unfold isO; omega) rfl rfl hin2 dX5_set_22 ?_
    refine lv_iload_n hx hb dX5_set_23 rfl (lv_at hl 2 rfl) ?_
    obtain ⟨hin4, h⟩ := h
    refine q_iald (n := 12) hx hb hK hw (hcs _ (by omega)) (isI_row (by omega) (by omega)) (ln_iv32 hv3) hin4 dX5_set_24 ?_
    refine lv_topi (fun x25 ex25 => ?_)
    have h := h x25 ex25
    refine lv_istore (lv' := [(4, .int x25), (0, .ref (w.1 0)), (1, .int v1), (2, .int v2), (3, .int v3)]) hx hb dX5_set_25 hl (by decide) rfl (fun ls hl => ?_)
    refine lv_aload_n hx hb dX5_set_27 rfl (lv_at hl 1 rfl) ?_
    refine q_get (v := .ref (w.1 1)) (C := RX5) (T := TX5) (N := 7) (ci := 5) hx hb hta kw_X5 hown hK hw 0 (hcs _ (by omega)) (by unfold isB; omega) rfl rfl 0 (by decide) (hta _ kw_208) rfl rfl dX5_set_28 ?_
    refine q_getN (v := .ref (w.1 8)) (host := RX5) (C := RX4) (T := TX4) (N := 5) (ci := 4) hx hb hta kw_X4 hown hK hw 1 (hcs _ (by omega)) (by unfold isB; omega) rfl rfl 3 (by decide) (by decide +kernel) rfl rfl dX5_set_31 ?_
    refine lv_iload_n hx hb dX5_set_34 rfl (lv_at hl 2 rfl) ?_
    obtain ⟨hin5, h⟩ := h
    have hv6 : 32 ≤ (32 + cl v1) ∧ (32 + cl v1) < 38 := vp_iv hin5
    refine q_aald (b := 32) (n := 6) hx hb hK hw (a := 8) (hcs _ (by omega)) (by unfold isO; omega) rfl rfl hin5 dX5_set_35 ?_
    refine lv_iload_n hx hb dX5_set_36 rfl (lv_at hl 3 rfl) ?_
    refine lv_aload_n hx hb dX5_set_37 rfl (lv_at hl 1 rfl) ?_
    refine q_get (v := .ref (w.1 1)) (C := RX5) (T := TX5) (N := 7) (ci := 5) hx hb hta kw_X5 hown hK hw 0 (hcs _ (by omega)) (by unfold isB; omega) rfl rfl 0 (by decide) (hta _ kw_208) rfl rfl dX5_set_38 ?_
    refine lv_iload_n hx hb dX5_set_41 rfl (lv_at hl 4 rfl) ?_
    refine q_calli hw (va_runV (As := [.int v3]) (rest := [.int v2, .ref (w.1 (32 + cl v1))]) C (mX4_remainder l w cs (fun c h => hcs c (by omega)) _ G B v3 _ h) (cwV 1 hta (gVw kw_220 kw_134 kw_135 kw_36 kw_132) rfl rfl rfl (by decide +kernel) ⟨Nat.le_of_ble_eq_true rfl, Nat.le_of_ble_eq_true rfl⟩) (preV hK hw 1 (hcs _ (by omega)) (by unfold isB; omega) rfl rfl _) rfl rfl hl.1 rfl (lv_room (Nat.le_of_ble_eq_true rfl)) dX5_set_42 ⟨Nat.le_refl 0, Nat.le_refl 0⟩) (fun r42 G42 B42 H locs h hw => ?_)
    obtain ⟨h, e1, e2⟩ := h; subst e1; subst e2
    obtain ⟨hin7, h⟩ := h
    refine q_iast (n := 12) hx hb hK hw (hcs _ (by omega)) (isI_row (by omega) (by omega)) (ln_iv32 hv6) hin7 dX5_set_45 (fun H locs G45 eG45 hw => ?_)
    have h := h G45 eG45
    refine lv_iload hx hb dX5_set_46 (lv_at hl 0 rfl) ?_
    exact q_reti hx hb hr hw ⟨h, rfl⟩ dX5_set_48
  · have h := h.2 c1
    refine lv_iconst (v := -1) hx hb dX5_set_12 (by decide) ?_
    exact q_reti hx hb hr hw ⟨h, rfl⟩ dX5_set_13
def wX5_powers (v1 : Int32) (G : GS) (P : Int32 → GS → Prop) : Prop := ((v1 < 0 → P (-1 : Int32) G) ∧ (¬ v1 < 0 → ((v1 < (G 1 0) → (wX4_fillWithPowers v1 G (fun G22 => P (0 : Int32) G22))) ∧ (¬ v1 < (G 1 0) → P (-1 : Int32) G))))
set_option maxHeartbeats 4000000 in
set_option maxRecDepth 100000 in
theorem mX5_powers (l : Launch) (w : WE) (cs : List Nat) (hcs : ∀ c, c < 56 → c ∈ cs) (sz : Nat) (G : GS) (B : BS) (v1 : Int32) (P : Int32 → GS → Prop) (h : wX5_powers v1 G P) : Met l yX5_powers wsX5_powers (rmW 1) (PcW w cs sz G B [.ref (w.1 0), .int v1]) (QI w cs sz (fun r G1 B1 => P r G1 ∧ B = B1)) 0 0 (AA w cs sz) := by
  refine metW (own := RX5) [.ref (w.1 0), .int v1] (by decide +kernel) rfl rfl (Nat.le_of_ble_eq_true rfl) ?_
  intro p e s m below meth c ls hsz C hr hK hw hl
  subst hsz
  have hx := C.1
  have hb := C.2.1
  have hown := C.2.2.2.1
  have hta := fun w h => C.2.2.2.2 w (List.mem_cons_of_mem _ h)
  have hl : lv_has ls 2 [(0, .ref (w.1 0)), (1, .int v1)] := hl
  refine lv_iload_n hx hb dX5_powers_0 rfl (lv_at hl 1 rfl) ?_
  refine lv_if_lt (tgt := 15) hx hb dX5_powers_1 (by decide) (fun c1 => ?_) (fun c1 => ?_)
  · have h := h.1 c1
    refine lv_iconst (v := -1) hx hb dX5_powers_15 (by decide) ?_
    exact q_reti hx hb hr hw ⟨h, rfl⟩ dX5_powers_16
  · have h := h.2 c1
    refine lv_iload_n hx hb dX5_powers_4 rfl (lv_at hl 1 rfl) ?_
    refine lv_aload_n hx hb dX5_powers_5 rfl (lv_at hl 0 rfl) ?_
    refine q_get (v := .ref (w.1 1)) (C := RX5) (T := TX5) (N := 7) (ci := 5) hx hb hta kw_X5 hown hK hw 0 (hcs _ (by omega)) (by unfold isB; omega) rfl rfl 0 (by decide) (hta _ kw_208) rfl rfl dX5_powers_6 ?_
    refine q_getN (v := .int (G 1 0)) (host := RX5) (C := RX4) (T := TX4) (N := 5) (ci := 4) hx hb hta kw_X4 hown hK hw 1 (hcs _ (by omega)) (by unfold isB; omega) rfl rfl 0 (by decide) (by decide +kernel) rfl rfl dX5_powers_9 ?_
    refine lv_icmp_lt (tgt := 17) hx hb dX5_powers_12 (by decide) (fun c2 => ?_) (fun c2 => ?_)
    · have h := h.1 c2
      refine lv_aload_n hx hb dX5_powers_17 rfl (lv_at hl 0 rfl) ?_
      refine q_get (v := .ref (w.1 1)) (C := RX5) (T := TX5) (N := 7) (ci := 5) hx hb hta kw_X5 hown hK hw 0 (hcs _ (by omega)) (by unfold isB; omega) rfl rfl 0 (by decide) (hta _ kw_208) rfl rfl dX5_powers_18 ?_
      refine lv_iload_n hx hb dX5_powers_21 rfl (lv_at hl 1 rfl) ?_
      refine q_callv hw (va_runV (As := [.int v1]) (rest := []) C (mX4_fillWithPowers l w cs (fun c h => hcs c (by omega)) _ G B v1 _ h) (cwV 1 hta (gVw kw_222 kw_223 kw_224 kw_36 kw_221) rfl rfl rfl (by decide +kernel) ⟨Nat.le_of_ble_eq_true rfl, Nat.le_of_ble_eq_true rfl⟩) (preV hK hw 1 (hcs _ (by omega)) (by unfold isB; omega) rfl rfl _) rfl rfl hl.1 rfl (lv_room (Nat.le_of_ble_eq_true rfl)) dX5_powers_22 ⟨Nat.le_refl 0, Nat.le_refl 0⟩) (fun G22 B22 H locs h hw => ?_)
      obtain ⟨h, e2⟩ := h; subst e2
      refine lv_iconst (v := 0) hx hb dX5_powers_25 (by decide) ?_
      exact q_reti hx hb hr hw ⟨h, rfl⟩ dX5_powers_26
    · have h := h.2 c2
      refine lv_iconst (v := -1) hx hb dX5_powers_15 (by decide) ?_
      exact q_reti hx hb hr hw ⟨h, rfl⟩ dX5_powers_16
def wX5_at (v1 : Int32) (v2 : Int32) (G : GS) (P : Int32 → Prop) : Prop := (wX4_has v1 v2 G (fun r6 => ((r6 = 0 → P (-1 : Int32)) ∧ (¬ r6 = 0 → (vp_in v1 6 ∧ (vp_in v2 12 ∧ P (G (32 + cl v1) (cl v2))))))))
set_option maxHeartbeats 4000000 in
set_option maxRecDepth 100000 in
theorem mX5_at (l : Launch) (w : WE) (cs : List Nat) (hcs : ∀ c, c < 56 → c ∈ cs) (sz : Nat) (G : GS) (B : BS) (v1 : Int32) (v2 : Int32) (P : Int32 → Prop) (h : wX5_at v1 v2 G P) : Met l yX5_at wsX5_at (rmW 1) (PcW w cs sz G B [.ref (w.1 0), .int v1, .int v2]) (QI w cs sz (fun r G1 B1 => P r ∧ G = G1 ∧ B = B1)) 0 0 (AA w cs sz) := by
  refine metW (own := RX5) [.ref (w.1 0), .int v1, .int v2] (by decide +kernel) rfl rfl (Nat.le_of_ble_eq_true rfl) ?_
  intro p e s m below meth c ls hsz C hr hK hw hl
  subst hsz
  have hx := C.1
  have hb := C.2.1
  have hown := C.2.2.2.1
  have hta := fun w h => C.2.2.2.2 w (List.mem_cons_of_mem _ h)
  have hl : lv_has ls 3 [(0, .ref (w.1 0)), (1, .int v1), (2, .int v2)] := hl
  refine lv_aload_n hx hb dX5_at_0 rfl (lv_at hl 0 rfl) ?_
  refine q_get (v := .ref (w.1 1)) (C := RX5) (T := TX5) (N := 7) (ci := 5) hx hb hta kw_X5 hown hK hw 0 (hcs _ (by omega)) (by unfold isB; omega) rfl rfl 0 (by decide) (hta _ kw_208) rfl rfl dX5_at_1 ?_
  refine lv_iload_n hx hb dX5_at_4 rfl (lv_at hl 1 rfl) ?_
  refine lv_iload_n hx hb dX5_at_5 rfl (lv_at hl 2 rfl) ?_
  refine q_calli hw (va_runV (As := [.int v1, .int v2]) (rest := []) C (mX4_has l w cs (fun c h => hcs c (by omega)) _ G B v1 v2 _ h) (cwV 2 hta (gVw kw_217 kw_218 kw_219 kw_36 kw_216) rfl rfl rfl (by decide +kernel) ⟨Nat.le_of_ble_eq_true rfl, Nat.le_of_ble_eq_true rfl⟩) (preV hK hw 1 (hcs _ (by omega)) (by unfold isB; omega) rfl rfl _) rfl rfl hl.1 rfl (lv_room (Nat.le_of_ble_eq_true rfl)) dX5_at_6 ⟨Nat.le_refl 0, Nat.le_refl 0⟩) (fun r6 G6 B6 H locs h hw => ?_)
  obtain ⟨h, e1, e2⟩ := h; subst e1; subst e2
  refine lv_if_eq (tgt := 26) hx hb dX5_at_9 (by decide) (fun c1 => ?_) (fun c1 => ?_)
  · have h := h.1 c1
    refine lv_iconst (v := -1) hx hb dX5_at_26 (by decide) ?_
    exact q_reti hx hb hr hw ⟨h, rfl, rfl⟩ dX5_at_27
  · have h := h.2 c1
    refine lv_aload_n hx hb dX5_at_12 rfl (lv_at hl 0 rfl) ?_
    refine q_get (v := .ref (w.1 1)) (C := RX5) (T := TX5) (N := 7) (ci := 5) hx hb hta kw_X5 hown hK hw 0 (hcs _ (by omega)) (by unfold isB; omega) rfl rfl 0 (by decide) (hta _ kw_208) rfl rfl dX5_at_13 ?_
    refine q_getN (v := .ref (w.1 8)) (host := RX5) (C := RX4) (T := TX4) (N := 5) (ci := 4) hx hb hta kw_X4 hown hK hw 1 (hcs _ (by omega)) (by unfold isB; omega) rfl rfl 3 (by decide) (by decide +kernel) rfl rfl dX5_at_16 ?_
    refine lv_iload_n hx hb dX5_at_19 rfl (lv_at hl 1 rfl) ?_
    obtain ⟨hin2, h⟩ := h
    have hv3 : 32 ≤ (32 + cl v1) ∧ (32 + cl v1) < 38 := vp_iv hin2
    refine q_aald (b := 32) (n := 6) hx hb hK hw (a := 8) (hcs _ (by omega)) (by unfold isO; omega) rfl rfl hin2 dX5_at_20 ?_
    refine lv_iload_n hx hb dX5_at_21 rfl (lv_at hl 2 rfl) ?_
    obtain ⟨hin4, h⟩ := h
    refine q_iald (n := 12) hx hb hK hw (hcs _ (by omega)) (isI_row (by omega) (by omega)) (ln_iv32 hv3) hin4 dX5_at_22 ?_
    refine lv_goto (tgt := 27) hx hb dX5_at_23 (by decide) ?_
    exact q_reti hx hb hr hw ⟨h, rfl, rfl⟩ dX5_at_27
def wX5_judge (v1 : Int32) (G : GS) (P : Int32 → GS → Prop) : Prop := ((v1 = 0 → (wX2_rank G (fun r36 G36 => P r36 G36))) ∧ ((v1 = 1 → (wX2_spark G (fun r44 G44 => P r44 G44))) ∧ ((v1 = 2 → (wX2_spark G (fun r52 G52 => P ((r52 - (1 : Int32)) / (2 : Int32)) G52))) ∧ ((v1 = 3 → (wX4_mostLike G (fun r64 => P r64 G))) ∧ (¬ v1 = 0 ∧ ¬ v1 = 1 ∧ ¬ v1 = 2 ∧ ¬ v1 = 3 → P (-1 : Int32) G)))))
set_option maxHeartbeats 4000000 in
set_option maxRecDepth 100000 in
theorem mX5_judge (l : Launch) (w : WE) (cs : List Nat) (hcs : ∀ c, c < 56 → c ∈ cs) (sz : Nat) (G : GS) (B : BS) (v1 : Int32) (P : Int32 → GS → Prop) (h : wX5_judge v1 G P) : Met l yX5_judge wsX5_judge (rmW 28) (PcW w cs sz G B [.ref (w.1 0), .int v1]) (QI w cs sz (fun r G1 B1 => P r G1 ∧ B = B1)) 0 0 (AA w cs sz) := by
  refine metW (own := RX5) [.ref (w.1 0), .int v1] (by decide +kernel) rfl rfl (Nat.le_of_ble_eq_true rfl) ?_
  intro p e s m below meth c ls hsz C hr hK hw hl
  subst hsz
  have hx := C.1
  have hb := C.2.1
  have hown := C.2.2.2.1
  have hta := fun w h => C.2.2.2.2 w (List.mem_cons_of_mem _ h)
  have hl : lv_has ls 2 [(0, .ref (w.1 0)), (1, .int v1)] := hl
  refine lv_iload_n hx hb dX5_judge_0 rfl (lv_at hl 1 rfl) ?_
  by_cases c1 : v1 = 0
  · have h := h.1 c1
    refine lv_tableIn (tgt := 32) hx hb dX5_judge_1 (by rw [c1]; decide) (by rw [c1]; decide) (by rw [c1]; rfl) (by decide) ?_
    refine lv_aload_n hx hb dX5_judge_32 rfl (lv_at hl 0 rfl) ?_
    refine q_get (v := .ref (w.1 2)) (C := RX5) (T := TX5) (N := 7) (ci := 5) hx hb hta kw_X5 hown hK hw 0 (hcs _ (by omega)) (by unfold isB; omega) rfl rfl 1 (by decide) (hta _ kw_225) rfl rfl dX5_judge_33 ?_
    refine q_calli hw (va_runV (As := []) (rest := []) C (mX2_rank l w cs (fun c h => hcs c (by omega)) _ G B _ h) (cwV 0 hta (gVw kw_227 kw_228 kw_229 kw_56 kw_226) rfl rfl rfl (by decide +kernel) ⟨Nat.le_of_ble_eq_true rfl, Nat.le_of_ble_eq_true rfl⟩) (preV hK hw 2 (hcs _ (by omega)) (by unfold isB; omega) rfl rfl _) rfl rfl hl.1 rfl (lv_room (Nat.le_of_ble_eq_true rfl)) dX5_judge_36 ⟨Nat.le_refl 0, Nat.le_refl 0⟩) (fun r36 G36 B36 H locs h hw => ?_)
    obtain ⟨h, e2⟩ := h; subst e2
    exact q_reti hx hb hr hw ⟨h, rfl⟩ dX5_judge_39
  have h := h.2
  by_cases c2 : v1 = 1
  · have h := h.1 c2
    refine lv_tableIn (tgt := 40) hx hb dX5_judge_1 (by rw [c2]; decide) (by rw [c2]; decide) (by rw [c2]; rfl) (by decide) ?_
    refine lv_aload_n hx hb dX5_judge_40 rfl (lv_at hl 0 rfl) ?_
    refine q_get (v := .ref (w.1 2)) (C := RX5) (T := TX5) (N := 7) (ci := 5) hx hb hta kw_X5 hown hK hw 0 (hcs _ (by omega)) (by unfold isB; omega) rfl rfl 1 (by decide) (hta _ kw_225) rfl rfl dX5_judge_41 ?_
    refine q_calli hw (va_runV (As := []) (rest := []) C (mX2_spark l w cs (fun c h => hcs c (by omega)) _ G B _ h) (cwV 0 hta (gVw kw_231 kw_232 kw_233 kw_56 kw_230) rfl rfl rfl (by decide +kernel) ⟨Nat.le_of_ble_eq_true rfl, Nat.le_of_ble_eq_true rfl⟩) (preV hK hw 2 (hcs _ (by omega)) (by unfold isB; omega) rfl rfl _) rfl rfl hl.1 rfl (lv_room (Nat.le_of_ble_eq_true rfl)) dX5_judge_44 ⟨Nat.le_refl 0, Nat.le_refl 0⟩) (fun r44 G44 B44 H locs h hw => ?_)
    obtain ⟨h, e2⟩ := h; subst e2
    exact q_reti hx hb hr hw ⟨h, rfl⟩ dX5_judge_47
  have h := h.2
  by_cases c3 : v1 = 2
  · have h := h.1 c3
    refine lv_tableIn (tgt := 48) hx hb dX5_judge_1 (by rw [c3]; decide) (by rw [c3]; decide) (by rw [c3]; rfl) (by decide) ?_
    refine lv_aload_n hx hb dX5_judge_48 rfl (lv_at hl 0 rfl) ?_
    refine q_get (v := .ref (w.1 2)) (C := RX5) (T := TX5) (N := 7) (ci := 5) hx hb hta kw_X5 hown hK hw 0 (hcs _ (by omega)) (by unfold isB; omega) rfl rfl 1 (by decide) (hta _ kw_225) rfl rfl dX5_judge_49 ?_
    refine q_calli hw (va_runV (As := []) (rest := []) C (mX2_spark l w cs (fun c h => hcs c (by omega)) _ G B _ h) (cwV 0 hta (gVw kw_231 kw_232 kw_233 kw_56 kw_230) rfl rfl rfl (by decide +kernel) ⟨Nat.le_of_ble_eq_true rfl, Nat.le_of_ble_eq_true rfl⟩) (preV hK hw 2 (hcs _ (by omega)) (by unfold isB; omega) rfl rfl _) rfl rfl hl.1 rfl (lv_room (Nat.le_of_ble_eq_true rfl)) dX5_judge_52 ⟨Nat.le_refl 0, Nat.le_refl 0⟩) (fun r52 G52 B52 H locs h hw => ?_)
    obtain ⟨h, e2⟩ := h; subst e2
    refine lv_iconst (v := 1) hx hb dX5_judge_55 (by decide) ?_
    refine lv_isub hx hb dX5_judge_56 ?_
    refine lv_iconst (v := 2) hx hb dX5_judge_57 (by decide) ?_
    refine lv_idiv hx hb dX5_judge_58 (by decide) ?_
    exact q_reti hx hb hr hw ⟨h, rfl⟩ dX5_judge_59
  have h := h.2
  by_cases c4 : v1 = 3
  · have h := h.1 c4
    refine lv_tableIn (tgt := 60) hx hb dX5_judge_1 (by rw [c4]; decide) (by rw [c4]; decide) (by rw [c4]; rfl) (by decide) ?_
    refine lv_aload_n hx hb dX5_judge_60 rfl (lv_at hl 0 rfl) ?_
    refine q_get (v := .ref (w.1 1)) (C := RX5) (T := TX5) (N := 7) (ci := 5) hx hb hta kw_X5 hown hK hw 0 (hcs _ (by omega)) (by unfold isB; omega) rfl rfl 0 (by decide) (hta _ kw_208) rfl rfl dX5_judge_61 ?_
    refine q_calli hw (va_runV (As := []) (rest := []) C (mX4_mostLike l w cs (fun c h => hcs c (by omega)) _ G B _ h) (cwV 0 hta (gVw kw_235 kw_236 kw_237 kw_36 kw_234) rfl rfl rfl (by decide +kernel) ⟨Nat.le_of_ble_eq_true rfl, Nat.le_of_ble_eq_true rfl⟩) (preV hK hw 1 (hcs _ (by omega)) (by unfold isB; omega) rfl rfl _) rfl rfl hl.1 rfl (lv_room (Nat.le_of_ble_eq_true rfl)) dX5_judge_64 ⟨Nat.le_refl 0, Nat.le_refl 0⟩) (fun r64 G64 B64 H locs h hw => ?_)
    obtain ⟨h, e1, e2⟩ := h; subst e1; subst e2
    exact q_reti hx hb hr hw ⟨h, rfl⟩ dX5_judge_67
  have h := h.2
  have h := h ⟨c1, c2, c3, c4⟩
  refine lv_tableOut (tgt := 68) hx hb dX5_judge_1 (tsw_out3 c1 c2 c3 c4) (by decide) ?_
  refine lv_iconst (v := -1) hx hb dX5_judge_68 (by decide) ?_
  exact q_reti hx hb hr hw ⟨h, rfl⟩ dX5_judge_69
def wX5_put (v1 : Int32) (v2 : Int32) (v3 : Int32) (G : GS) (P : Int32 → GS → Prop) : Prop := (wX5_isKept v1 (fun r1 => ((r1 = 0 → P (-1 : Int32) G) ∧ (¬ r1 = 0 → ((v2 < 0 → P (-1 : Int32) G) ∧ (¬ v2 < 0 → ((v2 < (G 1 2) → (vp_in v1 6 ∧ (wX4_remainder v3 G (fun r36 => (vp_in v2 12 ∧ (∀ G39 : GS, G39 = wr G (20 + cl v1) (cl v2) r36 → (vp_in v1 6 ∧ (wX5_weight (20 + cl v1) G39 (fun r46 => P r46 G39))))))))) ∧ (¬ v2 < (G 1 2) → P (-1 : Int32) G))))))))
set_option maxHeartbeats 4000000 in
set_option maxRecDepth 100000 in
theorem mX5_put (l : Launch) (w : WE) (cs : List Nat) (hcs : ∀ c, c < 56 → c ∈ cs) (sz : Nat) (G : GS) (B : BS) (v1 : Int32) (v2 : Int32) (v3 : Int32) (P : Int32 → GS → Prop) (h : wX5_put v1 v2 v3 G P) : Met l yX5_put wsX5_put (rmW 2) (PcW w cs sz G B [.ref (w.1 0), .int v1, .int v2, .int v3]) (QI w cs sz (fun r G1 B1 => P r G1 ∧ B = B1)) 0 0 (AA w cs sz) := by
  refine metW (own := RX5) [.ref (w.1 0), .int v1, .int v2, .int v3] (by decide +kernel) rfl rfl (Nat.le_of_ble_eq_true rfl) ?_
  intro p e s m below meth c ls hsz C hr hK hw hl
  subst hsz
  have hx := C.1
  have hb := C.2.1
  have hown := C.2.2.2.1
  have hta := fun w h => C.2.2.2.2 w (List.mem_cons_of_mem _ h)
  have hl : lv_has ls 4 [(0, .ref (w.1 0)), (1, .int v1), (2, .int v2), (3, .int v3)] := hl
  refine lv_iload_n hx hb dX5_put_0 rfl (lv_at hl 1 rfl) ?_
  refine q_calli hw (va_runS (As := [.int v1]) (rest := []) C (mX5_isKept l w cs _ G B v1 _ h) (va_cwS 1 hta (gSw kw_239 kw_240 kw_30 kw_238) rfl rfl rfl (by decide +kernel) ⟨Nat.le_of_ble_eq_true rfl, Nat.le_of_ble_eq_true rfl⟩) (preS hK hw _) rfl rfl hl.1 rfl (lv_room (Nat.le_of_ble_eq_true rfl)) dX5_put_1 ⟨Nat.le_refl 0, Nat.le_refl 0⟩) (fun r1 G1 B1 H locs h hw => ?_)
  obtain ⟨h, e1, e2⟩ := h; subst e1; subst e2
  refine lv_if_eq (tgt := 22) hx hb dX5_put_4 (by decide) (fun c1 => ?_) (fun c1 => ?_)
  · have h := h.1 c1
    refine lv_iconst (v := -1) hx hb dX5_put_22 (by decide) ?_
    exact q_reti hx hb hr hw ⟨h, rfl⟩ dX5_put_23
  · have h := h.2 c1
    refine lv_iload_n hx hb dX5_put_7 rfl (lv_at hl 2 rfl) ?_
    refine lv_if_lt (tgt := 22) hx hb dX5_put_8 (by decide) (fun c2 => ?_) (fun c2 => ?_)
    · have h := h.1 c2
      refine lv_iconst (v := -1) hx hb dX5_put_22 (by decide) ?_
      exact q_reti hx hb hr hw ⟨h, rfl⟩ dX5_put_23
    · have h := h.2 c2
      refine lv_iload_n hx hb dX5_put_11 rfl (lv_at hl 2 rfl) ?_
      refine lv_aload_n hx hb dX5_put_12 rfl (lv_at hl 0 rfl) ?_
      refine q_get (v := .ref (w.1 1)) (C := RX5) (T := TX5) (N := 7) (ci := 5) hx hb hta kw_X5 hown hK hw 0 (hcs _ (by omega)) (by unfold isB; omega) rfl rfl 0 (by decide) (hta _ kw_208) rfl rfl dX5_put_13 ?_
      refine q_getN (v := .int (G 1 2)) (host := RX5) (C := RX4) (T := TX4) (N := 5) (ci := 4) hx hb hta kw_X4 hown hK hw 1 (hcs _ (by omega)) (by unfold isB; omega) rfl rfl 2 (by decide) (by decide +kernel) rfl rfl dX5_put_16 ?_
      refine lv_icmp_lt (tgt := 24) hx hb dX5_put_19 (by decide) (fun c3 => ?_) (fun c3 => ?_)
      · have h := h.1 c3
        refine lv_aload_n hx hb dX5_put_24 rfl (lv_at hl 0 rfl) ?_
        refine q_get (v := .ref (w.1 6)) (C := RX5) (T := TX5) (N := 7) (ci := 5) hx hb hta kw_X5 hown hK hw 0 (hcs _ (by omega)) (by unfold isB; omega) rfl rfl 5 (by decide) (hta _ kw_213) rfl rfl dX5_put_25 ?_
        refine lv_iload_n hx hb dX5_put_28 rfl (lv_at hl 1 rfl) ?_
        obtain ⟨hin4, h⟩ := h
        have hv5 : 20 ≤ (20 + cl v1) ∧ (20 + cl v1) < 26 := vp_iv hin4
        refine q_aald (b := 20) (n := 6) hx hb hK hw (a := 6) (hcs _ (by omega)) (by unfold isO; omega) rfl rfl hin4 dX5_put_29 ?_
        refine lv_iload_n hx hb dX5_put_30 rfl (lv_at hl 2 rfl) ?_
        refine lv_aload_n hx hb dX5_put_31 rfl (lv_at hl 0 rfl) ?_
        refine q_get (v := .ref (w.1 1)) (C := RX5) (T := TX5) (N := 7) (ci := 5) hx hb hta kw_X5 hown hK hw 0 (hcs _ (by omega)) (by unfold isB; omega) rfl rfl 0 (by decide) (hta _ kw_208) rfl rfl dX5_put_32 ?_
        refine lv_iload_n hx hb dX5_put_35 rfl (lv_at hl 3 rfl) ?_
        refine q_calli hw (va_runV (As := [.int v3]) (rest := [.int v2, .ref (w.1 (20 + cl v1))]) C (mX4_remainder l w cs (fun c h => hcs c (by omega)) _ G B v3 _ h) (cwV 1 hta (gVw kw_220 kw_134 kw_135 kw_36 kw_132) rfl rfl rfl (by decide +kernel) ⟨Nat.le_of_ble_eq_true rfl, Nat.le_of_ble_eq_true rfl⟩) (preV hK hw 1 (hcs _ (by omega)) (by unfold isB; omega) rfl rfl _) rfl rfl hl.1 rfl (lv_room (Nat.le_of_ble_eq_true rfl)) dX5_put_36 ⟨Nat.le_refl 0, Nat.le_refl 0⟩) (fun r36 G36 B36 H locs h hw => ?_)
        obtain ⟨h, e1, e2⟩ := h; subst e1; subst e2
        obtain ⟨hin6, h⟩ := h
        refine q_iast (n := 12) hx hb hK hw (hcs _ (by omega)) (isI_row (by omega) (by omega)) (ln_iv20 hv5) hin6 dX5_put_39 (fun H locs G39 eG39 hw => ?_)
        have h := h G39 eG39
        refine lv_aload_n hx hb dX5_put_40 rfl (lv_at hl 0 rfl) ?_
        refine q_get (v := .ref (w.1 6)) (C := RX5) (T := TX5) (N := 7) (ci := 5) hx hb hta kw_X5 hown hK hw 0 (hcs _ (by omega)) (by unfold isB; omega) rfl rfl 5 (by decide) (hta _ kw_213) rfl rfl dX5_put_41 ?_
        refine lv_iload_n hx hb dX5_put_44 rfl (lv_at hl 1 rfl) ?_
        obtain ⟨hin7, h⟩ := h
        have hv8 : 20 ≤ (20 + cl v1) ∧ (20 + cl v1) < 26 := vp_iv hin7
        refine q_aald (b := 20) (n := 6) hx hb hK hw (a := 6) (hcs _ (by omega)) (by unfold isO; omega) rfl rfl hin7 dX5_put_45 ?_
        refine q_calli hw (va_runS (As := [.ref (w.1 (20 + cl v1))]) (rest := []) C (mX5_weight l w cs _ G39 B (20 + cl v1) (isI_row (by omega) (by omega)) (hcs _ (by omega)) _ h) (va_cwS 1 hta (gSw kw_241 kw_150 kw_30 kw_149) rfl rfl rfl (by decide +kernel) ⟨Nat.le_of_ble_eq_true rfl, Nat.le_of_ble_eq_true rfl⟩) (preS hK hw _) rfl rfl hl.1 rfl (lv_room (Nat.le_of_ble_eq_true rfl)) dX5_put_46 ⟨Nat.le_refl 0, Nat.le_refl 0⟩) (fun r46 G46 B46 H locs h hw => ?_)
        obtain ⟨h, e1, e2⟩ := h; subst e1; subst e2
        exact q_reti hx hb hr hw ⟨h, rfl⟩ dX5_put_49
      · have h := h.2 c3
        refine lv_iconst (v := -1) hx hb dX5_put_22 (by decide) ?_
        exact q_reti hx hb hr hw ⟨h, rfl⟩ dX5_put_23
def wX5_row (v1 : Int32) (v2 : Int32) (G : GS) (P : Int32 → Prop) : Prop := (wX5_isKept v1 (fun r1 => ((r1 = 0 → P (-1 : Int32)) ∧ (¬ r1 = 0 → ((v2 < (-1 : Int32) → P (-1 : Int32)) ∧ (¬ v2 < (-1 : Int32) → ((v2 < (G 1 2) → ((¬ v2 = (-1 : Int32) → (vp_in v1 6 ∧ (vp_in v2 12 ∧ P (G (20 + cl v1) (cl v2))))) ∧ (v2 = (-1 : Int32) → (vp_in v1 6 ∧ (wX5_weight (20 + cl v1) G (fun r36 => P r36)))))) ∧ (¬ v2 < (G 1 2) → P (-1 : Int32)))))))))
set_option maxHeartbeats 4000000 in
set_option maxRecDepth 100000 in
theorem mX5_row (l : Launch) (w : WE) (cs : List Nat) (hcs : ∀ c, c < 56 → c ∈ cs) (sz : Nat) (G : GS) (B : BS) (v1 : Int32) (v2 : Int32) (P : Int32 → Prop) (h : wX5_row v1 v2 G P) : Met l yX5_row wsX5_row (rmW 1) (PcW w cs sz G B [.ref (w.1 0), .int v1, .int v2]) (QI w cs sz (fun r G1 B1 => P r ∧ G = G1 ∧ B = B1)) 0 0 (AA w cs sz) := by
  refine metW (own := RX5) [.ref (w.1 0), .int v1, .int v2] (by decide +kernel) rfl rfl (Nat.le_of_ble_eq_true rfl) ?_
  intro p e s m below meth c ls hsz C hr hK hw hl
  subst hsz
  have hx := C.1
  have hb := C.2.1
  have hown := C.2.2.2.1
  have hta := fun w h => C.2.2.2.2 w (List.mem_cons_of_mem _ h)
  have hl : lv_has ls 3 [(0, .ref (w.1 0)), (1, .int v1), (2, .int v2)] := hl
  refine lv_iload_n hx hb dX5_row_0 rfl (lv_at hl 1 rfl) ?_
  refine q_calli hw (va_runS (As := [.int v1]) (rest := []) C (mX5_isKept l w cs _ G B v1 _ h) (va_cwS 1 hta (gSw kw_239 kw_240 kw_30 kw_238) rfl rfl rfl (by decide +kernel) ⟨Nat.le_of_ble_eq_true rfl, Nat.le_of_ble_eq_true rfl⟩) (preS hK hw _) rfl rfl hl.1 rfl (lv_room (Nat.le_of_ble_eq_true rfl)) dX5_row_1 ⟨Nat.le_refl 0, Nat.le_refl 0⟩) (fun r1 G1 B1 H locs h hw => ?_)
  obtain ⟨h, e1, e2⟩ := h; subst e1; subst e2
  refine lv_if_eq (tgt := 23) hx hb dX5_row_4 (by decide) (fun c1 => ?_) (fun c1 => ?_)
  · have h := h.1 c1
    refine lv_iconst (v := -1) hx hb dX5_row_23 (by decide) ?_
    exact q_reti hx hb hr hw ⟨h, rfl, rfl⟩ dX5_row_24
  · have h := h.2 c1
    refine lv_iload_n hx hb dX5_row_7 rfl (lv_at hl 2 rfl) ?_
    refine lv_iconst (v := -1) hx hb dX5_row_8 (by decide) ?_
    refine lv_icmp_lt (tgt := 23) hx hb dX5_row_9 (by decide) (fun c2 => ?_) (fun c2 => ?_)
    · have h := h.1 c2
      refine lv_iconst (v := -1) hx hb dX5_row_23 (by decide) ?_
      exact q_reti hx hb hr hw ⟨h, rfl, rfl⟩ dX5_row_24
    · have h := h.2 c2
      refine lv_iload_n hx hb dX5_row_12 rfl (lv_at hl 2 rfl) ?_
      refine lv_aload_n hx hb dX5_row_13 rfl (lv_at hl 0 rfl) ?_
      refine q_get (v := .ref (w.1 1)) (C := RX5) (T := TX5) (N := 7) (ci := 5) hx hb hta kw_X5 hown hK hw 0 (hcs _ (by omega)) (by unfold isB; omega) rfl rfl 0 (by decide) (hta _ kw_208) rfl rfl dX5_row_14 ?_
      refine q_getN (v := .int (G 1 2)) (host := RX5) (C := RX4) (T := TX4) (N := 5) (ci := 4) hx hb hta kw_X4 hown hK hw 1 (hcs _ (by omega)) (by unfold isB; omega) rfl rfl 2 (by decide) (by decide +kernel) rfl rfl dX5_row_17 ?_
      refine lv_icmp_lt (tgt := 25) hx hb dX5_row_20 (by decide) (fun c3 => ?_) (fun c3 => ?_)
      · have h := h.1 c3
        refine lv_iload_n hx hb dX5_row_25 rfl (lv_at hl 2 rfl) ?_
        refine lv_iconst (v := -1) hx hb dX5_row_26 (by decide) ?_
        refine lv_icmp_ne (tgt := 42) hx hb dX5_row_27 (by decide) (fun c4 => ?_) (fun c4 => ?_)
        · have h := h.1 c4
          refine lv_aload_n hx hb dX5_row_42 rfl (lv_at hl 0 rfl) ?_
          refine q_get (v := .ref (w.1 6)) (C := RX5) (T := TX5) (N := 7) (ci := 5) hx hb hta kw_X5 hown hK hw 0 (hcs _ (by omega)) (by unfold isB; omega) rfl rfl 5 (by decide) (hta _ kw_213) rfl rfl dX5_row_43 ?_
          refine lv_iload_n hx hb dX5_row_46 rfl (lv_at hl 1 rfl) ?_
          obtain ⟨hin5, h⟩ := h
          have hv6 : 20 ≤ (20 + cl v1) ∧ (20 + cl v1) < 26 := vp_iv hin5
          refine q_aald (b := 20) (n := 6) hx hb hK hw (a := 6) (hcs _ (by omega)) (by unfold isO; omega) rfl rfl hin5 dX5_row_47 ?_
          refine lv_iload_n hx hb dX5_row_48 rfl (lv_at hl 2 rfl) ?_
          obtain ⟨hin7, h⟩ := h
          refine q_iald (n := 12) hx hb hK hw (hcs _ (by omega)) (isI_row (by omega) (by omega)) (ln_iv20 hv6) hin7 dX5_row_49 ?_
          exact q_reti hx hb hr hw ⟨h, rfl, rfl⟩ dX5_row_50
        · have h := h.2 c4
          refine lv_aload_n hx hb dX5_row_30 rfl (lv_at hl 0 rfl) ?_
          refine q_get (v := .ref (w.1 6)) (C := RX5) (T := TX5) (N := 7) (ci := 5) hx hb hta kw_X5 hown hK hw 0 (hcs _ (by omega)) (by unfold isB; omega) rfl rfl 5 (by decide) (hta _ kw_213) rfl rfl dX5_row_31 ?_
          refine lv_iload_n hx hb dX5_row_34 rfl (lv_at hl 1 rfl) ?_
          obtain ⟨hin8, h⟩ := h
          have hv9 : 20 ≤ (20 + cl v1) ∧ (20 + cl v1) < 26 := vp_iv hin8
          refine q_aald (b := 20) (n := 6) hx hb hK hw (a := 6) (hcs _ (by omega)) (by unfold isO; omega) rfl rfl hin8 dX5_row_35 ?_
          refine q_calli hw (va_runS (As := [.ref (w.1 (20 + cl v1))]) (rest := []) C (mX5_weight l w cs _ G B (20 + cl v1) (isI_row (by omega) (by omega)) (hcs _ (by omega)) _ h) (va_cwS 1 hta (gSw kw_241 kw_150 kw_30 kw_149) rfl rfl rfl (by decide +kernel) ⟨Nat.le_of_ble_eq_true rfl, Nat.le_of_ble_eq_true rfl⟩) (preS hK hw _) rfl rfl hl.1 rfl (lv_room (Nat.le_of_ble_eq_true rfl)) dX5_row_36 ⟨Nat.le_refl 0, Nat.le_refl 0⟩) (fun r36 G36 B36 H locs h hw => ?_)
          obtain ⟨h, e1, e2⟩ := h; subst e1; subst e2
          refine lv_goto (tgt := 50) hx hb dX5_row_39 (by decide) ?_
          exact q_reti hx hb hr hw ⟨h, rfl, rfl⟩ dX5_row_50
      · have h := h.2 c3
        refine lv_iconst (v := -1) hx hb dX5_row_23 (by decide) ?_
        exact q_reti hx hb hr hw ⟨h, rfl, rfl⟩ dX5_row_24
def wX5_sum (v1 : Int32) (v2 : Int32) (v3 : Int32) (G : GS) (P : Int32 → GS → Prop) : Prop := (wX5_isKept v1 (fun r1 => ((r1 = 0 → P (-1 : Int32) G) ∧ (¬ r1 = 0 → ((v2 < 0 → P (-1 : Int32) G) ∧ (¬ v2 < 0 → ((v2 < (G 1 1) → (vp_in v1 6 ∧ (wX4_remainder v3 G (fun r36 => (vp_in v2 6 ∧ (∀ G39 : GS, G39 = wr G (26 + cl v1) (cl v2) r36 → (vp_in v1 6 ∧ (wX5_weight (26 + cl v1) G39 (fun r46 => P r46 G39))))))))) ∧ (¬ v2 < (G 1 1) → P (-1 : Int32) G))))))))
set_option maxHeartbeats 4000000 in
set_option maxRecDepth 100000 in
theorem mX5_sum (l : Launch) (w : WE) (cs : List Nat) (hcs : ∀ c, c < 56 → c ∈ cs) (sz : Nat) (G : GS) (B : BS) (v1 : Int32) (v2 : Int32) (v3 : Int32) (P : Int32 → GS → Prop) (h : wX5_sum v1 v2 v3 G P) : Met l yX5_sum wsX5_sum (rmW 2) (PcW w cs sz G B [.ref (w.1 0), .int v1, .int v2, .int v3]) (QI w cs sz (fun r G1 B1 => P r G1 ∧ B = B1)) 0 0 (AA w cs sz) := by
  refine metW (own := RX5) [.ref (w.1 0), .int v1, .int v2, .int v3] (by decide +kernel) rfl rfl (Nat.le_of_ble_eq_true rfl) ?_
  intro p e s m below meth c ls hsz C hr hK hw hl
  subst hsz
  have hx := C.1
  have hb := C.2.1
  have hown := C.2.2.2.1
  have hta := fun w h => C.2.2.2.2 w (List.mem_cons_of_mem _ h)
  have hl : lv_has ls 4 [(0, .ref (w.1 0)), (1, .int v1), (2, .int v2), (3, .int v3)] := hl
  refine lv_iload_n hx hb dX5_sum_0 rfl (lv_at hl 1 rfl) ?_
  refine q_calli hw (va_runS (As := [.int v1]) (rest := []) C (mX5_isKept l w cs _ G B v1 _ h) (va_cwS 1 hta (gSw kw_239 kw_240 kw_30 kw_238) rfl rfl rfl (by decide +kernel) ⟨Nat.le_of_ble_eq_true rfl, Nat.le_of_ble_eq_true rfl⟩) (preS hK hw _) rfl rfl hl.1 rfl (lv_room (Nat.le_of_ble_eq_true rfl)) dX5_sum_1 ⟨Nat.le_refl 0, Nat.le_refl 0⟩) (fun r1 G1 B1 H locs h hw => ?_)
  obtain ⟨h, e1, e2⟩ := h; subst e1; subst e2
  refine lv_if_eq (tgt := 22) hx hb dX5_sum_4 (by decide) (fun c1 => ?_) (fun c1 => ?_)
  · have h := h.1 c1
    refine lv_iconst (v := -1) hx hb dX5_sum_22 (by decide) ?_
    exact q_reti hx hb hr hw ⟨h, rfl⟩ dX5_sum_23
  · have h := h.2 c1
    refine lv_iload_n hx hb dX5_sum_7 rfl (lv_at hl 2 rfl) ?_
    refine lv_if_lt (tgt := 22) hx hb dX5_sum_8 (by decide) (fun c2 => ?_) (fun c2 => ?_)
    · have h := h.1 c2
      refine lv_iconst (v := -1) hx hb dX5_sum_22 (by decide) ?_
      exact q_reti hx hb hr hw ⟨h, rfl⟩ dX5_sum_23
    · have h := h.2 c2
      refine lv_iload_n hx hb dX5_sum_11 rfl (lv_at hl 2 rfl) ?_
      refine lv_aload_n hx hb dX5_sum_12 rfl (lv_at hl 0 rfl) ?_
      refine q_get (v := .ref (w.1 1)) (C := RX5) (T := TX5) (N := 7) (ci := 5) hx hb hta kw_X5 hown hK hw 0 (hcs _ (by omega)) (by unfold isB; omega) rfl rfl 0 (by decide) (hta _ kw_208) rfl rfl dX5_sum_13 ?_
      refine q_getN (v := .int (G 1 1)) (host := RX5) (C := RX4) (T := TX4) (N := 5) (ci := 4) hx hb hta kw_X4 hown hK hw 1 (hcs _ (by omega)) (by unfold isB; omega) rfl rfl 1 (by decide) (by decide +kernel) rfl rfl dX5_sum_16 ?_
      refine lv_icmp_lt (tgt := 24) hx hb dX5_sum_19 (by decide) (fun c3 => ?_) (fun c3 => ?_)
      · have h := h.1 c3
        refine lv_aload_n hx hb dX5_sum_24 rfl (lv_at hl 0 rfl) ?_
        refine q_get (v := .ref (w.1 7)) (C := RX5) (T := TX5) (N := 7) (ci := 5) hx hb hta kw_X5 hown hK hw 0 (hcs _ (by omega)) (by unfold isB; omega) rfl rfl 6 (by decide) (hta _ kw_215) rfl rfl dX5_sum_25 ?_
        refine lv_iload_n hx hb dX5_sum_28 rfl (lv_at hl 1 rfl) ?_
        obtain ⟨hin4, h⟩ := h
        have hv5 : 26 ≤ (26 + cl v1) ∧ (26 + cl v1) < 32 := vp_iv hin4
        refine q_aald (b := 26) (n := 6) hx hb hK hw (a := 7) (hcs _ (by omega)) (by unfold isO; omega) rfl rfl hin4 dX5_sum_29 ?_
        refine lv_iload_n hx hb dX5_sum_30 rfl (lv_at hl 2 rfl) ?_
        refine lv_aload_n hx hb dX5_sum_31 rfl (lv_at hl 0 rfl) ?_
        refine q_get (v := .ref (w.1 1)) (C := RX5) (T := TX5) (N := 7) (ci := 5) hx hb hta kw_X5 hown hK hw 0 (hcs _ (by omega)) (by unfold isB; omega) rfl rfl 0 (by decide) (hta _ kw_208) rfl rfl dX5_sum_32 ?_
        refine lv_iload_n hx hb dX5_sum_35 rfl (lv_at hl 3 rfl) ?_
        refine q_calli hw (va_runV (As := [.int v3]) (rest := [.int v2, .ref (w.1 (26 + cl v1))]) C (mX4_remainder l w cs (fun c h => hcs c (by omega)) _ G B v3 _ h) (cwV 1 hta (gVw kw_220 kw_134 kw_135 kw_36 kw_132) rfl rfl rfl (by decide +kernel) ⟨Nat.le_of_ble_eq_true rfl, Nat.le_of_ble_eq_true rfl⟩) (preV hK hw 1 (hcs _ (by omega)) (by unfold isB; omega) rfl rfl _) rfl rfl hl.1 rfl (lv_room (Nat.le_of_ble_eq_true rfl)) dX5_sum_36 ⟨Nat.le_refl 0, Nat.le_refl 0⟩) (fun r36 G36 B36 H locs h hw => ?_)
        obtain ⟨h, e1, e2⟩ := h; subst e1; subst e2
        obtain ⟨hin6, h⟩ := h
        refine q_iast (n := 6) hx hb hK hw (hcs _ (by omega)) (isI_row (by omega) (by omega)) (ln_iv26 hv5) hin6 dX5_sum_39 (fun H locs G39 eG39 hw => ?_)
        have h := h G39 eG39
        refine lv_aload_n hx hb dX5_sum_40 rfl (lv_at hl 0 rfl) ?_
        refine q_get (v := .ref (w.1 7)) (C := RX5) (T := TX5) (N := 7) (ci := 5) hx hb hta kw_X5 hown hK hw 0 (hcs _ (by omega)) (by unfold isB; omega) rfl rfl 6 (by decide) (hta _ kw_215) rfl rfl dX5_sum_41 ?_
        refine lv_iload_n hx hb dX5_sum_44 rfl (lv_at hl 1 rfl) ?_
        obtain ⟨hin7, h⟩ := h
        have hv8 : 26 ≤ (26 + cl v1) ∧ (26 + cl v1) < 32 := vp_iv hin7
        refine q_aald (b := 26) (n := 6) hx hb hK hw (a := 7) (hcs _ (by omega)) (by unfold isO; omega) rfl rfl hin7 dX5_sum_45 ?_
        refine q_calli hw (va_runS (As := [.ref (w.1 (26 + cl v1))]) (rest := []) C (mX5_weight l w cs _ G39 B (26 + cl v1) (isI_row (by omega) (by omega)) (hcs _ (by omega)) _ h) (va_cwS 1 hta (gSw kw_241 kw_150 kw_30 kw_149) rfl rfl rfl (by decide +kernel) ⟨Nat.le_of_ble_eq_true rfl, Nat.le_of_ble_eq_true rfl⟩) (preS hK hw _) rfl rfl hl.1 rfl (lv_room (Nat.le_of_ble_eq_true rfl)) dX5_sum_46 ⟨Nat.le_refl 0, Nat.le_refl 0⟩) (fun r46 G46 B46 H locs h hw => ?_)
        obtain ⟨h, e1, e2⟩ := h; subst e1; subst e2
        exact q_reti hx hb hr hw ⟨h, rfl⟩ dX5_sum_49
      · have h := h.2 c3
        refine lv_iconst (v := -1) hx hb dX5_sum_22 (by decide) ?_
        exact q_reti hx hb hr hw ⟨h, rfl⟩ dX5_sum_23
def wX5_told (v1 : Int32) (v2 : Int32) (G : GS) (P : Int32 → Prop) : Prop := (wX5_isKept v1 (fun r1 => ((r1 = 0 → P (-1 : Int32)) ∧ (¬ r1 = 0 → ((v2 < (-1 : Int32) → P (-1 : Int32)) ∧ (¬ v2 < (-1 : Int32) → ((v2 < (G 1 1) → ((¬ v2 = (-1 : Int32) → (vp_in v1 6 ∧ (vp_in v2 6 ∧ P (G (26 + cl v1) (cl v2))))) ∧ (v2 = (-1 : Int32) → (vp_in v1 6 ∧ (wX5_weight (26 + cl v1) G (fun r36 => P r36)))))) ∧ (¬ v2 < (G 1 1) → P (-1 : Int32)))))))))
set_option maxHeartbeats 4000000 in
set_option maxRecDepth 100000 in
theorem mX5_told (l : Launch) (w : WE) (cs : List Nat) (hcs : ∀ c, c < 56 → c ∈ cs) (sz : Nat) (G : GS) (B : BS) (v1 : Int32) (v2 : Int32) (P : Int32 → Prop) (h : wX5_told v1 v2 G P) : Met l yX5_told wsX5_told (rmW 1) (PcW w cs sz G B [.ref (w.1 0), .int v1, .int v2]) (QI w cs sz (fun r G1 B1 => P r ∧ G = G1 ∧ B = B1)) 0 0 (AA w cs sz) := by
  refine metW (own := RX5) [.ref (w.1 0), .int v1, .int v2] (by decide +kernel) rfl rfl (Nat.le_of_ble_eq_true rfl) ?_
  intro p e s m below meth c ls hsz C hr hK hw hl
  subst hsz
  have hx := C.1
  have hb := C.2.1
  have hown := C.2.2.2.1
  have hta := fun w h => C.2.2.2.2 w (List.mem_cons_of_mem _ h)
  have hl : lv_has ls 3 [(0, .ref (w.1 0)), (1, .int v1), (2, .int v2)] := hl
  refine lv_iload_n hx hb dX5_told_0 rfl (lv_at hl 1 rfl) ?_
  refine q_calli hw (va_runS (As := [.int v1]) (rest := []) C (mX5_isKept l w cs _ G B v1 _ h) (va_cwS 1 hta (gSw kw_239 kw_240 kw_30 kw_238) rfl rfl rfl (by decide +kernel) ⟨Nat.le_of_ble_eq_true rfl, Nat.le_of_ble_eq_true rfl⟩) (preS hK hw _) rfl rfl hl.1 rfl (lv_room (Nat.le_of_ble_eq_true rfl)) dX5_told_1 ⟨Nat.le_refl 0, Nat.le_refl 0⟩) (fun r1 G1 B1 H locs h hw => ?_)
  obtain ⟨h, e1, e2⟩ := h; subst e1; subst e2
  refine lv_if_eq (tgt := 23) hx hb dX5_told_4 (by decide) (fun c1 => ?_) (fun c1 => ?_)
  · have h := h.1 c1
    refine lv_iconst (v := -1) hx hb dX5_told_23 (by decide) ?_
    exact q_reti hx hb hr hw ⟨h, rfl, rfl⟩ dX5_told_24
  · have h := h.2 c1
    refine lv_iload_n hx hb dX5_told_7 rfl (lv_at hl 2 rfl) ?_
    refine lv_iconst (v := -1) hx hb dX5_told_8 (by decide) ?_
    refine lv_icmp_lt (tgt := 23) hx hb dX5_told_9 (by decide) (fun c2 => ?_) (fun c2 => ?_)
    · have h := h.1 c2
      refine lv_iconst (v := -1) hx hb dX5_told_23 (by decide) ?_
      exact q_reti hx hb hr hw ⟨h, rfl, rfl⟩ dX5_told_24
    · have h := h.2 c2
      refine lv_iload_n hx hb dX5_told_12 rfl (lv_at hl 2 rfl) ?_
      refine lv_aload_n hx hb dX5_told_13 rfl (lv_at hl 0 rfl) ?_
      refine q_get (v := .ref (w.1 1)) (C := RX5) (T := TX5) (N := 7) (ci := 5) hx hb hta kw_X5 hown hK hw 0 (hcs _ (by omega)) (by unfold isB; omega) rfl rfl 0 (by decide) (hta _ kw_208) rfl rfl dX5_told_14 ?_
      refine q_getN (v := .int (G 1 1)) (host := RX5) (C := RX4) (T := TX4) (N := 5) (ci := 4) hx hb hta kw_X4 hown hK hw 1 (hcs _ (by omega)) (by unfold isB; omega) rfl rfl 1 (by decide) (by decide +kernel) rfl rfl dX5_told_17 ?_
      refine lv_icmp_lt (tgt := 25) hx hb dX5_told_20 (by decide) (fun c3 => ?_) (fun c3 => ?_)
      · have h := h.1 c3
        refine lv_iload_n hx hb dX5_told_25 rfl (lv_at hl 2 rfl) ?_
        refine lv_iconst (v := -1) hx hb dX5_told_26 (by decide) ?_
        refine lv_icmp_ne (tgt := 42) hx hb dX5_told_27 (by decide) (fun c4 => ?_) (fun c4 => ?_)
        · have h := h.1 c4
          refine lv_aload_n hx hb dX5_told_42 rfl (lv_at hl 0 rfl) ?_
          refine q_get (v := .ref (w.1 7)) (C := RX5) (T := TX5) (N := 7) (ci := 5) hx hb hta kw_X5 hown hK hw 0 (hcs _ (by omega)) (by unfold isB; omega) rfl rfl 6 (by decide) (hta _ kw_215) rfl rfl dX5_told_43 ?_
          refine lv_iload_n hx hb dX5_told_46 rfl (lv_at hl 1 rfl) ?_
          obtain ⟨hin5, h⟩ := h
          have hv6 : 26 ≤ (26 + cl v1) ∧ (26 + cl v1) < 32 := vp_iv hin5
          refine q_aald (b := 26) (n := 6) hx hb hK hw (a := 7) (hcs _ (by omega)) (by unfold isO; omega) rfl rfl hin5 dX5_told_47 ?_
          refine lv_iload_n hx hb dX5_told_48 rfl (lv_at hl 2 rfl) ?_
          obtain ⟨hin7, h⟩ := h
          refine q_iald (n := 6) hx hb hK hw (hcs _ (by omega)) (isI_row (by omega) (by omega)) (ln_iv26 hv6) hin7 dX5_told_49 ?_
          exact q_reti hx hb hr hw ⟨h, rfl, rfl⟩ dX5_told_50
        · have h := h.2 c4
          refine lv_aload_n hx hb dX5_told_30 rfl (lv_at hl 0 rfl) ?_
          refine q_get (v := .ref (w.1 7)) (C := RX5) (T := TX5) (N := 7) (ci := 5) hx hb hta kw_X5 hown hK hw 0 (hcs _ (by omega)) (by unfold isB; omega) rfl rfl 6 (by decide) (hta _ kw_215) rfl rfl dX5_told_31 ?_
          refine lv_iload_n hx hb dX5_told_34 rfl (lv_at hl 1 rfl) ?_
          obtain ⟨hin8, h⟩ := h
          have hv9 : 26 ≤ (26 + cl v1) ∧ (26 + cl v1) < 32 := vp_iv hin8
          refine q_aald (b := 26) (n := 6) hx hb hK hw (a := 7) (hcs _ (by omega)) (by unfold isO; omega) rfl rfl hin8 dX5_told_35 ?_
          refine q_calli hw (va_runS (As := [.ref (w.1 (26 + cl v1))]) (rest := []) C (mX5_weight l w cs _ G B (26 + cl v1) (isI_row (by omega) (by omega)) (hcs _ (by omega)) _ h) (va_cwS 1 hta (gSw kw_241 kw_150 kw_30 kw_149) rfl rfl rfl (by decide +kernel) ⟨Nat.le_of_ble_eq_true rfl, Nat.le_of_ble_eq_true rfl⟩) (preS hK hw _) rfl rfl hl.1 rfl (lv_room (Nat.le_of_ble_eq_true rfl)) dX5_told_36 ⟨Nat.le_refl 0, Nat.le_refl 0⟩) (fun r36 G36 B36 H locs h hw => ?_)
          obtain ⟨h, e1, e2⟩ := h; subst e1; subst e2
          refine lv_goto (tgt := 50) hx hb dX5_told_39 (by decide) ?_
          exact q_reti hx hb hr hw ⟨h, rfl, rfl⟩ dX5_told_50
      · have h := h.2 c3
        refine lv_iconst (v := -1) hx hb dX5_told_23 (by decide) ?_
        exact q_reti hx hb hr hw ⟨h, rfl, rfl⟩ dX5_told_24
def wX5_tell (v1 : Int32) (v2 : Int32) (G : GS) (P : Int32 → GS → Prop) : Prop := (wX5_isKept v1 (fun r1 => ((r1 = 0 → P (-1 : Int32) G) ∧ (¬ r1 = 0 → (wX5_isKept v2 (fun r8 => ((¬ r8 = 0 → (vp_in v2 6 ∧ (vp_in v1 6 ∧ (wX4_sumsOf (20 + cl v2) (26 + cl v1) G (fun G32 => (vp_in v1 6 ∧ (wX5_weight (26 + cl v1) G32 (fun r41 => P r41 G32)))))))) ∧ (r8 = 0 → P (-1 : Int32) G))))))))
set_option maxHeartbeats 4000000 in
set_option maxRecDepth 100000 in
theorem mX5_tell (l : Launch) (w : WE) (cs : List Nat) (hcs : ∀ c, c < 56 → c ∈ cs) (sz : Nat) (G : GS) (B : BS) (v1 : Int32) (v2 : Int32) (P : Int32 → GS → Prop) (h : wX5_tell v1 v2 G P) : Met l yX5_tell wsX5_tell (rmW 1) (PcW w cs sz G B [.ref (w.1 0), .int v1, .int v2]) (QI w cs sz (fun r G1 B1 => P r G1 ∧ B = B1)) 0 0 (AA w cs sz) := by
  refine metW (own := RX5) [.ref (w.1 0), .int v1, .int v2] (by decide +kernel) rfl rfl (Nat.le_of_ble_eq_true rfl) ?_
  intro p e s m below meth c ls hsz C hr hK hw hl
  subst hsz
  have hx := C.1
  have hb := C.2.1
  have hown := C.2.2.2.1
  have hta := fun w h => C.2.2.2.2 w (List.mem_cons_of_mem _ h)
  have hl : lv_has ls 3 [(0, .ref (w.1 0)), (1, .int v1), (2, .int v2)] := hl
  refine lv_iload_n hx hb dX5_tell_0 rfl (lv_at hl 1 rfl) ?_
  refine q_calli hw (va_runS (As := [.int v1]) (rest := []) C (mX5_isKept l w cs _ G B v1 _ h) (va_cwS 1 hta (gSw kw_239 kw_240 kw_30 kw_238) rfl rfl rfl (by decide +kernel) ⟨Nat.le_of_ble_eq_true rfl, Nat.le_of_ble_eq_true rfl⟩) (preS hK hw _) rfl rfl hl.1 rfl (lv_room (Nat.le_of_ble_eq_true rfl)) dX5_tell_1 ⟨Nat.le_refl 0, Nat.le_refl 0⟩) (fun r1 G1 B1 H locs h hw => ?_)
  obtain ⟨h, e1, e2⟩ := h; subst e1; subst e2
  refine lv_if_eq (tgt := 14) hx hb dX5_tell_4 (by decide) (fun c1 => ?_) (fun c1 => ?_)
  · have h := h.1 c1
    refine lv_iconst (v := -1) hx hb dX5_tell_14 (by decide) ?_
    exact q_reti hx hb hr hw ⟨h, rfl⟩ dX5_tell_15
  · have h := h.2 c1
    refine lv_iload_n hx hb dX5_tell_7 rfl (lv_at hl 2 rfl) ?_
    refine q_calli hw (va_runS (As := [.int v2]) (rest := []) C (mX5_isKept l w cs _ G B v2 _ h) (va_cwS 1 hta (gSw kw_239 kw_240 kw_30 kw_238) rfl rfl rfl (by decide +kernel) ⟨Nat.le_of_ble_eq_true rfl, Nat.le_of_ble_eq_true rfl⟩) (preS hK hw _) rfl rfl hl.1 rfl (lv_room (Nat.le_of_ble_eq_true rfl)) dX5_tell_8 ⟨Nat.le_refl 0, Nat.le_refl 0⟩) (fun r8 G8 B8 H locs h hw => ?_)
    obtain ⟨h, e1, e2⟩ := h; subst e1; subst e2
    refine lv_if_ne (tgt := 16) hx hb dX5_tell_11 (by decide) (fun c2 => ?_) (fun c2 => ?_)
    · have h := h.1 c2
      refine lv_aload_n hx hb dX5_tell_16 rfl (lv_at hl 0 rfl) ?_
      refine q_get (v := .ref (w.1 1)) (C := RX5) (T := TX5) (N := 7) (ci := 5) hx hb hta kw_X5 hown hK hw 0 (hcs _ (by omega)) (by unfold isB; omega) rfl rfl 0 (by decide) (hta _ kw_208) rfl rfl dX5_tell_17 ?_
      refine lv_aload_n hx hb dX5_tell_20 rfl (lv_at hl 0 rfl) ?_
      refine q_get (v := .ref (w.1 6)) (C := RX5) (T := TX5) (N := 7) (ci := 5) hx hb hta kw_X5 hown hK hw 0 (hcs _ (by omega)) (by unfold isB; omega) rfl rfl 5 (by decide) (hta _ kw_213) rfl rfl dX5_tell_21 ?_
      refine lv_iload_n hx hb dX5_tell_24 rfl (lv_at hl 2 rfl) ?_
      obtain ⟨hin3, h⟩ := h
      have hv4 : 20 ≤ (20 + cl v2) ∧ (20 + cl v2) < 26 := vp_iv hin3
      refine q_aald (b := 20) (n := 6) hx hb hK hw (a := 6) (hcs _ (by omega)) (by unfold isO; omega) rfl rfl hin3 dX5_tell_25 ?_
      refine lv_aload_n hx hb dX5_tell_26 rfl (lv_at hl 0 rfl) ?_
      refine q_get (v := .ref (w.1 7)) (C := RX5) (T := TX5) (N := 7) (ci := 5) hx hb hta kw_X5 hown hK hw 0 (hcs _ (by omega)) (by unfold isB; omega) rfl rfl 6 (by decide) (hta _ kw_215) rfl rfl dX5_tell_27 ?_
      refine lv_iload_n hx hb dX5_tell_30 rfl (lv_at hl 1 rfl) ?_
      obtain ⟨hin5, h⟩ := h
      have hv6 : 26 ≤ (26 + cl v1) ∧ (26 + cl v1) < 32 := vp_iv hin5
      refine q_aald (b := 26) (n := 6) hx hb hK hw (a := 7) (hcs _ (by omega)) (by unfold isO; omega) rfl rfl hin5 dX5_tell_31 ?_
      refine q_callv hw (va_runV (As := [.ref (w.1 (20 + cl v2)), .ref (w.1 (26 + cl v1))]) (rest := []) C (mX4_sumsOf l w cs (fun c h => hcs c (by omega)) _ G B (20 + cl v2) (isI_row (by omega) (by omega)) (hcs _ (by omega)) (26 + cl v1) (isI_row (by omega) (by omega)) (hcs _ (by omega)) _ h) (cwV 2 hta (gVw kw_243 kw_244 kw_245 kw_36 kw_242) rfl rfl rfl (by decide +kernel) ⟨Nat.le_of_ble_eq_true rfl, Nat.le_of_ble_eq_true rfl⟩) (preV hK hw 1 (hcs _ (by omega)) (by unfold isB; omega) rfl rfl _) rfl rfl hl.1 rfl (lv_room (Nat.le_of_ble_eq_true rfl)) dX5_tell_32 ⟨Nat.le_refl 0, Nat.le_refl 0⟩) (fun G32 B32 H locs h hw => ?_)
      obtain ⟨h, e2⟩ := h; subst e2
      refine lv_aload_n hx hb dX5_tell_35 rfl (lv_at hl 0 rfl) ?_
      refine q_get (v := .ref (w.1 7)) (C := RX5) (T := TX5) (N := 7) (ci := 5) hx hb hta kw_X5 hown hK hw 0 (hcs _ (by omega)) (by unfold isB; omega) rfl rfl 6 (by decide) (hta _ kw_215) rfl rfl dX5_tell_36 ?_
      refine lv_iload_n hx hb dX5_tell_39 rfl (lv_at hl 1 rfl) ?_
      obtain ⟨hin7, h⟩ := h
      have hv8 : 26 ≤ (26 + cl v1) ∧ (26 + cl v1) < 32 := vp_iv hin7
      refine q_aald (b := 26) (n := 6) hx hb hK hw (a := 7) (hcs _ (by omega)) (by unfold isO; omega) rfl rfl hin7 dX5_tell_40 ?_
      refine q_calli hw (va_runS (As := [.ref (w.1 (26 + cl v1))]) (rest := []) C (mX5_weight l w cs _ G32 B (26 + cl v1) (isI_row (by omega) (by omega)) (hcs _ (by omega)) _ h) (va_cwS 1 hta (gSw kw_241 kw_150 kw_30 kw_149) rfl rfl rfl (by decide +kernel) ⟨Nat.le_of_ble_eq_true rfl, Nat.le_of_ble_eq_true rfl⟩) (preS hK hw _) rfl rfl hl.1 rfl (lv_room (Nat.le_of_ble_eq_true rfl)) dX5_tell_41 ⟨Nat.le_refl 0, Nat.le_refl 0⟩) (fun r41 G41 B41 H locs h hw => ?_)
      obtain ⟨h, e1, e2⟩ := h; subst e1; subst e2
      exact q_reti hx hb hr hw ⟨h, rfl⟩ dX5_tell_44
    · have h := h.2 c2
      refine lv_iconst (v := -1) hx hb dX5_tell_14 (by decide) ?_
      exact q_reti hx hb hr hw ⟨h, rfl⟩ dX5_tell_15
def wlX5_find_28 (K58 : Int32 → Int32 → GS → Prop) (K97 : GS → Prop) (v1 : Int32) (v2 : Int32) (v3 : Int32) : Nat → Int32 → GS → Prop
  | 0, _, _ => False
  | n28 + 1, v4, G => ((v3 < v4 → K97 G) ∧ (¬ v3 < v4 → (vp_in v2 6 ∧ (wX2_waysToTell (26 + cl v2) (0 : Int32) v4 (2 : Int32) G (fun r48 G48 => ((r48 ≤ 0 → wlX5_find_28 K58 K97 v1 v2 v3 n28 (v4 + (1 : Int32)) G48) ∧ (¬ r48 ≤ 0 → K58 v4 r48 G48)))))))
def wX5_find (v1 : Int32) (v2 : Int32) (v3 : Int32) (G : GS) (P : Int32 → GS → Prop) : Prop := (wX5_isKept v1 (fun r1 => ((r1 = 0 → P (-1 : Int32) G) ∧ (¬ r1 = 0 → (wX5_isKept v2 (fun r8 => ((r8 = 0 → P (-1 : Int32) G) ∧ (¬ r8 = 0 → ((v3 < 0 → P (-1 : Int32) G) ∧ (¬ v3 < 0 → ((v3 ≤ (4 : Int32) → (∃ z28 : Nat, wlX5_find_28 (fun x4_58 x5_58 G_58 => (vp_in v1 6 ∧ (wX5_copy 13 (20 + cl v1) G_58 (fun G71 => ((¬ x5_58 = (1 : Int32) → P x4_58 G71) ∧ (x5_58 = (1 : Int32) → P (x4_58 + (100 : Int32)) G71)))))) (fun G_97 => P (-2 : Int32) G_97) v1 v2 v3 z28 (0 : Int32) G)) ∧ (¬ v3 ≤ (4 : Int32) → P (-1 : Int32) G))))))))))))
set_option maxHeartbeats 4000000 in
set_option maxRecDepth 100000 in
theorem lX5_find_28 {p : Program} {l : Launch} {e : Env} {s : State} {m : MethodId} {args : Array Value} {below : List Frame} {meth : Method} {c : Code} {Q : State → Prop} {w : WE} {cs : List Nat} {A : Nat → Prop} {H0 : Heap} (C : CallFix p m c cX5_find 6 s args wsX5_find RX5) (hK : KW w s) (hcs : ∀ c, c < 56 → c ∈ cs) (v1 : Int32) (v2 : Int32) (v3 : Int32) (B : BS) {K58 : Int32 → Int32 → GS → Prop} {K97 : GS → Prop} (k58 : ∀ (y4 : Int32) (y5 : Int32) (G : GS) (H : Heap) (locs : List Loc) (ls : Array Slot), K58 y4 y5 G → WO w cs A H0 G B H locs → lv_has ls 6 [(0, .ref (w.1 0)), (1, .int v1), (4, .int y4), (5, .int y5)] → W p l e (rmW 28) s m args below meth c H locs 0 0 Q (F0 m 58 ls [])) (k97 : ∀ (G : GS) (H : Heap) (locs : List Loc) (ls : Array Slot), K97 G → WO w cs A H0 G B H locs → lv_has ls 6 [] → W p l e (rmW 28) s m args below meth c H locs 0 0 Q (F0 m 97 ls [])) : ∀ (n : Nat) (v4 : Int32) (G : GS) (H : Heap) (locs : List Loc) (ls : Array Slot), wlX5_find_28 K58 K97 v1 v2 v3 n v4 G → WO w cs A H0 G B H locs → lv_has ls 6 [(0, .ref (w.1 0)), (1, .int v1), (2, .int v2), (3, .int v3), (4, .int v4)] → W p l e (rmW 28) s m args below meth c H locs 0 0 Q (F0 m 28 ls []) := by
  have hx := C.1
  have hb := C.2.1
  have hown := C.2.2.2.1
  have hta := fun w h => C.2.2.2.2 w (List.mem_cons_of_mem _ h)
  intro n
  induction n with
  | zero => intro v4 G H locs ls h hw hl; exact False.elim h
  | succ n ih =>
    intro v4 G H locs ls h hw hl
    refine lv_iload hx hb dX5_find_28 (lv_at hl 4 rfl) ?_
    refine lv_iload_n hx hb dX5_find_30 rfl (lv_at hl 3 rfl) ?_
    refine lv_icmp_gt (tgt := 97) hx hb dX5_find_31 (by decide) (fun c5 => ?_) (fun c5 => ?_)
    · have h := h.1 c5
      exact k97 G _ _ _ h hw (lv_sub hl [] rfl)
    · have h := h.2 c5
      refine lv_aload_n hx hb dX5_find_34 rfl (lv_at hl 0 rfl) ?_
      refine q_get (v := .ref (w.1 2)) (C := RX5) (T := TX5) (N := 7) (ci := 5) hx hb hta kw_X5 hown hK hw 0 (hcs _ (by omega)) (by unfold isB; omega) rfl rfl 1 (by decide) (hta _ kw_225) rfl rfl dX5_find_35 ?_
      refine lv_aload_n hx hb dX5_find_38 rfl (lv_at hl 0 rfl) ?_
      refine q_get (v := .ref (w.1 7)) (C := RX5) (T := TX5) (N := 7) (ci := 5) hx hb hta kw_X5 hown hK hw 0 (hcs _ (by omega)) (by unfold isB; omega) rfl rfl 6 (by decide) (hta _ kw_215) rfl rfl dX5_find_39 ?_
      refine lv_iload_n hx hb dX5_find_42 rfl (lv_at hl 2 rfl) ?_
      obtain ⟨hin6, h⟩ := h
      have hv7 : 26 ≤ (26 + cl v2) ∧ (26 + cl v2) < 32 := vp_iv hin6
      refine q_aald (b := 26) (n := 6) hx hb hK hw (a := 7) (hcs _ (by omega)) (by unfold isO; omega) rfl rfl hin6 dX5_find_43 ?_
      refine lv_iconst (v := 0) hx hb dX5_find_44 (by decide) ?_
      refine lv_iload hx hb dX5_find_45 (lv_at hl 4 rfl) ?_
      refine lv_iconst (v := 2) hx hb dX5_find_47 (by decide) ?_
      refine q_calli hw (va_runV (As := [.ref (w.1 (26 + cl v2)), .int (0 : Int32), .int v4, .int (2 : Int32)]) (rest := []) C (mX2_waysToTell l w cs (fun c h => hcs c (by omega)) _ G B (26 + cl v2) (isI_row (by omega) (by omega)) (hcs _ (by omega)) (0 : Int32) v4 (2 : Int32) _ h) (cwV 4 hta (gVw kw_246 kw_120 kw_121 kw_56 kw_118) rfl rfl rfl (by decide +kernel) ⟨Nat.le_of_ble_eq_true rfl, Nat.le_of_ble_eq_true rfl⟩) (preV hK hw 2 (hcs _ (by omega)) (by unfold isB; omega) rfl rfl _) rfl rfl hl.1 rfl (lv_room (Nat.le_of_ble_eq_true rfl)) dX5_find_48 ⟨Nat.le_refl 0, Nat.le_refl 0⟩) (fun r48 G48 B48 H locs h hw => ?_)
      obtain ⟨h, e2⟩ := h; subst e2
      refine lv_istore (lv' := [(5, .int r48), (0, .ref (w.1 0)), (1, .int v1), (2, .int v2), (3, .int v3), (4, .int v4)]) hx hb dX5_find_51 hl (by decide) rfl (fun ls hl => ?_)
      refine lv_iload hx hb dX5_find_53 (lv_at hl 0 rfl) ?_
      refine lv_if_le (tgt := 91) hx hb dX5_find_55 (by decide) (fun c8 => ?_) (fun c8 => ?_)
      · have h := h.1 c8
        refine lv_iinc (v := (v4 + (1 : Int32))) (lv' := [(4, .int (v4 + (1 : Int32))), (5, .int r48), (0, .ref (w.1 0)), (1, .int v1), (2, .int v2), (3, .int v3)]) hx hb dX5_find_91 hl (k := 5) rfl rfl (by decide) rfl (fun ls hl => ?_)
        refine lv_goto (tgt := 28) hx hb dX5_find_94 (by decide) ?_
        exact ih (v4 + (1 : Int32)) G48 _ _ _ h hw (lv_sub hl [2, 3, 4, 5, 0] rfl)
      · have h := h.2 c8
        exact k58 v4 r48 G48 _ _ _ h hw (lv_sub hl [1, 2, 5, 0] rfl)
set_option maxHeartbeats 4000000 in
set_option maxRecDepth 100000 in
theorem mX5_find (l : Launch) (w : WE) (cs : List Nat) (hcs : ∀ c, c < 56 → c ∈ cs) (sz : Nat) (G : GS) (B : BS) (v1 : Int32) (v2 : Int32) (v3 : Int32) (P : Int32 → GS → Prop) (h : wX5_find v1 v2 v3 G P) : Met l yX5_find wsX5_find (rmW 28) (PcW w cs sz G B [.ref (w.1 0), .int v1, .int v2, .int v3]) (QI w cs sz (fun r G1 B1 => P r G1 ∧ B = B1)) 0 0 (AA w cs sz) := by
  refine metW (own := RX5) [.ref (w.1 0), .int v1, .int v2, .int v3] (by decide +kernel) rfl rfl (Nat.le_of_ble_eq_true rfl) ?_
  intro p e s m below meth c ls hsz C hr hK hw hl
  subst hsz
  have hx := C.1
  have hb := C.2.1
  have hown := C.2.2.2.1
  have hta := fun w h => C.2.2.2.2 w (List.mem_cons_of_mem _ h)
  have hl : lv_has ls 6 [(0, .ref (w.1 0)), (1, .int v1), (2, .int v2), (3, .int v3)] := hl
  refine lv_iload_n hx hb dX5_find_0 rfl (lv_at hl 1 rfl) ?_
  refine q_calli hw (va_runS (As := [.int v1]) (rest := []) C (mX5_isKept l w cs _ G B v1 _ h) (va_cwS 1 hta (gSw kw_239 kw_240 kw_30 kw_238) rfl rfl rfl (by decide +kernel) ⟨Nat.le_of_ble_eq_true rfl, Nat.le_of_ble_eq_true rfl⟩) (preS hK hw _) rfl rfl hl.1 rfl (lv_room (Nat.le_of_ble_eq_true rfl)) dX5_find_1 ⟨Nat.le_refl 0, Nat.le_refl 0⟩) (fun r1 G1 B1 H locs h hw => ?_)
  obtain ⟨h, e1, e2⟩ := h; subst e1; subst e2
  refine lv_if_eq (tgt := 23) hx hb dX5_find_4 (by decide) (fun c1 => ?_) (fun c1 => ?_)
  · have h := h.1 c1
    refine lv_iconst (v := -1) hx hb dX5_find_23 (by decide) ?_
    exact q_reti hx hb hr hw ⟨h, rfl⟩ dX5_find_24
  · have h := h.2 c1
    refine lv_iload_n hx hb dX5_find_7 rfl (lv_at hl 2 rfl) ?_
    refine q_calli hw (va_runS (As := [.int v2]) (rest := []) C (mX5_isKept l w cs _ G B v2 _ h) (va_cwS 1 hta (gSw kw_239 kw_240 kw_30 kw_238) rfl rfl rfl (by decide +kernel) ⟨Nat.le_of_ble_eq_true rfl, Nat.le_of_ble_eq_true rfl⟩) (preS hK hw _) rfl rfl hl.1 rfl (lv_room (Nat.le_of_ble_eq_true rfl)) dX5_find_8 ⟨Nat.le_refl 0, Nat.le_refl 0⟩) (fun r8 G8 B8 H locs h hw => ?_)
    obtain ⟨h, e1, e2⟩ := h; subst e1; subst e2
    refine lv_if_eq (tgt := 23) hx hb dX5_find_11 (by decide) (fun c2 => ?_) (fun c2 => ?_)
    · have h := h.1 c2
      refine lv_iconst (v := -1) hx hb dX5_find_23 (by decide) ?_
      exact q_reti hx hb hr hw ⟨h, rfl⟩ dX5_find_24
    · have h := h.2 c2
      refine lv_iload_n hx hb dX5_find_14 rfl (lv_at hl 3 rfl) ?_
      refine lv_if_lt (tgt := 23) hx hb dX5_find_15 (by decide) (fun c3 => ?_) (fun c3 => ?_)
      · have h := h.1 c3
        refine lv_iconst (v := -1) hx hb dX5_find_23 (by decide) ?_
        exact q_reti hx hb hr hw ⟨h, rfl⟩ dX5_find_24
      · have h := h.2 c3
        refine lv_iload_n hx hb dX5_find_18 rfl (lv_at hl 3 rfl) ?_
        refine lv_iconst (v := 4) hx hb dX5_find_19 (by decide) ?_
        refine lv_icmp_le (tgt := 25) hx hb dX5_find_20 (by decide) (fun c4 => ?_) (fun c4 => ?_)
        · have h := h.1 c4
          refine lv_iconst (v := 0) hx hb dX5_find_25 (by decide) ?_
          refine lv_istore (lv' := [(4, .int (0 : Int32)), (0, .ref (w.1 0)), (1, .int v1), (2, .int v2), (3, .int v3)]) hx hb dX5_find_26 hl (by decide) rfl (fun ls hl => ?_)
          obtain ⟨n28, h⟩ := h
          refine lX5_find_28 C hK hcs v1 v2 v3 B (K58 := _) (K97 := _) ?_ ?_ n28 (0 : Int32) G _ _ _ h hw (lv_sub hl [1, 2, 3, 4, 0] rfl)
          · intro x4_58 x5_58 G_58 H locs ls h hw hl
            refine lv_aload_n hx hb dX5_find_58 rfl (lv_at hl 0 rfl) ?_
            refine q_get (v := .ref (w.1 2)) (C := RX5) (T := TX5) (N := 7) (ci := 5) hx hb hta kw_X5 hown hK hw 0 (hcs _ (by omega)) (by unfold isB; omega) rfl rfl 1 (by decide) (hta _ kw_225) rfl rfl dX5_find_59 ?_
            refine q_getN (v := .ref (w.1 13)) (host := RX5) (C := RX2) (T := TX2) (N := 11) (ci := 2) hx hb hta kw_X2 hown hK hw 2 (hcs _ (by omega)) (by unfold isB; omega) rfl rfl 4 (by decide) (by decide +kernel) rfl rfl dX5_find_62 ?_
            refine lv_aload_n hx hb dX5_find_65 rfl (lv_at hl 0 rfl) ?_
            refine q_get (v := .ref (w.1 6)) (C := RX5) (T := TX5) (N := 7) (ci := 5) hx hb hta kw_X5 hown hK hw 0 (hcs _ (by omega)) (by unfold isB; omega) rfl rfl 5 (by decide) (hta _ kw_213) rfl rfl dX5_find_66 ?_
            refine lv_iload_n hx hb dX5_find_69 rfl (lv_at hl 1 rfl) ?_
            obtain ⟨hin9, h⟩ := h
            have hv10 : 20 ≤ (20 + cl v1) ∧ (20 + cl v1) < 26 := vp_iv hin9
            refine q_aald (b := 20) (n := 6) hx hb hK hw (a := 6) (hcs _ (by omega)) (by unfold isO; omega) rfl rfl hin9 dX5_find_70 ?_
            refine q_callv hw (va_runS (As := [.ref (w.1 13), .ref (w.1 (20 + cl v1))]) (rest := []) C (mX5_copy l w cs _ G_58 B 13 (by unfold isI; omega) (hcs _ (by omega)) (20 + cl v1) (isI_row (by omega) (by omega)) (hcs _ (by omega)) _ h) (va_cwS 2 hta (gSw kw_247 kw_124 kw_30 kw_123) rfl rfl rfl (by decide +kernel) ⟨Nat.le_of_ble_eq_true rfl, Nat.le_of_ble_eq_true rfl⟩) (preS hK hw _) rfl rfl hl.1 rfl (lv_room (Nat.le_of_ble_eq_true rfl)) dX5_find_71 ⟨Nat.le_refl 0, Nat.le_refl 0⟩) (fun G71 B71 H locs h hw => ?_)
            obtain ⟨h, e2⟩ := h; subst e2
            refine lv_iload hx hb dX5_find_74 (lv_at hl 3 rfl) ?_
            refine lv_iconst (v := 1) hx hb dX5_find_76 (by decide) ?_
            refine lv_icmp_ne (tgt := 88) hx hb dX5_find_77 (by decide) (fun c11 => ?_) (fun c11 => ?_)
            · have h := h.1 c11
              refine lv_iload hx hb dX5_find_88 (lv_at hl 2 rfl) ?_
              exact q_reti hx hb hr hw ⟨h, rfl⟩ dX5_find_90
            · have h := h.2 c11
              refine lv_iload hx hb dX5_find_80 (lv_at hl 2 rfl) ?_
              refine lv_bipush (v := 100) hx hb dX5_find_82 (by decide) ?_
              refine lv_iadd hx hb dX5_find_84 ?_
              refine lv_goto (tgt := 90) hx hb dX5_find_85 (by decide) ?_
              exact q_reti hx hb hr hw ⟨h, rfl⟩ dX5_find_90
          · intro G_97 H locs ls h hw hl
            refine lv_bipush (v := -2) hx hb dX5_find_97 (by decide) ?_
            exact q_reti hx hb hr hw ⟨h, rfl⟩ dX5_find_99
        · have h := h.2 c4
          refine lv_iconst (v := -1) hx hb dX5_find_23 (by decide) ?_
          exact q_reti hx hb hr hw ⟨h, rfl⟩ dX5_find_24
def wlX5_miss_48 (K75 : Int32 → GS → Prop) (K106 : GS → Prop) (v1 : Int32) (v2 : Int32) (v3 : Int32) (v4 : Int32) (v5 : Int32) : Nat → Int32 → GS → Prop
  | 0, _, _ => False
  | n48 + 1, v6, G => ((v4 < v6 → K106 G) ∧ (¬ v4 < v6 → (vp_in v2 6 ∧ (wX1_look (26 + cl v2) v5 v6 G (fun r69 G69 => ((r69 = 0 → wlX5_miss_48 K75 K106 v1 v2 v3 v4 v5 n48 (v6 + (1 : Int32)) G69) ∧ (¬ r69 = 0 → K75 v6 G69)))))))
def wlX5_miss_39 (K75 : Int32 → Int32 → GS → Prop) (K112 : GS → Prop) (v1 : Int32) (v2 : Int32) (v3 : Int32) (v4 : Int32) : Nat → Int32 → GS → Prop
  | 0, _, _ => False
  | n39 + 1, v5, G => ((v3 < v5 → K112 G) ∧ (¬ v3 < v5 → (∃ z48 : Nat, wlX5_miss_48 (fun x6_75 G_75 => K75 v5 x6_75 G_75) (fun G_106 => wlX5_miss_39 K75 K112 v1 v2 v3 v4 n39 (v5 + (1 : Int32)) G_106) v1 v2 v3 v4 v5 z48 (0 : Int32) G)))
def wX5_miss (v1 : Int32) (v2 : Int32) (v3 : Int32) (v4 : Int32) (G : GS) (P : Int32 → GS → Prop) : Prop := (wX5_isKept v1 (fun r1 => ((r1 = 0 → P (-1 : Int32) G) ∧ (¬ r1 = 0 → (wX5_isKept v2 (fun r8 => ((r8 = 0 → P (-1 : Int32) G) ∧ (¬ r8 = 0 → ((v3 < 0 → P (-1 : Int32) G) ∧ (¬ v3 < 0 → (((3 : Int32) < v3 → P (-1 : Int32) G) ∧ (¬ (3 : Int32) < v3 → ((v4 < 0 → P (-1 : Int32) G) ∧ (¬ v4 < 0 → ((v4 ≤ (3 : Int32) → (∃ z39 : Nat, wlX5_miss_39 (fun x5_75 x6_75 G_75 => (vp_in v1 6 ∧ (wX5_copy 14 (20 + cl v1) G_75 (fun G88 => P (x5_75 + ((100 : Int32) * x6_75)) G88)))) (fun G_112 => P (-2 : Int32) G_112) v1 v2 v3 v4 z39 (0 : Int32) G)) ∧ (¬ v4 ≤ (3 : Int32) → P (-1 : Int32) G))))))))))))))))
set_option maxHeartbeats 4000000 in
set_option maxRecDepth 100000 in
theorem lX5_miss_48 {p : Program} {l : Launch} {e : Env} {s : State} {m : MethodId} {args : Array Value} {below : List Frame} {meth : Method} {c : Code} {Q : State → Prop} {w : WE} {cs : List Nat} {A : Nat → Prop} {H0 : Heap} (C : CallFix p m c cX5_miss 7 s args wsX5_miss RX5) (hK : KW w s) (hcs : ∀ c, c < 56 → c ∈ cs) (v1 : Int32) (v2 : Int32) (v3 : Int32) (v4 : Int32) (v5 : Int32) (B : BS) {K75 : Int32 → GS → Prop} {K106 : GS → Prop} (k75 : ∀ (y6 : Int32) (G : GS) (H : Heap) (locs : List Loc) (ls : Array Slot), K75 y6 G → WO w cs A H0 G B H locs → lv_has ls 7 [(0, .ref (w.1 0)), (1, .int v1), (5, .int v5), (6, .int y6)] → W p l e (rmW 29) s m args below meth c H locs 0 0 Q (F0 m 75 ls [])) (k106 : ∀ (G : GS) (H : Heap) (locs : List Loc) (ls : Array Slot), K106 G → WO w cs A H0 G B H locs → lv_has ls 7 [(0, .ref (w.1 0)), (1, .int v1), (2, .int v2), (3, .int v3), (4, .int v4), (5, .int v5)] → W p l e (rmW 29) s m args below meth c H locs 0 0 Q (F0 m 106 ls [])) : ∀ (n : Nat) (v6 : Int32) (G : GS) (H : Heap) (locs : List Loc) (ls : Array Slot), wlX5_miss_48 K75 K106 v1 v2 v3 v4 v5 n v6 G → WO w cs A H0 G B H locs → lv_has ls 7 [(0, .ref (w.1 0)), (1, .int v1), (2, .int v2), (3, .int v3), (4, .int v4), (5, .int v5), (6, .int v6)] → W p l e (rmW 29) s m args below meth c H locs 0 0 Q (F0 m 48 ls []) := by
  have hx := C.1
  have hb := C.2.1
  have hown := C.2.2.2.1
  have hta := fun w h => C.2.2.2.2 w (List.mem_cons_of_mem _ h)
  intro n
  induction n with
  | zero => intro v6 G H locs ls h hw hl; exact False.elim h
  | succ n ih =>
    intro v6 G H locs ls h hw hl
    refine lv_iload hx hb dX5_miss_48 (lv_at hl 6 rfl) ?_
    refine lv_iload hx hb dX5_miss_50 (lv_at hl 4 rfl) ?_
    refine lv_icmp_gt (tgt := 106) hx hb dX5_miss_52 (by decide) (fun c8 => ?_) (fun c8 => ?_)
    · have h := h.1 c8
      exact k106 G _ _ _ h hw (lv_sub hl [0, 1, 2, 3, 4, 5] rfl)
    · have h := h.2 c8
      refine lv_aload_n hx hb dX5_miss_55 rfl (lv_at hl 0 rfl) ?_
      refine q_get (v := .ref (w.1 3)) (C := RX5) (T := TX5) (N := 7) (ci := 5) hx hb hta kw_X5 hown hK hw 0 (hcs _ (by omega)) (by unfold isB; omega) rfl rfl 2 (by decide) (hta _ kw_248) rfl rfl dX5_miss_56 ?_
      refine lv_aload_n hx hb dX5_miss_59 rfl (lv_at hl 0 rfl) ?_
      refine q_get (v := .ref (w.1 7)) (C := RX5) (T := TX5) (N := 7) (ci := 5) hx hb hta kw_X5 hown hK hw 0 (hcs _ (by omega)) (by unfold isB; omega) rfl rfl 6 (by decide) (hta _ kw_215) rfl rfl dX5_miss_60 ?_
      refine lv_iload_n hx hb dX5_miss_63 rfl (lv_at hl 2 rfl) ?_
      obtain ⟨hin9, h⟩ := h
      have hv10 : 26 ≤ (26 + cl v2) ∧ (26 + cl v2) < 32 := vp_iv hin9
      refine q_aald (b := 26) (n := 6) hx hb hK hw (a := 7) (hcs _ (by omega)) (by unfold isO; omega) rfl rfl hin9 dX5_miss_64 ?_
      refine lv_iload hx hb dX5_miss_65 (lv_at hl 5 rfl) ?_
      refine lv_iload hx hb dX5_miss_67 (lv_at hl 6 rfl) ?_
      refine q_calli hw (va_runV (As := [.ref (w.1 (26 + cl v2)), .int v5, .int v6]) (rest := []) C (mX1_look l w cs (fun c h => hcs c (by omega)) _ G B (26 + cl v2) (isI_row (by omega) (by omega)) (hcs _ (by omega)) v5 v6 _ h) (cwV 3 hta (gVw kw_250 kw_251 kw_252 kw_128 kw_249) rfl rfl rfl (by decide +kernel) ⟨Nat.le_of_ble_eq_true rfl, Nat.le_of_ble_eq_true rfl⟩) (preV hK hw 3 (hcs _ (by omega)) (by unfold isB; omega) rfl rfl _) rfl rfl hl.1 rfl (lv_room (Nat.le_of_ble_eq_true rfl)) dX5_miss_69 ⟨Nat.le_refl 0, Nat.le_refl 0⟩) (fun r69 G69 B69 H locs h hw => ?_)
      obtain ⟨h, e2⟩ := h; subst e2
      refine lv_if_eq (tgt := 100) hx hb dX5_miss_72 (by decide) (fun c11 => ?_) (fun c11 => ?_)
      · have h := h.1 c11
        refine lv_iinc (v := (v6 + (1 : Int32))) (lv' := [(6, .int (v6 + (1 : Int32))), (0, .ref (w.1 0)), (1, .int v1), (2, .int v2), (3, .int v3), (4, .int v4), (5, .int v5)]) hx hb dX5_miss_100 hl (k := 6) rfl rfl (by decide) rfl (fun ls hl => ?_)
        refine lv_goto (tgt := 48) hx hb dX5_miss_103 (by decide) ?_
        exact ih (v6 + (1 : Int32)) G69 _ _ _ h hw (lv_sub hl [1, 2, 3, 4, 5, 6, 0] rfl)
      · have h := h.2 c11
        exact k75 v6 G69 _ _ _ h hw (lv_sub hl [0, 1, 5, 6] rfl)
set_option maxHeartbeats 4000000 in
set_option maxRecDepth 100000 in
theorem lX5_miss_39 {p : Program} {l : Launch} {e : Env} {s : State} {m : MethodId} {args : Array Value} {below : List Frame} {meth : Method} {c : Code} {Q : State → Prop} {w : WE} {cs : List Nat} {A : Nat → Prop} {H0 : Heap} (C : CallFix p m c cX5_miss 7 s args wsX5_miss RX5) (hK : KW w s) (hcs : ∀ c, c < 56 → c ∈ cs) (v1 : Int32) (v2 : Int32) (v3 : Int32) (v4 : Int32) (B : BS) {K75 : Int32 → Int32 → GS → Prop} {K112 : GS → Prop} (k75 : ∀ (y5 : Int32) (y6 : Int32) (G : GS) (H : Heap) (locs : List Loc) (ls : Array Slot), K75 y5 y6 G → WO w cs A H0 G B H locs → lv_has ls 7 [(0, .ref (w.1 0)), (1, .int v1), (5, .int y5), (6, .int y6)] → W p l e (rmW 29) s m args below meth c H locs 0 0 Q (F0 m 75 ls [])) (k112 : ∀ (G : GS) (H : Heap) (locs : List Loc) (ls : Array Slot), K112 G → WO w cs A H0 G B H locs → lv_has ls 7 [] → W p l e (rmW 29) s m args below meth c H locs 0 0 Q (F0 m 112 ls [])) : ∀ (n : Nat) (v5 : Int32) (G : GS) (H : Heap) (locs : List Loc) (ls : Array Slot), wlX5_miss_39 K75 K112 v1 v2 v3 v4 n v5 G → WO w cs A H0 G B H locs → lv_has ls 7 [(0, .ref (w.1 0)), (1, .int v1), (2, .int v2), (3, .int v3), (4, .int v4), (5, .int v5)] → W p l e (rmW 29) s m args below meth c H locs 0 0 Q (F0 m 39 ls []) := by
  have hx := C.1
  have hb := C.2.1
  have hown := C.2.2.2.1
  have hta := fun w h => C.2.2.2.2 w (List.mem_cons_of_mem _ h)
  intro n
  induction n with
  | zero => intro v5 G H locs ls h hw hl; exact False.elim h
  | succ n ih =>
    intro v5 G H locs ls h hw hl
    refine lv_iload hx hb dX5_miss_39 (lv_at hl 5 rfl) ?_
    refine lv_iload_n hx hb dX5_miss_41 rfl (lv_at hl 3 rfl) ?_
    refine lv_icmp_gt (tgt := 112) hx hb dX5_miss_42 (by decide) (fun c7 => ?_) (fun c7 => ?_)
    · have h := h.1 c7
      exact k112 G _ _ _ h hw (lv_sub hl [] rfl)
    · have h := h.2 c7
      refine lv_iconst (v := 0) hx hb dX5_miss_45 (by decide) ?_
      refine lv_istore (lv' := [(6, .int (0 : Int32)), (0, .ref (w.1 0)), (1, .int v1), (2, .int v2), (3, .int v3), (4, .int v4), (5, .int v5)]) hx hb dX5_miss_46 hl (by decide) rfl (fun ls hl => ?_)
      obtain ⟨n48, h⟩ := h
      refine lX5_miss_48 C hK hcs v1 v2 v3 v4 v5 B (K75 := _) (K106 := _) ?_ ?_ n48 (0 : Int32) G _ _ _ h hw (lv_sub hl [1, 2, 3, 4, 5, 6, 0] rfl)
      · intro x6_75 G_75 H locs ls h hw hl
        exact k75 v5 x6_75 G_75 _ _ _ h hw (lv_sub hl [0, 1, 2, 3] rfl)
      · intro G_106 H locs ls h hw hl
        refine lv_iinc (v := (v5 + (1 : Int32))) (lv' := [(5, .int (v5 + (1 : Int32))), (0, .ref (w.1 0)), (1, .int v1), (2, .int v2), (3, .int v3), (4, .int v4)]) hx hb dX5_miss_106 hl (k := 5) rfl rfl (by decide) rfl (fun ls hl => ?_)
        refine lv_goto (tgt := 39) hx hb dX5_miss_109 (by decide) ?_
        exact ih (v5 + (1 : Int32)) G_106 _ _ _ h hw (lv_sub hl [1, 2, 3, 4, 5, 0] rfl)
set_option maxHeartbeats 4000000 in
set_option maxRecDepth 100000 in
theorem mX5_miss (l : Launch) (w : WE) (cs : List Nat) (hcs : ∀ c, c < 56 → c ∈ cs) (sz : Nat) (G : GS) (B : BS) (v1 : Int32) (v2 : Int32) (v3 : Int32) (v4 : Int32) (P : Int32 → GS → Prop) (h : wX5_miss v1 v2 v3 v4 G P) : Met l yX5_miss wsX5_miss (rmW 29) (PcW w cs sz G B [.ref (w.1 0), .int v1, .int v2, .int v3, .int v4]) (QI w cs sz (fun r G1 B1 => P r G1 ∧ B = B1)) 0 0 (AA w cs sz) := by
  refine metW (own := RX5) [.ref (w.1 0), .int v1, .int v2, .int v3, .int v4] (by decide +kernel) rfl rfl (Nat.le_of_ble_eq_true rfl) ?_
  intro p e s m below meth c ls hsz C hr hK hw hl
  subst hsz
  have hx := C.1
  have hb := C.2.1
  have hown := C.2.2.2.1
  have hta := fun w h => C.2.2.2.2 w (List.mem_cons_of_mem _ h)
  have hl : lv_has ls 7 [(0, .ref (w.1 0)), (1, .int v1), (2, .int v2), (3, .int v3), (4, .int v4)] := hl
  refine lv_iload_n hx hb dX5_miss_0 rfl (lv_at hl 1 rfl) ?_
  refine q_calli hw (va_runS (As := [.int v1]) (rest := []) C (mX5_isKept l w cs _ G B v1 _ h) (va_cwS 1 hta (gSw kw_239 kw_240 kw_30 kw_238) rfl rfl rfl (by decide +kernel) ⟨Nat.le_of_ble_eq_true rfl, Nat.le_of_ble_eq_true rfl⟩) (preS hK hw _) rfl rfl hl.1 rfl (lv_room (Nat.le_of_ble_eq_true rfl)) dX5_miss_1 ⟨Nat.le_refl 0, Nat.le_refl 0⟩) (fun r1 G1 B1 H locs h hw => ?_)
  obtain ⟨h, e1, e2⟩ := h; subst e1; subst e2
  refine lv_if_eq (tgt := 34) hx hb dX5_miss_4 (by decide) (fun c1 => ?_) (fun c1 => ?_)
  · have h := h.1 c1
    refine lv_iconst (v := -1) hx hb dX5_miss_34 (by decide) ?_
    exact q_reti hx hb hr hw ⟨h, rfl⟩ dX5_miss_35
  · have h := h.2 c1
    refine lv_iload_n hx hb dX5_miss_7 rfl (lv_at hl 2 rfl) ?_
    refine q_calli hw (va_runS (As := [.int v2]) (rest := []) C (mX5_isKept l w cs _ G B v2 _ h) (va_cwS 1 hta (gSw kw_239 kw_240 kw_30 kw_238) rfl rfl rfl (by decide +kernel) ⟨Nat.le_of_ble_eq_true rfl, Nat.le_of_ble_eq_true rfl⟩) (preS hK hw _) rfl rfl hl.1 rfl (lv_room (Nat.le_of_ble_eq_true rfl)) dX5_miss_8 ⟨Nat.le_refl 0, Nat.le_refl 0⟩) (fun r8 G8 B8 H locs h hw => ?_)
    obtain ⟨h, e1, e2⟩ := h; subst e1; subst e2
    refine lv_if_eq (tgt := 34) hx hb dX5_miss_11 (by decide) (fun c2 => ?_) (fun c2 => ?_)
    · have h := h.1 c2
      refine lv_iconst (v := -1) hx hb dX5_miss_34 (by decide) ?_
      exact q_reti hx hb hr hw ⟨h, rfl⟩ dX5_miss_35
    · have h := h.2 c2
      refine lv_iload_n hx hb dX5_miss_14 rfl (lv_at hl 3 rfl) ?_
      refine lv_if_lt (tgt := 34) hx hb dX5_miss_15 (by decide) (fun c3 => ?_) (fun c3 => ?_)
      · have h := h.1 c3
        refine lv_iconst (v := -1) hx hb dX5_miss_34 (by decide) ?_
        exact q_reti hx hb hr hw ⟨h, rfl⟩ dX5_miss_35
      · have h := h.2 c3
        refine lv_iload_n hx hb dX5_miss_18 rfl (lv_at hl 3 rfl) ?_
        refine lv_iconst (v := 3) hx hb dX5_miss_19 (by decide) ?_
        refine lv_icmp_gt (tgt := 34) hx hb dX5_miss_20 (by decide) (fun c4 => ?_) (fun c4 => ?_)
        · have h := h.1 c4
          refine lv_iconst (v := -1) hx hb dX5_miss_34 (by decide) ?_
          exact q_reti hx hb hr hw ⟨h, rfl⟩ dX5_miss_35
        · have h := h.2 c4
          refine lv_iload hx hb dX5_miss_23 (lv_at hl 4 rfl) ?_
          refine lv_if_lt (tgt := 34) hx hb dX5_miss_25 (by decide) (fun c5 => ?_) (fun c5 => ?_)
          · have h := h.1 c5
            refine lv_iconst (v := -1) hx hb dX5_miss_34 (by decide) ?_
            exact q_reti hx hb hr hw ⟨h, rfl⟩ dX5_miss_35
          · have h := h.2 c5
            refine lv_iload hx hb dX5_miss_28 (lv_at hl 4 rfl) ?_
            refine lv_iconst (v := 3) hx hb dX5_miss_30 (by decide) ?_
            refine lv_icmp_le (tgt := 36) hx hb dX5_miss_31 (by decide) (fun c6 => ?_) (fun c6 => ?_)
            · have h := h.1 c6
              refine lv_iconst (v := 0) hx hb dX5_miss_36 (by decide) ?_
              refine lv_istore (lv' := [(5, .int (0 : Int32)), (0, .ref (w.1 0)), (1, .int v1), (2, .int v2), (3, .int v3), (4, .int v4)]) hx hb dX5_miss_37 hl (by decide) rfl (fun ls hl => ?_)
              obtain ⟨n39, h⟩ := h
              refine lX5_miss_39 C hK hcs v1 v2 v3 v4 B (K75 := _) (K112 := _) ?_ ?_ n39 (0 : Int32) G _ _ _ h hw (lv_sub hl [1, 2, 3, 4, 5, 0] rfl)
              · intro x5_75 x6_75 G_75 H locs ls h hw hl
                refine lv_aload_n hx hb dX5_miss_75 rfl (lv_at hl 0 rfl) ?_
                refine q_get (v := .ref (w.1 3)) (C := RX5) (T := TX5) (N := 7) (ci := 5) hx hb hta kw_X5 hown hK hw 0 (hcs _ (by omega)) (by unfold isB; omega) rfl rfl 2 (by decide) (hta _ kw_248) rfl rfl dX5_miss_76 ?_
                refine q_getN (v := .ref (w.1 14)) (host := RX5) (C := RX1) (T := TX1) (N := 3) (ci := 1) hx hb hta kw_X1 hown hK hw 3 (hcs _ (by omega)) (by unfold isB; omega) rfl rfl 2 (by decide) (by decide +kernel) rfl rfl dX5_miss_79 ?_
                refine lv_aload_n hx hb dX5_miss_82 rfl (lv_at hl 0 rfl) ?_
                refine q_get (v := .ref (w.1 6)) (C := RX5) (T := TX5) (N := 7) (ci := 5) hx hb hta kw_X5 hown hK hw 0 (hcs _ (by omega)) (by unfold isB; omega) rfl rfl 5 (by decide) (hta _ kw_213) rfl rfl dX5_miss_83 ?_
                refine lv_iload_n hx hb dX5_miss_86 rfl (lv_at hl 1 rfl) ?_
                obtain ⟨hin12, h⟩ := h
                have hv13 : 20 ≤ (20 + cl v1) ∧ (20 + cl v1) < 26 := vp_iv hin12
                refine q_aald (b := 20) (n := 6) hx hb hK hw (a := 6) (hcs _ (by omega)) (by unfold isO; omega) rfl rfl hin12 dX5_miss_87 ?_
                refine q_callv hw (va_runS (As := [.ref (w.1 14), .ref (w.1 (20 + cl v1))]) (rest := []) C (mX5_copy l w cs _ G_75 B 14 (by unfold isI; omega) (hcs _ (by omega)) (20 + cl v1) (isI_row (by omega) (by omega)) (hcs _ (by omega)) _ h) (va_cwS 2 hta (gSw kw_247 kw_124 kw_30 kw_123) rfl rfl rfl (by decide +kernel) ⟨Nat.le_of_ble_eq_true rfl, Nat.le_of_ble_eq_true rfl⟩) (preS hK hw _) rfl rfl hl.1 rfl (lv_room (Nat.le_of_ble_eq_true rfl)) dX5_miss_88 ⟨Nat.le_refl 0, Nat.le_refl 0⟩) (fun G88 B88 H locs h hw => ?_)
                obtain ⟨h, e2⟩ := h; subst e2
                refine lv_iload hx hb dX5_miss_91 (lv_at hl 2 rfl) ?_
                refine lv_bipush (v := 100) hx hb dX5_miss_93 (by decide) ?_
                refine lv_iload hx hb dX5_miss_95 (lv_at hl 3 rfl) ?_
                refine lv_imul hx hb dX5_miss_97 ?_
                refine lv_iadd hx hb dX5_miss_98 ?_
                exact q_reti hx hb hr hw ⟨h, rfl⟩ dX5_miss_99
              · intro G_112 H locs ls h hw hl
                refine lv_bipush (v := -2) hx hb dX5_miss_112 (by decide) ?_
                exact q_reti hx hb hr hw ⟨h, rfl⟩ dX5_miss_114
            · have h := h.2 c6
              refine lv_iconst (v := -1) hx hb dX5_miss_34 (by decide) ?_
              exact q_reti hx hb hr hw ⟨h, rfl⟩ dX5_miss_35
def wX5_greedy (v1 : Int32) (v2 : Int32) (v3 : Int32) (G : GS) (P : Int32 → GS → Prop) : Prop := (wX5_isKept v1 (fun r1 => ((r1 = 0 → P (-1 : Int32) G) ∧ (¬ r1 = 0 → (wX5_isKept v2 (fun r8 => ((r8 = 0 → P (-1 : Int32) G) ∧ (¬ r8 = 0 → ((v3 < 0 → P (-1 : Int32) G) ∧ (¬ v3 < 0 → ((v3 ≤ (8 : Int32) → (vp_in v2 6 ∧ (vp_in v1 6 ∧ (wX0_walk (26 + cl v2) v3 (20 + cl v1) G (fun r43 G43 => ((¬ r43 = 0 → (((0 : Int32) = 0 → P r43 G43) ∧ (¬ (0 : Int32) = 0 → P (r43 + (100 : Int32)) G43))) ∧ (r43 = 0 → (vp_in v1 6 ∧ (wX5_weight (20 + cl v1) G43 (fun r60 => (wX2_spark G43 (fun r68 G68 => ((r68 ≤ ((2 : Int32) * r60) → (((0 : Int32) = 0 → P r43 G68) ∧ (¬ (0 : Int32) = 0 → P (r43 + (100 : Int32)) G68))) ∧ (¬ r68 ≤ ((2 : Int32) * r60) → (((1 : Int32) = 0 → P r43 G68) ∧ (¬ (1 : Int32) = 0 → P (r43 + (100 : Int32)) G68)))))))))))))))) ∧ (¬ v3 ≤ (8 : Int32) → P (-1 : Int32) G))))))))))))
set_option maxHeartbeats 4000000 in
set_option maxRecDepth 100000 in
theorem mX5_greedy (l : Launch) (w : WE) (cs : List Nat) (hcs : ∀ c, c < 56 → c ∈ cs) (sz : Nat) (G : GS) (B : BS) (v1 : Int32) (v2 : Int32) (v3 : Int32) (P : Int32 → GS → Prop) (h : wX5_greedy v1 v2 v3 G P) : Met l yX5_greedy wsX5_greedy (rmW 28) (PcW w cs sz G B [.ref (w.1 0), .int v1, .int v2, .int v3]) (QI w cs sz (fun r G1 B1 => P r G1 ∧ B = B1)) 0 0 (AA w cs sz) := by
  refine metW (own := RX5) [.ref (w.1 0), .int v1, .int v2, .int v3] (by decide +kernel) rfl rfl (Nat.le_of_ble_eq_true rfl) ?_
  intro p e s m below meth c ls hsz C hr hK hw hl
  subst hsz
  have hx := C.1
  have hb := C.2.1
  have hown := C.2.2.2.1
  have hta := fun w h => C.2.2.2.2 w (List.mem_cons_of_mem _ h)
  have hl : lv_has ls 6 [(0, .ref (w.1 0)), (1, .int v1), (2, .int v2), (3, .int v3)] := hl
  refine lv_iload_n hx hb dX5_greedy_0 rfl (lv_at hl 1 rfl) ?_
  refine q_calli hw (va_runS (As := [.int v1]) (rest := []) C (mX5_isKept l w cs _ G B v1 _ h) (va_cwS 1 hta (gSw kw_239 kw_240 kw_30 kw_238) rfl rfl rfl (by decide +kernel) ⟨Nat.le_of_ble_eq_true rfl, Nat.le_of_ble_eq_true rfl⟩) (preS hK hw _) rfl rfl hl.1 rfl (lv_room (Nat.le_of_ble_eq_true rfl)) dX5_greedy_1 ⟨Nat.le_refl 0, Nat.le_refl 0⟩) (fun r1 G1 B1 H locs h hw => ?_)
  obtain ⟨h, e1, e2⟩ := h; subst e1; subst e2
  refine lv_if_eq (tgt := 24) hx hb dX5_greedy_4 (by decide) (fun c1 => ?_) (fun c1 => ?_)
  · have h := h.1 c1
    refine lv_iconst (v := -1) hx hb dX5_greedy_24 (by decide) ?_
    exact q_reti hx hb hr hw ⟨h, rfl⟩ dX5_greedy_25
  · have h := h.2 c1
    refine lv_iload_n hx hb dX5_greedy_7 rfl (lv_at hl 2 rfl) ?_
    refine q_calli hw (va_runS (As := [.int v2]) (rest := []) C (mX5_isKept l w cs _ G B v2 _ h) (va_cwS 1 hta (gSw kw_239 kw_240 kw_30 kw_238) rfl rfl rfl (by decide +kernel) ⟨Nat.le_of_ble_eq_true rfl, Nat.le_of_ble_eq_true rfl⟩) (preS hK hw _) rfl rfl hl.1 rfl (lv_room (Nat.le_of_ble_eq_true rfl)) dX5_greedy_8 ⟨Nat.le_refl 0, Nat.le_refl 0⟩) (fun r8 G8 B8 H locs h hw => ?_)
    obtain ⟨h, e1, e2⟩ := h; subst e1; subst e2
    refine lv_if_eq (tgt := 24) hx hb dX5_greedy_11 (by decide) (fun c2 => ?_) (fun c2 => ?_)
    · have h := h.1 c2
      refine lv_iconst (v := -1) hx hb dX5_greedy_24 (by decide) ?_
      exact q_reti hx hb hr hw ⟨h, rfl⟩ dX5_greedy_25
    · have h := h.2 c2
      refine lv_iload_n hx hb dX5_greedy_14 rfl (lv_at hl 3 rfl) ?_
      refine lv_if_lt (tgt := 24) hx hb dX5_greedy_15 (by decide) (fun c3 => ?_) (fun c3 => ?_)
      · have h := h.1 c3
        refine lv_iconst (v := -1) hx hb dX5_greedy_24 (by decide) ?_
        exact q_reti hx hb hr hw ⟨h, rfl⟩ dX5_greedy_25
      · have h := h.2 c3
        refine lv_iload_n hx hb dX5_greedy_18 rfl (lv_at hl 3 rfl) ?_
        refine lv_bipush (v := 8) hx hb dX5_greedy_19 (by decide) ?_
        refine lv_icmp_le (tgt := 26) hx hb dX5_greedy_21 (by decide) (fun c4 => ?_) (fun c4 => ?_)
        · have h := h.1 c4
          refine lv_aload_n hx hb dX5_greedy_26 rfl (lv_at hl 0 rfl) ?_
          refine q_get (v := .ref (w.1 4)) (C := RX5) (T := TX5) (N := 7) (ci := 5) hx hb hta kw_X5 hown hK hw 0 (hcs _ (by omega)) (by unfold isB; omega) rfl rfl 3 (by decide) (hta _ kw_253) rfl rfl dX5_greedy_27 ?_
          refine lv_aload_n hx hb dX5_greedy_30 rfl (lv_at hl 0 rfl) ?_
          refine q_get (v := .ref (w.1 7)) (C := RX5) (T := TX5) (N := 7) (ci := 5) hx hb hta kw_X5 hown hK hw 0 (hcs _ (by omega)) (by unfold isB; omega) rfl rfl 6 (by decide) (hta _ kw_215) rfl rfl dX5_greedy_31 ?_
          refine lv_iload_n hx hb dX5_greedy_34 rfl (lv_at hl 2 rfl) ?_
          obtain ⟨hin5, h⟩ := h
          have hv6 : 26 ≤ (26 + cl v2) ∧ (26 + cl v2) < 32 := vp_iv hin5
          refine q_aald (b := 26) (n := 6) hx hb hK hw (a := 7) (hcs _ (by omega)) (by unfold isO; omega) rfl rfl hin5 dX5_greedy_35 ?_
          refine lv_iload_n hx hb dX5_greedy_36 rfl (lv_at hl 3 rfl) ?_
          refine lv_aload_n hx hb dX5_greedy_37 rfl (lv_at hl 0 rfl) ?_
          refine q_get (v := .ref (w.1 6)) (C := RX5) (T := TX5) (N := 7) (ci := 5) hx hb hta kw_X5 hown hK hw 0 (hcs _ (by omega)) (by unfold isB; omega) rfl rfl 5 (by decide) (hta _ kw_213) rfl rfl dX5_greedy_38 ?_
          refine lv_iload_n hx hb dX5_greedy_41 rfl (lv_at hl 1 rfl) ?_
          obtain ⟨hin7, h⟩ := h
          have hv8 : 20 ≤ (20 + cl v1) ∧ (20 + cl v1) < 26 := vp_iv hin7
          refine q_aald (b := 20) (n := 6) hx hb hK hw (a := 6) (hcs _ (by omega)) (by unfold isO; omega) rfl rfl hin7 dX5_greedy_42 ?_
          refine q_calli hw (va_runV (As := [.ref (w.1 (26 + cl v2)), .int v3, .ref (w.1 (20 + cl v1))]) (rest := []) C (mX0_walk l w cs (fun c h => hcs c (by omega)) _ G B (26 + cl v2) (isI_row (by omega) (by omega)) (hcs _ (by omega)) v3 (20 + cl v1) (isI_row (by omega) (by omega)) (hcs _ (by omega)) _ h) (cwV 3 hta (gVw kw_255 kw_256 kw_257 kw_140 kw_254) rfl rfl rfl (by decide +kernel) ⟨Nat.le_of_ble_eq_true rfl, Nat.le_of_ble_eq_true rfl⟩) (preV hK hw 4 (hcs _ (by omega)) (by unfold isB; omega) rfl rfl _) rfl rfl hl.1 rfl (lv_room (Nat.le_of_ble_eq_true rfl)) dX5_greedy_43 ⟨Nat.le_refl 0, Nat.le_refl 0⟩) (fun r43 G43 B43 H locs h hw => ?_)
          obtain ⟨h, e2⟩ := h; subst e2
          refine lv_istore (lv' := [(4, .int r43), (0, .ref (w.1 0)), (1, .int v1), (2, .int v2), (3, .int v3)]) hx hb dX5_greedy_46 hl (by decide) rfl (fun ls hl => ?_)
          refine lv_iload hx hb dX5_greedy_48 (lv_at hl 0 rfl) ?_
          refine lv_if_ne (tgt := 78) hx hb dX5_greedy_50 (by decide) (fun c9 => ?_) (fun c9 => ?_)
          · have h := h.1 c9
            refine lv_iconst (v := 0) hx hb dX5_greedy_78 (by decide) ?_
            refine lv_istore (lv' := [(5, .int (0 : Int32)), (4, .int r43), (0, .ref (w.1 0)), (1, .int v1), (2, .int v2), (3, .int v3)]) hx hb dX5_greedy_79 hl (by decide) rfl (fun ls hl => ?_)
            refine lv_iload hx hb dX5_greedy_81 (lv_at hl 0 rfl) ?_
            refine lv_if_eq (tgt := 94) hx hb dX5_greedy_83 (by decide) (fun c10 => ?_) (fun c10 => ?_)
            · have h := h.1 c10
              refine lv_iload hx hb dX5_greedy_94 (lv_at hl 1 rfl) ?_
              exact q_reti hx hb hr hw ⟨h, rfl⟩ dX5_greedy_96
            · have h := h.2 c10
              refine lv_iload hx hb dX5_greedy_86 (lv_at hl 1 rfl) ?_
              refine lv_bipush (v := 100) hx hb dX5_greedy_88 (by decide) ?_
              refine lv_iadd hx hb dX5_greedy_90 ?_
              refine lv_goto (tgt := 96) hx hb dX5_greedy_91 (by decide) ?_
              exact q_reti hx hb hr hw ⟨h, rfl⟩ dX5_greedy_96
          · have h := h.2 c9
            refine lv_iconst (v := 2) hx hb dX5_greedy_53 (by decide) ?_
            refine lv_aload_n hx hb dX5_greedy_54 rfl (lv_at hl 1 rfl) ?_
            refine q_get (v := .ref (w.1 6)) (C := RX5) (T := TX5) (N := 7) (ci := 5) hx hb hta kw_X5 hown hK hw 0 (hcs _ (by omega)) (by unfold isB; omega) rfl rfl 5 (by decide) (hta _ kw_213) rfl rfl dX5_greedy_55 ?_
            refine lv_iload_n hx hb dX5_greedy_58 rfl (lv_at hl 2 rfl) ?_
            obtain ⟨hin11, h⟩ := h
            have hv12 : 20 ≤ (20 + cl v1) ∧ (20 + cl v1) < 26 := vp_iv hin11
            refine q_aald (b := 20) (n := 6) hx hb hK hw (a := 6) (hcs _ (by omega)) (by unfold isO; omega) rfl rfl hin11 dX5_greedy_59 ?_
            refine q_calli hw (va_runS (As := [.ref (w.1 (20 + cl v1))]) (rest := [.int (2 : Int32)]) C (mX5_weight l w cs _ G43 B (20 + cl v1) (isI_row (by omega) (by omega)) (hcs _ (by omega)) _ h) (va_cwS 1 hta (gSw kw_241 kw_150 kw_30 kw_149) rfl rfl rfl (by decide +kernel) ⟨Nat.le_of_ble_eq_true rfl, Nat.le_of_ble_eq_true rfl⟩) (preS hK hw _) rfl rfl hl.1 rfl (lv_room (Nat.le_of_ble_eq_true rfl)) dX5_greedy_60 ⟨Nat.le_refl 0, Nat.le_refl 0⟩) (fun r60 G60 B60 H locs h hw => ?_)
            obtain ⟨h, e1, e2⟩ := h; subst e1; subst e2
            refine lv_imul hx hb dX5_greedy_63 ?_
            refine lv_aload_n hx hb dX5_greedy_64 rfl (lv_at hl 1 rfl) ?_
            refine q_get (v := .ref (w.1 2)) (C := RX5) (T := TX5) (N := 7) (ci := 5) hx hb hta kw_X5 hown hK hw 0 (hcs _ (by omega)) (by unfold isB; omega) rfl rfl 1 (by decide) (hta _ kw_225) rfl rfl dX5_greedy_65 ?_
            refine q_calli hw (va_runV (As := []) (rest := [.int ((2 : Int32) * r60)]) C (mX2_spark l w cs (fun c h => hcs c (by omega)) _ G43 B _ h) (cwV 0 hta (gVw kw_231 kw_232 kw_233 kw_56 kw_230) rfl rfl rfl (by decide +kernel) ⟨Nat.le_of_ble_eq_true rfl, Nat.le_of_ble_eq_true rfl⟩) (preV hK hw 2 (hcs _ (by omega)) (by unfold isB; omega) rfl rfl _) rfl rfl hl.1 rfl (lv_room (Nat.le_of_ble_eq_true rfl)) dX5_greedy_68 ⟨Nat.le_refl 0, Nat.le_refl 0⟩) (fun r68 G68 B68 H locs h hw => ?_)
            obtain ⟨h, e2⟩ := h; subst e2
            refine lv_icmp_ge (tgt := 78) hx hb dX5_greedy_71 (by decide) (fun c13 => ?_) (fun c13 => ?_)
            · have h := h.1 c13
              refine lv_iconst (v := 0) hx hb dX5_greedy_78 (by decide) ?_
              refine lv_istore (lv' := [(5, .int (0 : Int32)), (4, .int r43), (0, .ref (w.1 0)), (1, .int v1), (2, .int v2), (3, .int v3)]) hx hb dX5_greedy_79 hl (by decide) rfl (fun ls hl => ?_)
              refine lv_iload hx hb dX5_greedy_81 (lv_at hl 0 rfl) ?_
              refine lv_if_eq (tgt := 94) hx hb dX5_greedy_83 (by decide) (fun c14 => ?_) (fun c14 => ?_)
              · have h := h.1 c14
                refine lv_iload hx hb dX5_greedy_94 (lv_at hl 1 rfl) ?_
                exact q_reti hx hb hr hw ⟨h, rfl⟩ dX5_greedy_96
              · have h := h.2 c14
                refine lv_iload hx hb dX5_greedy_86 (lv_at hl 1 rfl) ?_
                refine lv_bipush (v := 100) hx hb dX5_greedy_88 (by decide) ?_
                refine lv_iadd hx hb dX5_greedy_90 ?_
                refine lv_goto (tgt := 96) hx hb dX5_greedy_91 (by decide) ?_
                exact q_reti hx hb hr hw ⟨h, rfl⟩ dX5_greedy_96
            · have h := h.2 c13
              refine lv_iconst (v := 1) hx hb dX5_greedy_74 (by decide) ?_
              refine lv_goto (tgt := 79) hx hb dX5_greedy_75 (by decide) ?_
              refine lv_istore (lv' := [(5, .int (1 : Int32)), (4, .int r43), (0, .ref (w.1 0)), (1, .int v1), (2, .int v2), (3, .int v3)]) hx hb dX5_greedy_79 hl (by decide) rfl (fun ls hl => ?_)
              refine lv_iload hx hb dX5_greedy_81 (lv_at hl 0 rfl) ?_
              refine lv_if_eq (tgt := 94) hx hb dX5_greedy_83 (by decide) (fun c15 => ?_) (fun c15 => ?_)
              · have h := h.1 c15
                refine lv_iload hx hb dX5_greedy_94 (lv_at hl 1 rfl) ?_
                exact q_reti hx hb hr hw ⟨h, rfl⟩ dX5_greedy_96
              · have h := h.2 c15
                refine lv_iload hx hb dX5_greedy_86 (lv_at hl 1 rfl) ?_
                refine lv_bipush (v := 100) hx hb dX5_greedy_88 (by decide) ?_
                refine lv_iadd hx hb dX5_greedy_90 ?_
                refine lv_goto (tgt := 96) hx hb dX5_greedy_91 (by decide) ?_
                exact q_reti hx hb hr hw ⟨h, rfl⟩ dX5_greedy_96
        · have h := h.2 c4
          refine lv_iconst (v := -1) hx hb dX5_greedy_24 (by decide) ?_
          exact q_reti hx hb hr hw ⟨h, rfl⟩ dX5_greedy_25
def wX5_sketch (v1 : Int32) (v2 : Int32) (G : GS) (B : BS) (P : Int32 → GS → BS → Prop) : Prop := ((v1 < (1 : Int32) → P (-1 : Int32) G B) ∧ (¬ v1 < (1 : Int32) → (((4 : Int32) < v1 → P (-1 : Int32) G B) ∧ (¬ (4 : Int32) < v1 → ((v2 < (2 : Int32) → P (-1 : Int32) G B) ∧ (¬ v2 < (2 : Int32) → ((v2 ≤ (32 : Int32) → (wX3_shape v1 v2 G B (fun G29 B29 => P (0 : Int32) G29 B29))) ∧ (¬ v2 ≤ (32 : Int32) → P (-1 : Int32) G B))))))))
set_option maxHeartbeats 4000000 in
set_option maxRecDepth 100000 in
theorem mX5_sketch (l : Launch) (w : WE) (cs : List Nat) (hcs : ∀ c, c < 56 → c ∈ cs) (sz : Nat) (G : GS) (B : BS) (v1 : Int32) (v2 : Int32) (P : Int32 → GS → BS → Prop) (h : wX5_sketch v1 v2 G B P) : Met l yX5_sketch wsX5_sketch (rmW 1) (PcW w cs sz G B [.ref (w.1 0), .int v1, .int v2]) (QI w cs sz (fun r G1 B1 => P r G1 B1)) 0 0 (AA w cs sz) := by
  refine metW (own := RX5) [.ref (w.1 0), .int v1, .int v2] (by decide +kernel) rfl rfl (Nat.le_of_ble_eq_true rfl) ?_
  intro p e s m below meth c ls hsz C hr hK hw hl
  subst hsz
  have hx := C.1
  have hb := C.2.1
  have hown := C.2.2.2.1
  have hta := fun w h => C.2.2.2.2 w (List.mem_cons_of_mem _ h)
  have hl : lv_has ls 3 [(0, .ref (w.1 0)), (1, .int v1), (2, .int v2)] := hl
  refine lv_iload_n hx hb dX5_sketch_0 rfl (lv_at hl 1 rfl) ?_
  refine lv_iconst (v := 1) hx hb dX5_sketch_1 (by decide) ?_
  refine lv_icmp_lt (tgt := 21) hx hb dX5_sketch_2 (by decide) (fun c1 => ?_) (fun c1 => ?_)
  · have h := h.1 c1
    refine lv_iconst (v := -1) hx hb dX5_sketch_21 (by decide) ?_
    exact q_reti hx hb hr hw h dX5_sketch_22
  · have h := h.2 c1
    refine lv_iload_n hx hb dX5_sketch_5 rfl (lv_at hl 1 rfl) ?_
    refine lv_iconst (v := 4) hx hb dX5_sketch_6 (by decide) ?_
    refine lv_icmp_gt (tgt := 21) hx hb dX5_sketch_7 (by decide) (fun c2 => ?_) (fun c2 => ?_)
    · have h := h.1 c2
      refine lv_iconst (v := -1) hx hb dX5_sketch_21 (by decide) ?_
      exact q_reti hx hb hr hw h dX5_sketch_22
    · have h := h.2 c2
      refine lv_iload_n hx hb dX5_sketch_10 rfl (lv_at hl 2 rfl) ?_
      refine lv_iconst (v := 2) hx hb dX5_sketch_11 (by decide) ?_
      refine lv_icmp_lt (tgt := 21) hx hb dX5_sketch_12 (by decide) (fun c3 => ?_) (fun c3 => ?_)
      · have h := h.1 c3
        refine lv_iconst (v := -1) hx hb dX5_sketch_21 (by decide) ?_
        exact q_reti hx hb hr hw h dX5_sketch_22
      · have h := h.2 c3
        refine lv_iload_n hx hb dX5_sketch_15 rfl (lv_at hl 2 rfl) ?_
        refine lv_bipush (v := 32) hx hb dX5_sketch_16 (by decide) ?_
        refine lv_icmp_le (tgt := 23) hx hb dX5_sketch_18 (by decide) (fun c4 => ?_) (fun c4 => ?_)
        · have h := h.1 c4
          refine lv_aload_n hx hb dX5_sketch_23 rfl (lv_at hl 0 rfl) ?_
          refine q_get (v := .ref (w.1 5)) (C := RX5) (T := TX5) (N := 7) (ci := 5) hx hb hta kw_X5 hown hK hw 0 (hcs _ (by omega)) (by unfold isB; omega) rfl rfl 4 (by decide) (hta _ kw_258) rfl rfl dX5_sketch_24 ?_
          refine lv_iload_n hx hb dX5_sketch_27 rfl (lv_at hl 1 rfl) ?_
          refine lv_iload_n hx hb dX5_sketch_28 rfl (lv_at hl 2 rfl) ?_
          refine q_callv hw (va_runV (As := [.int v1, .int v2]) (rest := []) C (mX3_shape l w cs (fun c h => hcs c (by omega)) _ G B v1 v2 _ h) (cwV 2 hta (gVw kw_260 kw_261 kw_262 kw_168 kw_259) rfl rfl rfl (by decide +kernel) ⟨Nat.le_of_ble_eq_true rfl, Nat.le_of_ble_eq_true rfl⟩) (preV hK hw 5 (hcs _ (by omega)) (by unfold isB; omega) rfl rfl _) rfl rfl hl.1 rfl (lv_room (Nat.le_of_ble_eq_true rfl)) dX5_sketch_29 ⟨Nat.le_refl 0, Nat.le_refl 0⟩) (fun G29 B29 H locs h hw => ?_)
          refine lv_iconst (v := 0) hx hb dX5_sketch_32 (by decide) ?_
          exact q_reti hx hb hr hw h dX5_sketch_33
        · have h := h.2 c4
          refine lv_iconst (v := -1) hx hb dX5_sketch_21 (by decide) ?_
          exact q_reti hx hb hr hw h dX5_sketch_22
def wX5_add (v1 : Int32) (v2 : Int32) (G : GS) (B : BS) (P : Int32 → GS → BS → Prop) : Prop := ((v1 < 0 → P (-1 : Int32) G B) ∧ (¬ v1 < 0 → (((999999 : Int32) < v1 → P (-1 : Int32) G B) ∧ (¬ (999999 : Int32) < v1 → ((v2 < (-1000 : Int32) → P (-1 : Int32) G B) ∧ (¬ v2 < (-1000 : Int32) → ((v2 ≤ (1000 : Int32) → (((G 5 2) < (100000 : Int32) → (wX3_putNumber v1 v2 G B (fun G47 B47 => P (G47 5 2) G47 B47))) ∧ (¬ (G 5 2) < (100000 : Int32) → P (-3 : Int32) G B))) ∧ (¬ v2 ≤ (1000 : Int32) → P (-1 : Int32) G B))))))))
set_option maxHeartbeats 4000000 in
set_option maxRecDepth 100000 in
theorem mX5_add (l : Launch) (w : WE) (cs : List Nat) (hcs : ∀ c, c < 56 → c ∈ cs) (sz : Nat) (G : GS) (B : BS) (v1 : Int32) (v2 : Int32) (P : Int32 → GS → BS → Prop) (h : wX5_add v1 v2 G B P) : Met l yX5_add wsX5_add (rmW 4) (PcW w cs sz G B [.ref (w.1 0), .int v1, .int v2]) (QI w cs sz (fun r G1 B1 => P r G1 B1)) 0 0 (AA w cs sz) := by
  refine metW (own := RX5) [.ref (w.1 0), .int v1, .int v2] (by decide +kernel) rfl rfl (Nat.le_of_ble_eq_true rfl) ?_
  intro p e s m below meth c ls hsz C hr hK hw hl
  subst hsz
  have hx := C.1
  have hb := C.2.1
  have hown := C.2.2.2.1
  have hta := fun w h => C.2.2.2.2 w (List.mem_cons_of_mem _ h)
  have hl : lv_has ls 3 [(0, .ref (w.1 0)), (1, .int v1), (2, .int v2)] := hl
  refine lv_iload_n hx hb dX5_add_0 rfl (lv_at hl 1 rfl) ?_
  refine lv_if_lt (tgt := 24) hx hb dX5_add_1 (by decide) (fun c1 => ?_) (fun c1 => ?_)
  · have h := h.1 c1
    refine lv_iconst (v := -1) hx hb dX5_add_24 (by decide) ?_
    exact q_reti hx hb hr hw h dX5_add_25
  · have h := h.2 c1
    refine lv_iload_n hx hb dX5_add_4 rfl (lv_at hl 1 rfl) ?_
    refine lv_ldc hx hb hown (hta _ kw_263) dX5_add_5 ?_
    refine lv_icmp_gt (tgt := 24) hx hb dX5_add_7 (by decide) (fun c2 => ?_) (fun c2 => ?_)
    · have h := h.1 c2
      refine lv_iconst (v := -1) hx hb dX5_add_24 (by decide) ?_
      exact q_reti hx hb hr hw h dX5_add_25
    · have h := h.2 c2
      refine lv_iload_n hx hb dX5_add_10 rfl (lv_at hl 2 rfl) ?_
      refine lv_sipush (v := -1000) hx hb dX5_add_11 (by decide) ?_
      refine lv_icmp_lt (tgt := 24) hx hb dX5_add_14 (by decide) (fun c3 => ?_) (fun c3 => ?_)
      · have h := h.1 c3
        refine lv_iconst (v := -1) hx hb dX5_add_24 (by decide) ?_
        exact q_reti hx hb hr hw h dX5_add_25
      · have h := h.2 c3
        refine lv_iload_n hx hb dX5_add_17 rfl (lv_at hl 2 rfl) ?_
        refine lv_sipush (v := 1000) hx hb dX5_add_18 (by decide) ?_
        refine lv_icmp_le (tgt := 26) hx hb dX5_add_21 (by decide) (fun c4 => ?_) (fun c4 => ?_)
        · have h := h.1 c4
          refine lv_aload_n hx hb dX5_add_26 rfl (lv_at hl 0 rfl) ?_
          refine q_get (v := .ref (w.1 5)) (C := RX5) (T := TX5) (N := 7) (ci := 5) hx hb hta kw_X5 hown hK hw 0 (hcs _ (by omega)) (by unfold isB; omega) rfl rfl 4 (by decide) (hta _ kw_258) rfl rfl dX5_add_27 ?_
          refine q_getN (v := .int (G 5 2)) (host := RX5) (C := RX3) (T := TX3) (N := 8) (ci := 3) hx hb hta kw_X3 hown hK hw 5 (hcs _ (by omega)) (by unfold isB; omega) rfl rfl 2 (by decide) (by decide +kernel) rfl rfl dX5_add_30 ?_
          refine lv_ldc hx hb hown (hta _ kw_264) dX5_add_33 ?_
          refine lv_icmp_lt (tgt := 41) hx hb dX5_add_35 (by decide) (fun c5 => ?_) (fun c5 => ?_)
          · have h := h.1 c5
            refine lv_aload_n hx hb dX5_add_41 rfl (lv_at hl 0 rfl) ?_
            refine q_get (v := .ref (w.1 5)) (C := RX5) (T := TX5) (N := 7) (ci := 5) hx hb hta kw_X5 hown hK hw 0 (hcs _ (by omega)) (by unfold isB; omega) rfl rfl 4 (by decide) (hta _ kw_258) rfl rfl dX5_add_42 ?_
            refine lv_iload_n hx hb dX5_add_45 rfl (lv_at hl 1 rfl) ?_
            refine lv_iload_n hx hb dX5_add_46 rfl (lv_at hl 2 rfl) ?_
            refine q_callv hw (va_runV (As := [.int v1, .int v2]) (rest := []) C (mX3_putNumber l w cs (fun c h => hcs c (by omega)) _ G B v1 v2 _ h) (cwV 2 hta (gVw kw_266 kw_267 kw_268 kw_168 kw_265) rfl rfl rfl (by decide +kernel) ⟨Nat.le_of_ble_eq_true rfl, Nat.le_of_ble_eq_true rfl⟩) (preV hK hw 5 (hcs _ (by omega)) (by unfold isB; omega) rfl rfl _) rfl rfl hl.1 rfl (lv_room (Nat.le_of_ble_eq_true rfl)) dX5_add_47 ⟨Nat.le_refl 0, Nat.le_refl 0⟩) (fun G47 B47 H locs h hw => ?_)
            refine lv_aload_n hx hb dX5_add_50 rfl (lv_at hl 0 rfl) ?_
            refine q_get (v := .ref (w.1 5)) (C := RX5) (T := TX5) (N := 7) (ci := 5) hx hb hta kw_X5 hown hK hw 0 (hcs _ (by omega)) (by unfold isB; omega) rfl rfl 4 (by decide) (hta _ kw_258) rfl rfl dX5_add_51 ?_
            refine q_getN (v := .int (G47 5 2)) (host := RX5) (C := RX3) (T := TX3) (N := 8) (ci := 3) hx hb hta kw_X3 hown hK hw 5 (hcs _ (by omega)) (by unfold isB; omega) rfl rfl 2 (by decide) (by decide +kernel) rfl rfl dX5_add_54 ?_
            exact q_reti hx hb hr hw h dX5_add_57
          · have h := h.2 c5
            refine lv_bipush (v := -3) hx hb dX5_add_38 (by decide) ?_
            exact q_reti hx hb hr hw h dX5_add_40
        · have h := h.2 c4
          refine lv_iconst (v := -1) hx hb dX5_add_24 (by decide) ?_
          exact q_reti hx hb hr hw h dX5_add_25
def wX5_decode (G : GS) (B : BS) (P : Int32 → GS → BS → Prop) : Prop := (wX3_tellAll G B (fun r4 G4 B4 => ((r4 = 0 → P (G4 5 3) G4 B4) ∧ (¬ r4 = 0 → P ((G4 5 3) + (10000 : Int32)) G4 B4))))
set_option maxHeartbeats 4000000 in
set_option maxRecDepth 100000 in
theorem mX5_decode (l : Launch) (w : WE) (cs : List Nat) (hcs : ∀ c, c < 56 → c ∈ cs) (sz : Nat) (G : GS) (B : BS) (P : Int32 → GS → BS → Prop) (h : wX5_decode G B P) : Met l yX5_decode wsX5_decode (rmW 5) (PcW w cs sz G B [.ref (w.1 0)]) (QI w cs sz (fun r G1 B1 => P r G1 B1)) 0 0 (AA w cs sz) := by
  refine metW (own := RX5) [.ref (w.1 0)] (by decide +kernel) rfl rfl (Nat.le_of_ble_eq_true rfl) ?_
  intro p e s m below meth c ls hsz C hr hK hw hl
  subst hsz
  have hx := C.1
  have hb := C.2.1
  have hown := C.2.2.2.1
  have hta := fun w h => C.2.2.2.2 w (List.mem_cons_of_mem _ h)
  have hl : lv_has ls 2 [(0, .ref (w.1 0))] := hl
  refine lv_aload_n hx hb dX5_decode_0 rfl (lv_at hl 0 rfl) ?_
  refine q_get (v := .ref (w.1 5)) (C := RX5) (T := TX5) (N := 7) (ci := 5) hx hb hta kw_X5 hown hK hw 0 (hcs _ (by omega)) (by unfold isB; omega) rfl rfl 4 (by decide) (hta _ kw_258) rfl rfl dX5_decode_1 ?_
  refine q_calli hw (va_runV (As := []) (rest := []) C (mX3_tellAll l w cs (fun c h => hcs c (by omega)) _ G B _ h) (cwV 0 hta (gVw kw_270 kw_271 kw_272 kw_168 kw_269) rfl rfl rfl (by decide +kernel) ⟨Nat.le_of_ble_eq_true rfl, Nat.le_of_ble_eq_true rfl⟩) (preV hK hw 5 (hcs _ (by omega)) (by unfold isB; omega) rfl rfl _) rfl rfl hl.1 rfl (lv_room (Nat.le_of_ble_eq_true rfl)) dX5_decode_4 ⟨Nat.le_refl 0, Nat.le_refl 0⟩) (fun r4 G4 B4 H locs h hw => ?_)
  refine lv_istore_n (lv' := [(1, .int r4), (0, .ref (w.1 0))]) hx hb dX5_decode_7 rfl hl (by decide) rfl (fun ls hl => ?_)
  refine lv_iload_n hx hb dX5_decode_8 rfl (lv_at hl 0 rfl) ?_
  refine lv_if_eq (tgt := 26) hx hb dX5_decode_9 (by decide) (fun c1 => ?_) (fun c1 => ?_)
  · have h := h.1 c1
    refine lv_aload_n hx hb dX5_decode_26 rfl (lv_at hl 1 rfl) ?_
    refine q_get (v := .ref (w.1 5)) (C := RX5) (T := TX5) (N := 7) (ci := 5) hx hb hta kw_X5 hown hK hw 0 (hcs _ (by omega)) (by unfold isB; omega) rfl rfl 4 (by decide) (hta _ kw_258) rfl rfl dX5_decode_27 ?_
    refine q_getN (v := .int (G4 5 3)) (host := RX5) (C := RX3) (T := TX3) (N := 8) (ci := 3) hx hb hta kw_X3 hown hK hw 5 (hcs _ (by omega)) (by unfold isB; omega) rfl rfl 3 (by decide) (by decide +kernel) rfl rfl dX5_decode_30 ?_
    exact q_reti hx hb hr hw h dX5_decode_33
  · have h := h.2 c1
    refine lv_aload_n hx hb dX5_decode_12 rfl (lv_at hl 1 rfl) ?_
    refine q_get (v := .ref (w.1 5)) (C := RX5) (T := TX5) (N := 7) (ci := 5) hx hb hta kw_X5 hown hK hw 0 (hcs _ (by omega)) (by unfold isB; omega) rfl rfl 4 (by decide) (hta _ kw_258) rfl rfl dX5_decode_13 ?_
    refine q_getN (v := .int (G4 5 3)) (host := RX5) (C := RX3) (T := TX3) (N := 8) (ci := 3) hx hb hta kw_X3 hown hK hw 5 (hcs _ (by omega)) (by unfold isB; omega) rfl rfl 3 (by decide) (by decide +kernel) rfl rfl dX5_decode_16 ?_
    refine lv_sipush (v := 10000) hx hb dX5_decode_19 (by decide) ?_
    refine lv_iadd hx hb dX5_decode_22 ?_
    refine lv_goto (tgt := 33) hx hb dX5_decode_23 (by decide) ?_
    exact q_reti hx hb hr hw h dX5_decode_33
def wX5_decoded (v1 : Int32) (v2 : Int32) (G : GS) (P : Int32 → Prop) : Prop := ((v1 < 0 → P (-1000000001 : Int32)) ∧ (¬ v1 < 0 → ((v2 < 0 → P (-1000000001 : Int32)) ∧ (¬ v2 < 0 → ((v2 ≤ (1 : Int32) → (((G 5 3) ≤ v1 → P (-1000000004 : Int32)) ∧ (¬ (G 5 3) ≤ v1 → ((v1 < (100 : Int32) → ((¬ v2 = 0 → (vp_in v1 100 ∧ P (G 19 (cl v1)))) ∧ (v2 = 0 → (vp_in v1 100 ∧ P (G 18 (cl v1)))))) ∧ (¬ v1 < (100 : Int32) → P (-1000000004 : Int32)))))) ∧ (¬ v2 ≤ (1 : Int32) → P (-1000000001 : Int32)))))))
set_option maxHeartbeats 4000000 in
set_option maxRecDepth 100000 in
theorem mX5_decoded (l : Launch) (w : WE) (cs : List Nat) (hcs : ∀ c, c < 56 → c ∈ cs) (sz : Nat) (G : GS) (B : BS) (v1 : Int32) (v2 : Int32) (P : Int32 → Prop) (h : wX5_decoded v1 v2 G P) : Met l yX5_decoded wsX5_decoded (rmW 0) (PcW w cs sz G B [.ref (w.1 0), .int v1, .int v2]) (QI w cs sz (fun r G1 B1 => P r ∧ G = G1 ∧ B = B1)) 0 0 (AA w cs sz) := by
  refine metW (own := RX5) [.ref (w.1 0), .int v1, .int v2] (by decide +kernel) rfl rfl (Nat.le_of_ble_eq_true rfl) ?_
  intro p e s m below meth c ls hsz C hr hK hw hl
  subst hsz
  have hx := C.1
  have hb := C.2.1
  have hown := C.2.2.2.1
  have hta := fun w h => C.2.2.2.2 w (List.mem_cons_of_mem _ h)
  have hl : lv_has ls 3 [(0, .ref (w.1 0)), (1, .int v1), (2, .int v2)] := hl
  refine lv_iload_n hx hb dX5_decoded_0 rfl (lv_at hl 1 rfl) ?_
  refine lv_if_lt (tgt := 13) hx hb dX5_decoded_1 (by decide) (fun c1 => ?_) (fun c1 => ?_)
  · have h := h.1 c1
    refine lv_ldc hx hb hown (hta _ kw_273) dX5_decoded_13 ?_
    exact q_reti hx hb hr hw ⟨h, rfl, rfl⟩ dX5_decoded_15
  · have h := h.2 c1
    refine lv_iload_n hx hb dX5_decoded_4 rfl (lv_at hl 2 rfl) ?_
    refine lv_if_lt (tgt := 13) hx hb dX5_decoded_5 (by decide) (fun c2 => ?_) (fun c2 => ?_)
    · have h := h.1 c2
      refine lv_ldc hx hb hown (hta _ kw_273) dX5_decoded_13 ?_
      exact q_reti hx hb hr hw ⟨h, rfl, rfl⟩ dX5_decoded_15
    · have h := h.2 c2
      refine lv_iload_n hx hb dX5_decoded_8 rfl (lv_at hl 2 rfl) ?_
      refine lv_iconst (v := 1) hx hb dX5_decoded_9 (by decide) ?_
      refine lv_icmp_le (tgt := 16) hx hb dX5_decoded_10 (by decide) (fun c3 => ?_) (fun c3 => ?_)
      · have h := h.1 c3
        refine lv_iload_n hx hb dX5_decoded_16 rfl (lv_at hl 1 rfl) ?_
        refine lv_aload_n hx hb dX5_decoded_17 rfl (lv_at hl 0 rfl) ?_
        refine q_get (v := .ref (w.1 5)) (C := RX5) (T := TX5) (N := 7) (ci := 5) hx hb hta kw_X5 hown hK hw 0 (hcs _ (by omega)) (by unfold isB; omega) rfl rfl 4 (by decide) (hta _ kw_258) rfl rfl dX5_decoded_18 ?_
        refine q_getN (v := .int (G 5 3)) (host := RX5) (C := RX3) (T := TX3) (N := 8) (ci := 3) hx hb hta kw_X3 hown hK hw 5 (hcs _ (by omega)) (by unfold isB; omega) rfl rfl 3 (by decide) (by decide +kernel) rfl rfl dX5_decoded_21 ?_
        refine lv_icmp_ge (tgt := 33) hx hb dX5_decoded_24 (by decide) (fun c4 => ?_) (fun c4 => ?_)
        · have h := h.1 c4
          refine lv_ldc hx hb hown (hta _ kw_274) dX5_decoded_33 ?_
          exact q_reti hx hb hr hw ⟨h, rfl, rfl⟩ dX5_decoded_35
        · have h := h.2 c4
          refine lv_iload_n hx hb dX5_decoded_27 rfl (lv_at hl 1 rfl) ?_
          refine lv_bipush (v := 100) hx hb dX5_decoded_28 (by decide) ?_
          refine lv_icmp_lt (tgt := 36) hx hb dX5_decoded_30 (by decide) (fun c5 => ?_) (fun c5 => ?_)
          · have h := h.1 c5
            refine lv_iload_n hx hb dX5_decoded_36 rfl (lv_at hl 2 rfl) ?_
            refine lv_if_ne (tgt := 52) hx hb dX5_decoded_37 (by decide) (fun c6 => ?_) (fun c6 => ?_)
            · have h := h.1 c6
              refine lv_aload_n hx hb dX5_decoded_52 rfl (lv_at hl 0 rfl) ?_
              refine q_get (v := .ref (w.1 5)) (C := RX5) (T := TX5) (N := 7) (ci := 5) hx hb hta kw_X5 hown hK hw 0 (hcs _ (by omega)) (by unfold isB; omega) rfl rfl 4 (by decide) (hta _ kw_258) rfl rfl dX5_decoded_53 ?_
              refine q_getN (v := .ref (w.1 19)) (host := RX5) (C := RX3) (T := TX3) (N := 8) (ci := 3) hx hb hta kw_X3 hown hK hw 5 (hcs _ (by omega)) (by unfold isB; omega) rfl rfl 7 (by decide) (by decide +kernel) rfl rfl dX5_decoded_56 ?_
              refine lv_iload_n hx hb dX5_decoded_59 rfl (lv_at hl 1 rfl) ?_
              obtain ⟨hin7, h⟩ := h
              refine q_iald (n := 100) hx hb hK hw (hcs _ (by omega)) (by unfold isI; omega) rfl hin7 dX5_decoded_60 ?_
              exact q_reti hx hb hr hw ⟨h, rfl, rfl⟩ dX5_decoded_61
            · have h := h.2 c6
              refine lv_aload_n hx hb dX5_decoded_40 rfl (lv_at hl 0 rfl) ?_
              refine q_get (v := .ref (w.1 5)) (C := RX5) (T := TX5) (N := 7) (ci := 5) hx hb hta kw_X5 hown hK hw 0 (hcs _ (by omega)) (by unfold isB; omega) rfl rfl 4 (by decide) (hta _ kw_258) rfl rfl dX5_decoded_41 ?_
              refine q_getN (v := .ref (w.1 18)) (host := RX5) (C := RX3) (T := TX3) (N := 8) (ci := 3) hx hb hta kw_X3 hown hK hw 5 (hcs _ (by omega)) (by unfold isB; omega) rfl rfl 6 (by decide) (by decide +kernel) rfl rfl dX5_decoded_44 ?_
              refine lv_iload_n hx hb dX5_decoded_47 rfl (lv_at hl 1 rfl) ?_
              obtain ⟨hin8, h⟩ := h
              refine q_iald (n := 100) hx hb hK hw (hcs _ (by omega)) (by unfold isI; omega) rfl hin8 dX5_decoded_48 ?_
              refine lv_goto (tgt := 61) hx hb dX5_decoded_49 (by decide) ?_
              exact q_reti hx hb hr hw ⟨h, rfl, rfl⟩ dX5_decoded_61
          · have h := h.2 c5
            refine lv_ldc hx hb hown (hta _ kw_274) dX5_decoded_33 ?_
            exact q_reti hx hb hr hw ⟨h, rfl, rfl⟩ dX5_decoded_35
      · have h := h.2 c3
        refine lv_ldc hx hb hown (hta _ kw_273) dX5_decoded_13 ?_
        exact q_reti hx hb hr hw ⟨h, rfl, rfl⟩ dX5_decoded_15
def wX5_bucket (v1 : Int32) (v2 : Int32) (v3 : Int32) (G : GS) (B : BS) (P : Int64 → Prop) : Prop := ((v1 < 0 → P (-1000000000000000000 : Int64)) ∧ (¬ v1 < 0 → (((G 5 0) ≤ v1 → P (-1000000000000000000 : Int64)) ∧ (¬ (G 5 0) ≤ v1 → ((v2 < 0 → P (-1000000000000000000 : Int64)) ∧ (¬ v2 < 0 → (((G 5 1) ≤ v2 → P (-1000000000000000000 : Int64)) ∧ (¬ (G 5 1) ≤ v2 → ((v3 < 0 → P (-1000000000000000000 : Int64)) ∧ (¬ v3 < 0 → ((v3 < (3 : Int32) → (wX3_start v1 v2 (fun r52 => (vp_in (r52 + v3) 384 ∧ P (B 16 (cl (r52 + v3))))))) ∧ (¬ v3 < (3 : Int32) → P (-1000000000000000000 : Int64)))))))))))))
set_option maxHeartbeats 4000000 in
set_option maxRecDepth 100000 in
theorem mX5_bucket (l : Launch) (w : WE) (cs : List Nat) (hcs : ∀ c, c < 56 → c ∈ cs) (sz : Nat) (G : GS) (B : BS) (v1 : Int32) (v2 : Int32) (v3 : Int32) (P : Int64 → Prop) (h : wX5_bucket v1 v2 v3 G B P) : Met l yX5_bucket wsX5_bucket (rmW 1) (PcW w cs sz G B [.ref (w.1 0), .int v1, .int v2, .int v3]) (QL w cs sz (fun r G1 B1 => P r ∧ G = G1 ∧ B = B1)) 0 0 (AA w cs sz) := by
  refine metW (own := RX5) [.ref (w.1 0), .int v1, .int v2, .int v3] (by decide +kernel) rfl rfl (Nat.le_of_ble_eq_true rfl) ?_
  intro p e s m below meth c ls hsz C hr hK hw hl
  subst hsz
  have hx := C.1
  have hb := C.2.1
  have hown := C.2.2.2.1
  have hta := fun w h => C.2.2.2.2 w (List.mem_cons_of_mem _ h)
  have hl : lv_has ls 4 [(0, .ref (w.1 0)), (1, .int v1), (2, .int v2), (3, .int v3)] := hl
  refine lv_iload_n hx hb dX5_bucket_0 rfl (lv_at hl 1 rfl) ?_
  refine lv_if_lt (tgt := 39) hx hb dX5_bucket_1 (by decide) (fun c1 => ?_) (fun c1 => ?_)
  · have h := h.1 c1
    refine lv_ldc2 hx hb hown (hta _ kw_275) dX5_bucket_39 ?_
    exact q_retl hx hb hr hw ⟨h, rfl, rfl⟩ dX5_bucket_42
  · have h := h.2 c1
    refine lv_iload_n hx hb dX5_bucket_4 rfl (lv_at hl 1 rfl) ?_
    refine lv_aload_n hx hb dX5_bucket_5 rfl (lv_at hl 0 rfl) ?_
    refine q_get (v := .ref (w.1 5)) (C := RX5) (T := TX5) (N := 7) (ci := 5) hx hb hta kw_X5 hown hK hw 0 (hcs _ (by omega)) (by unfold isB; omega) rfl rfl 4 (by decide) (hta _ kw_258) rfl rfl dX5_bucket_6 ?_
    refine q_getN (v := .int (G 5 0)) (host := RX5) (C := RX3) (T := TX3) (N := 8) (ci := 3) hx hb hta kw_X3 hown hK hw 5 (hcs _ (by omega)) (by unfold isB; omega) rfl rfl 0 (by decide) (by decide +kernel) rfl rfl dX5_bucket_9 ?_
    refine lv_icmp_ge (tgt := 39) hx hb dX5_bucket_12 (by decide) (fun c2 => ?_) (fun c2 => ?_)
    · have h := h.1 c2
      refine lv_ldc2 hx hb hown (hta _ kw_275) dX5_bucket_39 ?_
      exact q_retl hx hb hr hw ⟨h, rfl, rfl⟩ dX5_bucket_42
    · have h := h.2 c2
      refine lv_iload_n hx hb dX5_bucket_15 rfl (lv_at hl 2 rfl) ?_
      refine lv_if_lt (tgt := 39) hx hb dX5_bucket_16 (by decide) (fun c3 => ?_) (fun c3 => ?_)
      · have h := h.1 c3
        refine lv_ldc2 hx hb hown (hta _ kw_275) dX5_bucket_39 ?_
        exact q_retl hx hb hr hw ⟨h, rfl, rfl⟩ dX5_bucket_42
      · have h := h.2 c3
        refine lv_iload_n hx hb dX5_bucket_19 rfl (lv_at hl 2 rfl) ?_
        refine lv_aload_n hx hb dX5_bucket_20 rfl (lv_at hl 0 rfl) ?_
        refine q_get (v := .ref (w.1 5)) (C := RX5) (T := TX5) (N := 7) (ci := 5) hx hb hta kw_X5 hown hK hw 0 (hcs _ (by omega)) (by unfold isB; omega) rfl rfl 4 (by decide) (hta _ kw_258) rfl rfl dX5_bucket_21 ?_
        refine q_getN (v := .int (G 5 1)) (host := RX5) (C := RX3) (T := TX3) (N := 8) (ci := 3) hx hb hta kw_X3 hown hK hw 5 (hcs _ (by omega)) (by unfold isB; omega) rfl rfl 1 (by decide) (by decide +kernel) rfl rfl dX5_bucket_24 ?_
        refine lv_icmp_ge (tgt := 39) hx hb dX5_bucket_27 (by decide) (fun c4 => ?_) (fun c4 => ?_)
        · have h := h.1 c4
          refine lv_ldc2 hx hb hown (hta _ kw_275) dX5_bucket_39 ?_
          exact q_retl hx hb hr hw ⟨h, rfl, rfl⟩ dX5_bucket_42
        · have h := h.2 c4
          refine lv_iload_n hx hb dX5_bucket_30 rfl (lv_at hl 3 rfl) ?_
          refine lv_if_lt (tgt := 39) hx hb dX5_bucket_31 (by decide) (fun c5 => ?_) (fun c5 => ?_)
          · have h := h.1 c5
            refine lv_ldc2 hx hb hown (hta _ kw_275) dX5_bucket_39 ?_
            exact q_retl hx hb hr hw ⟨h, rfl, rfl⟩ dX5_bucket_42
          · have h := h.2 c5
            refine lv_iload_n hx hb dX5_bucket_34 rfl (lv_at hl 3 rfl) ?_
            refine lv_iconst (v := 3) hx hb dX5_bucket_35 (by decide) ?_
            refine lv_icmp_lt (tgt := 43) hx hb dX5_bucket_36 (by decide) (fun c6 => ?_) (fun c6 => ?_)
            · have h := h.1 c6
              refine lv_aload_n hx hb dX5_bucket_43 rfl (lv_at hl 0 rfl) ?_
              refine q_get (v := .ref (w.1 5)) (C := RX5) (T := TX5) (N := 7) (ci := 5) hx hb hta kw_X5 hown hK hw 0 (hcs _ (by omega)) (by unfold isB; omega) rfl rfl 4 (by decide) (hta _ kw_258) rfl rfl dX5_bucket_44 ?_
              refine q_getN (v := .ref (w.1 16)) (host := RX5) (C := RX3) (T := TX3) (N := 8) (ci := 3) hx hb hta kw_X3 hown hK hw 5 (hcs _ (by omega)) (by unfold isB; omega) rfl rfl 4 (by decide) (by decide +kernel) rfl rfl dX5_bucket_47 ?_
              refine lv_iload_n hx hb dX5_bucket_50 rfl (lv_at hl 1 rfl) ?_
              refine lv_iload_n hx hb dX5_bucket_51 rfl (lv_at hl 2 rfl) ?_
              refine q_calli hw (va_runS (As := [.int v1, .int v2]) (rest := [.ref (w.1 16)]) C (mX3_start l w cs _ G B v1 v2 _ h) (va_cwS 2 hta (gSw kw_276 kw_175 kw_168 kw_173) rfl rfl rfl (by decide +kernel) ⟨Nat.le_of_ble_eq_true rfl, Nat.le_of_ble_eq_true rfl⟩) (preS hK hw _) rfl rfl hl.1 rfl (lv_room (Nat.le_of_ble_eq_true rfl)) dX5_bucket_52 ⟨Nat.le_refl 0, Nat.le_refl 0⟩) (fun r52 G52 B52 H locs h hw => ?_)
              obtain ⟨h, e1, e2⟩ := h; subst e1; subst e2
              refine lv_iload_n hx hb dX5_bucket_55 rfl (lv_at hl 3 rfl) ?_
              refine lv_iadd hx hb dX5_bucket_56 ?_
              obtain ⟨hin7, h⟩ := h
              refine q_lald (n := 384) hx hb hK hw (hcs _ (by omega)) (by unfold isJ; omega) rfl hin7 dX5_bucket_57 ?_
              exact q_retl hx hb hr hw ⟨h, rfl, rfl⟩ dX5_bucket_58
            · have h := h.2 c6
              refine lv_ldc2 hx hb hown (hta _ kw_275) dX5_bucket_39 ?_
              exact q_retl hx hb hr hw ⟨h, rfl, rfl⟩ dX5_bucket_42
def wX5_count (v1 : Int32) (G : GS) (P : Int32 → Prop) : Prop := ((v1 = 0 → P (G 1 0)) ∧ ((v1 = 1 → P (G 1 1)) ∧ ((v1 = 2 → P (G 1 2)) ∧ ((v1 = 3 → P (G 5 0)) ∧ ((v1 = 4 → P (G 5 1)) ∧ ((v1 = 5 → P (G 5 2)) ∧ (¬ v1 = 0 ∧ ¬ v1 = 1 ∧ ¬ v1 = 2 ∧ ¬ v1 = 3 ∧ ¬ v1 = 4 ∧ ¬ v1 = 5 → P (-1 : Int32))))))))
set_option maxHeartbeats 4000000 in
set_option maxRecDepth 100000 in
theorem mX5_count (l : Launch) (w : WE) (cs : List Nat) (hcs : ∀ c, c < 56 → c ∈ cs) (sz : Nat) (G : GS) (B : BS) (v1 : Int32) (P : Int32 → Prop) (h : wX5_count v1 G P) : Met l yX5_count wsX5_count (rmW 0) (PcW w cs sz G B [.ref (w.1 0), .int v1]) (QI w cs sz (fun r G1 B1 => P r ∧ G = G1 ∧ B = B1)) 0 0 (AA w cs sz) := by
  refine metW (own := RX5) [.ref (w.1 0), .int v1] (by decide +kernel) rfl rfl (Nat.le_of_ble_eq_true rfl) ?_
  intro p e s m below meth c ls hsz C hr hK hw hl
  subst hsz
  have hx := C.1
  have hb := C.2.1
  have hown := C.2.2.2.1
  have hta := fun w h => C.2.2.2.2 w (List.mem_cons_of_mem _ h)
  have hl : lv_has ls 2 [(0, .ref (w.1 0)), (1, .int v1)] := hl
  refine lv_iload_n hx hb dX5_count_0 rfl (lv_at hl 1 rfl) ?_
  by_cases c1 : v1 = 0
  · have h := h.1 c1
    refine lv_tableIn (tgt := 40) hx hb dX5_count_1 (by rw [c1]; decide) (by rw [c1]; decide) (by rw [c1]; rfl) (by decide) ?_
    refine lv_aload_n hx hb dX5_count_40 rfl (lv_at hl 0 rfl) ?_
    refine q_get (v := .ref (w.1 1)) (C := RX5) (T := TX5) (N := 7) (ci := 5) hx hb hta kw_X5 hown hK hw 0 (hcs _ (by omega)) (by unfold isB; omega) rfl rfl 0 (by decide) (hta _ kw_208) rfl rfl dX5_count_41 ?_
    refine q_getN (v := .int (G 1 0)) (host := RX5) (C := RX4) (T := TX4) (N := 5) (ci := 4) hx hb hta kw_X4 hown hK hw 1 (hcs _ (by omega)) (by unfold isB; omega) rfl rfl 0 (by decide) (by decide +kernel) rfl rfl dX5_count_44 ?_
    exact q_reti hx hb hr hw ⟨h, rfl, rfl⟩ dX5_count_47
  have h := h.2
  by_cases c2 : v1 = 1
  · have h := h.1 c2
    refine lv_tableIn (tgt := 48) hx hb dX5_count_1 (by rw [c2]; decide) (by rw [c2]; decide) (by rw [c2]; rfl) (by decide) ?_
    refine lv_aload_n hx hb dX5_count_48 rfl (lv_at hl 0 rfl) ?_
    refine q_get (v := .ref (w.1 1)) (C := RX5) (T := TX5) (N := 7) (ci := 5) hx hb hta kw_X5 hown hK hw 0 (hcs _ (by omega)) (by unfold isB; omega) rfl rfl 0 (by decide) (hta _ kw_208) rfl rfl dX5_count_49 ?_
    refine q_getN (v := .int (G 1 1)) (host := RX5) (C := RX4) (T := TX4) (N := 5) (ci := 4) hx hb hta kw_X4 hown hK hw 1 (hcs _ (by omega)) (by unfold isB; omega) rfl rfl 1 (by decide) (by decide +kernel) rfl rfl dX5_count_52 ?_
    exact q_reti hx hb hr hw ⟨h, rfl, rfl⟩ dX5_count_55
  have h := h.2
  by_cases c3 : v1 = 2
  · have h := h.1 c3
    refine lv_tableIn (tgt := 56) hx hb dX5_count_1 (by rw [c3]; decide) (by rw [c3]; decide) (by rw [c3]; rfl) (by decide) ?_
    refine lv_aload_n hx hb dX5_count_56 rfl (lv_at hl 0 rfl) ?_
    refine q_get (v := .ref (w.1 1)) (C := RX5) (T := TX5) (N := 7) (ci := 5) hx hb hta kw_X5 hown hK hw 0 (hcs _ (by omega)) (by unfold isB; omega) rfl rfl 0 (by decide) (hta _ kw_208) rfl rfl dX5_count_57 ?_
    refine q_getN (v := .int (G 1 2)) (host := RX5) (C := RX4) (T := TX4) (N := 5) (ci := 4) hx hb hta kw_X4 hown hK hw 1 (hcs _ (by omega)) (by unfold isB; omega) rfl rfl 2 (by decide) (by decide +kernel) rfl rfl dX5_count_60 ?_
    exact q_reti hx hb hr hw ⟨h, rfl, rfl⟩ dX5_count_63
  have h := h.2
  by_cases c4 : v1 = 3
  · have h := h.1 c4
    refine lv_tableIn (tgt := 64) hx hb dX5_count_1 (by rw [c4]; decide) (by rw [c4]; decide) (by rw [c4]; rfl) (by decide) ?_
    refine lv_aload_n hx hb dX5_count_64 rfl (lv_at hl 0 rfl) ?_
    refine q_get (v := .ref (w.1 5)) (C := RX5) (T := TX5) (N := 7) (ci := 5) hx hb hta kw_X5 hown hK hw 0 (hcs _ (by omega)) (by unfold isB; omega) rfl rfl 4 (by decide) (hta _ kw_258) rfl rfl dX5_count_65 ?_
    refine q_getN (v := .int (G 5 0)) (host := RX5) (C := RX3) (T := TX3) (N := 8) (ci := 3) hx hb hta kw_X3 hown hK hw 5 (hcs _ (by omega)) (by unfold isB; omega) rfl rfl 0 (by decide) (by decide +kernel) rfl rfl dX5_count_68 ?_
    exact q_reti hx hb hr hw ⟨h, rfl, rfl⟩ dX5_count_71
  have h := h.2
  by_cases c5 : v1 = 4
  · have h := h.1 c5
    refine lv_tableIn (tgt := 72) hx hb dX5_count_1 (by rw [c5]; decide) (by rw [c5]; decide) (by rw [c5]; rfl) (by decide) ?_
    refine lv_aload_n hx hb dX5_count_72 rfl (lv_at hl 0 rfl) ?_
    refine q_get (v := .ref (w.1 5)) (C := RX5) (T := TX5) (N := 7) (ci := 5) hx hb hta kw_X5 hown hK hw 0 (hcs _ (by omega)) (by unfold isB; omega) rfl rfl 4 (by decide) (hta _ kw_258) rfl rfl dX5_count_73 ?_
    refine q_getN (v := .int (G 5 1)) (host := RX5) (C := RX3) (T := TX3) (N := 8) (ci := 3) hx hb hta kw_X3 hown hK hw 5 (hcs _ (by omega)) (by unfold isB; omega) rfl rfl 1 (by decide) (by decide +kernel) rfl rfl dX5_count_76 ?_
    exact q_reti hx hb hr hw ⟨h, rfl, rfl⟩ dX5_count_79
  have h := h.2
  by_cases c6 : v1 = 5
  · have h := h.1 c6
    refine lv_tableIn (tgt := 80) hx hb dX5_count_1 (by rw [c6]; decide) (by rw [c6]; decide) (by rw [c6]; rfl) (by decide) ?_
    refine lv_aload_n hx hb dX5_count_80 rfl (lv_at hl 0 rfl) ?_
    refine q_get (v := .ref (w.1 5)) (C := RX5) (T := TX5) (N := 7) (ci := 5) hx hb hta kw_X5 hown hK hw 0 (hcs _ (by omega)) (by unfold isB; omega) rfl rfl 4 (by decide) (hta _ kw_258) rfl rfl dX5_count_81 ?_
    refine q_getN (v := .int (G 5 2)) (host := RX5) (C := RX3) (T := TX3) (N := 8) (ci := 3) hx hb hta kw_X3 hown hK hw 5 (hcs _ (by omega)) (by unfold isB; omega) rfl rfl 2 (by decide) (by decide +kernel) rfl rfl dX5_count_84 ?_
    exact q_reti hx hb hr hw ⟨h, rfl, rfl⟩ dX5_count_87
  have h := h.2
  have h := h ⟨c1, c2, c3, c4, c5, c6⟩
  refine lv_tableOut (tgt := 88) hx hb dX5_count_1 (tsw_out5 c1 c2 c3 c4 c5 c6) (by decide) ?_
  refine lv_iconst (v := -1) hx hb dX5_count_88 (by decide) ?_
  exact q_reti hx hb hr hw ⟨h, rfl, rfl⟩ dX5_count_89
